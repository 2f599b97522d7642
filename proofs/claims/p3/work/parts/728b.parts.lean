theorem d_DiscMakerModel_components_0 : decode b_DiscMakerModel_components 0 = .ok (.aload_n 0, 1) := by decide +kernel
theorem d_DiscMakerModel_components_1 : decode b_DiscMakerModel_components 1 = .ok (.getfield 44, 3) := by decide +kernel
theorem d_DiscMakerModel_components_4 : decode b_DiscMakerModel_components 4 = .ok (.iload_n 1, 1) := by decide +kernel
theorem d_DiscMakerModel_components_5 : decode b_DiscMakerModel_components 5 = .ok (.iaload, 1) := by decide +kernel
theorem d_DiscMakerModel_components_6 : decode b_DiscMakerModel_components 6 = .ok (.istore_n 3, 1) := by decide +kernel
theorem d_DiscMakerModel_components_7 : decode b_DiscMakerModel_components 7 = .ok (.iconst 0, 1) := by decide +kernel
theorem d_DiscMakerModel_components_8 : decode b_DiscMakerModel_components 8 = .ok (.istore 4, 2) := by decide +kernel
theorem d_DiscMakerModel_components_10 : decode b_DiscMakerModel_components 10 = .ok (.aload_n 0, 1) := by decide +kernel
theorem d_DiscMakerModel_components_11 : decode b_DiscMakerModel_components 11 = .ok (.getfield 41, 3) := by decide +kernel
theorem d_DiscMakerModel_components_14 : decode b_DiscMakerModel_components 14 = .ok (.sipush 200, 3) := by decide +kernel
theorem d_DiscMakerModel_components_17 : decode b_DiscMakerModel_components 17 = .ok (.iload_n 1, 1) := by decide +kernel
theorem d_DiscMakerModel_components_18 : decode b_DiscMakerModel_components 18 = .ok (.imul, 1) := by decide +kernel
theorem d_DiscMakerModel_components_19 : decode b_DiscMakerModel_components 19 = .ok (.baload, 1) := by decide +kernel
theorem d_DiscMakerModel_components_20 : decode b_DiscMakerModel_components 20 = .ok (.bipush 47, 2) := by decide +kernel
theorem d_DiscMakerModel_components_22 : decode b_DiscMakerModel_components 22 = .ok (.if_icmp .ne 16, 3) := by decide +kernel
theorem d_DiscMakerModel_components_25 : decode b_DiscMakerModel_components 25 = .ok (.aload_n 0, 1) := by decide +kernel
theorem d_DiscMakerModel_components_26 : decode b_DiscMakerModel_components 26 = .ok (.iload_n 2, 1) := by decide +kernel
theorem d_DiscMakerModel_components_27 : decode b_DiscMakerModel_components 27 = .ok (.iload 4, 2) := by decide +kernel
theorem d_DiscMakerModel_components_29 : decode b_DiscMakerModel_components 29 = .ok (.bipush 8, 2) := by decide +kernel
theorem d_DiscMakerModel_components_31 : decode b_DiscMakerModel_components 31 = .ok (.iconst 0, 1) := by decide +kernel
theorem d_DiscMakerModel_components_32 : decode b_DiscMakerModel_components 32 = .ok (.invokevirtual 206, 3) := by decide +kernel
theorem d_DiscMakerModel_components_35 : decode b_DiscMakerModel_components 35 = .ok (.iinc 4 2, 3) := by decide +kernel
theorem d_DiscMakerModel_components_38 : decode b_DiscMakerModel_components 38 = .ok (.iconst 0, 1) := by decide +kernel
theorem d_DiscMakerModel_components_39 : decode b_DiscMakerModel_components 39 = .ok (.istore 5, 2) := by decide +kernel
theorem d_DiscMakerModel_components_41 : decode b_DiscMakerModel_components 41 = .ok (.iload 5, 2) := by decide +kernel
theorem d_DiscMakerModel_components_43 : decode b_DiscMakerModel_components 43 = .ok (.iload_n 3, 1) := by decide +kernel
theorem d_DiscMakerModel_components_44 : decode b_DiscMakerModel_components 44 = .ok (.if_icmp .ge 223, 3) := by decide +kernel
theorem d_DiscMakerModel_components_47 : decode b_DiscMakerModel_components 47 = .ok (.iload 5, 2) := by decide +kernel
theorem d_DiscMakerModel_components_49 : decode b_DiscMakerModel_components 49 = .ok (.istore 6, 2) := by decide +kernel
theorem d_DiscMakerModel_components_51 : decode b_DiscMakerModel_components 51 = .ok (.iload 6, 2) := by decide +kernel
theorem d_DiscMakerModel_components_53 : decode b_DiscMakerModel_components 53 = .ok (.iload_n 3, 1) := by decide +kernel
theorem d_DiscMakerModel_components_54 : decode b_DiscMakerModel_components 54 = .ok (.if_icmp .ge 27, 3) := by decide +kernel
theorem d_DiscMakerModel_components_57 : decode b_DiscMakerModel_components 57 = .ok (.aload_n 0, 1) := by decide +kernel
theorem d_DiscMakerModel_components_58 : decode b_DiscMakerModel_components 58 = .ok (.getfield 41, 3) := by decide +kernel
theorem d_DiscMakerModel_components_61 : decode b_DiscMakerModel_components 61 = .ok (.sipush 200, 3) := by decide +kernel
theorem d_DiscMakerModel_components_64 : decode b_DiscMakerModel_components 64 = .ok (.iload_n 1, 1) := by decide +kernel
theorem d_DiscMakerModel_components_65 : decode b_DiscMakerModel_components 65 = .ok (.imul, 1) := by decide +kernel
theorem d_DiscMakerModel_components_66 : decode b_DiscMakerModel_components 66 = .ok (.iload 6, 2) := by decide +kernel
theorem d_DiscMakerModel_components_68 : decode b_DiscMakerModel_components 68 = .ok (.iadd, 1) := by decide +kernel
theorem d_DiscMakerModel_components_69 : decode b_DiscMakerModel_components 69 = .ok (.baload, 1) := by decide +kernel
theorem d_DiscMakerModel_components_70 : decode b_DiscMakerModel_components 70 = .ok (.bipush 47, 2) := by decide +kernel
theorem d_DiscMakerModel_components_72 : decode b_DiscMakerModel_components 72 = .ok (.if_icmp .eq 9, 3) := by decide +kernel
theorem d_DiscMakerModel_components_75 : decode b_DiscMakerModel_components 75 = .ok (.iinc 6 1, 3) := by decide +kernel
theorem d_DiscMakerModel_components_78 : decode b_DiscMakerModel_components 78 = .ok (.goto (-27), 3) := by decide +kernel
theorem d_DiscMakerModel_components_81 : decode b_DiscMakerModel_components 81 = .ok (.iload 6, 2) := by decide +kernel
theorem d_DiscMakerModel_components_83 : decode b_DiscMakerModel_components 83 = .ok (.iload 5, 2) := by decide +kernel
theorem d_DiscMakerModel_components_85 : decode b_DiscMakerModel_components 85 = .ok (.isub, 1) := by decide +kernel
theorem d_DiscMakerModel_components_86 : decode b_DiscMakerModel_components 86 = .ok (.iconst 1, 1) := by decide +kernel
theorem d_DiscMakerModel_components_87 : decode b_DiscMakerModel_components 87 = .ok (.if_icmp .ne 25, 3) := by decide +kernel
theorem d_DiscMakerModel_components_90 : decode b_DiscMakerModel_components 90 = .ok (.aload_n 0, 1) := by decide +kernel
theorem d_DiscMakerModel_components_91 : decode b_DiscMakerModel_components 91 = .ok (.getfield 41, 3) := by decide +kernel
theorem d_DiscMakerModel_components_94 : decode b_DiscMakerModel_components 94 = .ok (.sipush 200, 3) := by decide +kernel
theorem d_DiscMakerModel_components_97 : decode b_DiscMakerModel_components 97 = .ok (.iload_n 1, 1) := by decide +kernel
theorem d_DiscMakerModel_components_98 : decode b_DiscMakerModel_components 98 = .ok (.imul, 1) := by decide +kernel
theorem d_DiscMakerModel_components_99 : decode b_DiscMakerModel_components 99 = .ok (.iload 5, 2) := by decide +kernel
theorem d_DiscMakerModel_components_101 : decode b_DiscMakerModel_components 101 = .ok (.iadd, 1) := by decide +kernel
theorem d_DiscMakerModel_components_102 : decode b_DiscMakerModel_components 102 = .ok (.baload, 1) := by decide +kernel
theorem d_DiscMakerModel_components_103 : decode b_DiscMakerModel_components 103 = .ok (.bipush 46, 2) := by decide +kernel
theorem d_DiscMakerModel_components_105 : decode b_DiscMakerModel_components 105 = .ok (.if_icmp .ne 7, 3) := by decide +kernel
theorem d_DiscMakerModel_components_108 : decode b_DiscMakerModel_components 108 = .ok (.iconst 2, 1) := by decide +kernel
theorem d_DiscMakerModel_components_109 : decode b_DiscMakerModel_components 109 = .ok (.goto 55, 3) := by decide +kernel
theorem d_DiscMakerModel_components_112 : decode b_DiscMakerModel_components 112 = .ok (.iload 6, 2) := by decide +kernel
theorem d_DiscMakerModel_components_114 : decode b_DiscMakerModel_components 114 = .ok (.iload 5, 2) := by decide +kernel
theorem d_DiscMakerModel_components_116 : decode b_DiscMakerModel_components 116 = .ok (.isub, 1) := by decide +kernel
theorem d_DiscMakerModel_components_117 : decode b_DiscMakerModel_components 117 = .ok (.iconst 2, 1) := by decide +kernel
theorem d_DiscMakerModel_components_118 : decode b_DiscMakerModel_components 118 = .ok (.if_icmp .ne 45, 3) := by decide +kernel
theorem d_DiscMakerModel_components_121 : decode b_DiscMakerModel_components 121 = .ok (.aload_n 0, 1) := by decide +kernel
theorem d_DiscMakerModel_components_122 : decode b_DiscMakerModel_components 122 = .ok (.getfield 41, 3) := by decide +kernel
theorem d_DiscMakerModel_components_125 : decode b_DiscMakerModel_components 125 = .ok (.sipush 200, 3) := by decide +kernel
theorem d_DiscMakerModel_components_128 : decode b_DiscMakerModel_components 128 = .ok (.iload_n 1, 1) := by decide +kernel
theorem d_DiscMakerModel_components_129 : decode b_DiscMakerModel_components 129 = .ok (.imul, 1) := by decide +kernel
theorem d_DiscMakerModel_components_130 : decode b_DiscMakerModel_components 130 = .ok (.iload 5, 2) := by decide +kernel
theorem d_DiscMakerModel_components_132 : decode b_DiscMakerModel_components 132 = .ok (.iadd, 1) := by decide +kernel
theorem d_DiscMakerModel_components_133 : decode b_DiscMakerModel_components 133 = .ok (.baload, 1) := by decide +kernel
theorem d_DiscMakerModel_components_134 : decode b_DiscMakerModel_components 134 = .ok (.bipush 46, 2) := by decide +kernel
theorem d_DiscMakerModel_components_136 : decode b_DiscMakerModel_components 136 = .ok (.if_icmp .ne 27, 3) := by decide +kernel
theorem d_DiscMakerModel_components_139 : decode b_DiscMakerModel_components 139 = .ok (.aload_n 0, 1) := by decide +kernel
theorem d_DiscMakerModel_components_140 : decode b_DiscMakerModel_components 140 = .ok (.getfield 41, 3) := by decide +kernel
theorem d_DiscMakerModel_components_143 : decode b_DiscMakerModel_components 143 = .ok (.sipush 200, 3) := by decide +kernel
theorem d_DiscMakerModel_components_146 : decode b_DiscMakerModel_components 146 = .ok (.iload_n 1, 1) := by decide +kernel
theorem d_DiscMakerModel_components_147 : decode b_DiscMakerModel_components 147 = .ok (.imul, 1) := by decide +kernel
theorem d_DiscMakerModel_components_148 : decode b_DiscMakerModel_components 148 = .ok (.iload 5, 2) := by decide +kernel
theorem d_DiscMakerModel_components_150 : decode b_DiscMakerModel_components 150 = .ok (.iadd, 1) := by decide +kernel
theorem d_DiscMakerModel_components_151 : decode b_DiscMakerModel_components 151 = .ok (.iconst 1, 1) := by decide +kernel
theorem d_DiscMakerModel_components_152 : decode b_DiscMakerModel_components 152 = .ok (.iadd, 1) := by decide +kernel
theorem d_DiscMakerModel_components_153 : decode b_DiscMakerModel_components 153 = .ok (.baload, 1) := by decide +kernel
theorem d_DiscMakerModel_components_154 : decode b_DiscMakerModel_components 154 = .ok (.bipush 46, 2) := by decide +kernel
theorem d_DiscMakerModel_components_156 : decode b_DiscMakerModel_components 156 = .ok (.if_icmp .ne 7, 3) := by decide +kernel
theorem d_DiscMakerModel_components_159 : decode b_DiscMakerModel_components 159 = .ok (.iconst 4, 1) := by decide +kernel
theorem d_DiscMakerModel_components_160 : decode b_DiscMakerModel_components 160 = .ok (.goto 4, 3) := by decide +kernel
theorem d_DiscMakerModel_components_163 : decode b_DiscMakerModel_components 163 = .ok (.iconst 0, 1) := by decide +kernel
theorem d_DiscMakerModel_components_164 : decode b_DiscMakerModel_components 164 = .ok (.istore 7, 2) := by decide +kernel
theorem d_DiscMakerModel_components_166 : decode b_DiscMakerModel_components 166 = .ok (.iload 7, 2) := by decide +kernel
theorem d_DiscMakerModel_components_168 : decode b_DiscMakerModel_components 168 = .ok (.ifCond .ne 11, 3) := by decide +kernel
theorem d_DiscMakerModel_components_171 : decode b_DiscMakerModel_components 171 = .ok (.iload 6, 2) := by decide +kernel
theorem d_DiscMakerModel_components_173 : decode b_DiscMakerModel_components 173 = .ok (.iload 5, 2) := by decide +kernel
theorem d_DiscMakerModel_components_175 : decode b_DiscMakerModel_components 175 = .ok (.isub, 1) := by decide +kernel
theorem d_DiscMakerModel_components_176 : decode b_DiscMakerModel_components 176 = .ok (.goto 4, 3) := by decide +kernel
theorem d_DiscMakerModel_components_179 : decode b_DiscMakerModel_components 179 = .ok (.iconst 0, 1) := by decide +kernel
theorem d_DiscMakerModel_components_180 : decode b_DiscMakerModel_components 180 = .ok (.istore 8, 2) := by decide +kernel
theorem d_DiscMakerModel_components_182 : decode b_DiscMakerModel_components 182 = .ok (.iload 6, 2) := by decide +kernel
theorem d_DiscMakerModel_components_184 : decode b_DiscMakerModel_components 184 = .ok (.iload 5, 2) := by decide +kernel
theorem d_DiscMakerModel_components_186 : decode b_DiscMakerModel_components 186 = .ok (.if_icmp .le 72, 3) := by decide +kernel
theorem d_DiscMakerModel_components_189 : decode b_DiscMakerModel_components 189 = .ok (.aload_n 0, 1) := by decide +kernel
theorem d_DiscMakerModel_components_190 : decode b_DiscMakerModel_components 190 = .ok (.iload_n 2, 1) := by decide +kernel
theorem d_DiscMakerModel_components_191 : decode b_DiscMakerModel_components 191 = .ok (.iload 4, 2) := by decide +kernel
theorem d_DiscMakerModel_components_193 : decode b_DiscMakerModel_components 193 = .ok (.iload 7, 2) := by decide +kernel
theorem d_DiscMakerModel_components_195 : decode b_DiscMakerModel_components 195 = .ok (.iload 8, 2) := by decide +kernel
theorem d_DiscMakerModel_components_197 : decode b_DiscMakerModel_components 197 = .ok (.invokevirtual 206, 3) := by decide +kernel
theorem d_DiscMakerModel_components_200 : decode b_DiscMakerModel_components 200 = .ok (.iconst 0, 1) := by decide +kernel
theorem d_DiscMakerModel_components_201 : decode b_DiscMakerModel_components 201 = .ok (.istore 9, 2) := by decide +kernel
theorem d_DiscMakerModel_components_203 : decode b_DiscMakerModel_components 203 = .ok (.iload 9, 2) := by decide +kernel
theorem d_DiscMakerModel_components_205 : decode b_DiscMakerModel_components 205 = .ok (.iload 8, 2) := by decide +kernel
theorem d_DiscMakerModel_components_207 : decode b_DiscMakerModel_components 207 = .ok (.if_icmp .ge 42, 3) := by decide +kernel
theorem d_DiscMakerModel_components_210 : decode b_DiscMakerModel_components 210 = .ok (.iload_n 2, 1) := by decide +kernel
theorem d_DiscMakerModel_components_211 : decode b_DiscMakerModel_components 211 = .ok (.ifCond .lt 38, 3) := by decide +kernel
theorem d_DiscMakerModel_components_214 : decode b_DiscMakerModel_components 214 = .ok (.aload_n 0, 1) := by decide +kernel
theorem d_DiscMakerModel_components_215 : decode b_DiscMakerModel_components 215 = .ok (.iload_n 2, 1) := by decide +kernel
theorem d_DiscMakerModel_components_216 : decode b_DiscMakerModel_components 216 = .ok (.iload 4, 2) := by decide +kernel
theorem d_DiscMakerModel_components_218 : decode b_DiscMakerModel_components 218 = .ok (.iadd, 1) := by decide +kernel
theorem d_DiscMakerModel_components_219 : decode b_DiscMakerModel_components 219 = .ok (.iconst 2, 1) := by decide +kernel
theorem d_DiscMakerModel_components_220 : decode b_DiscMakerModel_components 220 = .ok (.iadd, 1) := by decide +kernel
theorem d_DiscMakerModel_components_221 : decode b_DiscMakerModel_components 221 = .ok (.iload 9, 2) := by decide +kernel
theorem d_DiscMakerModel_components_223 : decode b_DiscMakerModel_components 223 = .ok (.iadd, 1) := by decide +kernel
theorem d_DiscMakerModel_components_224 : decode b_DiscMakerModel_components 224 = .ok (.aload_n 0, 1) := by decide +kernel
theorem d_DiscMakerModel_components_225 : decode b_DiscMakerModel_components 225 = .ok (.getfield 41, 3) := by decide +kernel
theorem d_DiscMakerModel_components_228 : decode b_DiscMakerModel_components 228 = .ok (.sipush 200, 3) := by decide +kernel
theorem d_DiscMakerModel_components_231 : decode b_DiscMakerModel_components 231 = .ok (.iload_n 1, 1) := by decide +kernel
theorem d_DiscMakerModel_components_232 : decode b_DiscMakerModel_components 232 = .ok (.imul, 1) := by decide +kernel
theorem d_DiscMakerModel_components_233 : decode b_DiscMakerModel_components 233 = .ok (.iload 5, 2) := by decide +kernel
theorem d_DiscMakerModel_components_235 : decode b_DiscMakerModel_components 235 = .ok (.iadd, 1) := by decide +kernel
theorem d_DiscMakerModel_components_236 : decode b_DiscMakerModel_components 236 = .ok (.iload 9, 2) := by decide +kernel
theorem d_DiscMakerModel_components_238 : decode b_DiscMakerModel_components 238 = .ok (.iadd, 1) := by decide +kernel
theorem d_DiscMakerModel_components_239 : decode b_DiscMakerModel_components 239 = .ok (.baload, 1) := by decide +kernel
theorem d_DiscMakerModel_components_240 : decode b_DiscMakerModel_components 240 = .ok (.invokevirtual 192, 3) := by decide +kernel
theorem d_DiscMakerModel_components_243 : decode b_DiscMakerModel_components 243 = .ok (.iinc 9 1, 3) := by decide +kernel
theorem d_DiscMakerModel_components_246 : decode b_DiscMakerModel_components 246 = .ok (.goto (-43), 3) := by decide +kernel
theorem d_DiscMakerModel_components_249 : decode b_DiscMakerModel_components 249 = .ok (.iload 4, 2) := by decide +kernel
theorem d_DiscMakerModel_components_251 : decode b_DiscMakerModel_components 251 = .ok (.iconst 2, 1) := by decide +kernel
theorem d_DiscMakerModel_components_252 : decode b_DiscMakerModel_components 252 = .ok (.iload 8, 2) := by decide +kernel
theorem d_DiscMakerModel_components_254 : decode b_DiscMakerModel_components 254 = .ok (.iadd, 1) := by decide +kernel
theorem d_DiscMakerModel_components_255 : decode b_DiscMakerModel_components 255 = .ok (.iadd, 1) := by decide +kernel
theorem d_DiscMakerModel_components_256 : decode b_DiscMakerModel_components 256 = .ok (.istore 4, 2) := by decide +kernel
theorem d_DiscMakerModel_components_258 : decode b_DiscMakerModel_components 258 = .ok (.iload 6, 2) := by decide +kernel
theorem d_DiscMakerModel_components_260 : decode b_DiscMakerModel_components 260 = .ok (.iconst 1, 1) := by decide +kernel
theorem d_DiscMakerModel_components_261 : decode b_DiscMakerModel_components 261 = .ok (.iadd, 1) := by decide +kernel
theorem d_DiscMakerModel_components_262 : decode b_DiscMakerModel_components 262 = .ok (.istore 5, 2) := by decide +kernel
theorem d_DiscMakerModel_components_264 : decode b_DiscMakerModel_components 264 = .ok (.goto (-223), 3) := by decide +kernel
theorem d_DiscMakerModel_components_267 : decode b_DiscMakerModel_components 267 = .ok (.iload 4, 2) := by decide +kernel
theorem d_DiscMakerModel_components_269 : decode b_DiscMakerModel_components 269 = .ok (.ireturn, 1) := by decide +kernel
set_option maxHeartbeats 4000000 in
set_option maxRecDepth 100000 in
theorem m_components (l : Launch) (D : va_G) (cB cI cJ cZ cN cF : ClassId) (sz : Nat) (h0 : Nat) (ma : Nat → Nat) (sv_thrown sv_length sv_nodes sv_many sv_directories sv_runsFrom sv_runs sv_read sv_wrong sv_isNamed sv_goes sv_goesSize sv_goesAt sv_targetParts sv_isRoot : Int32) (F : Nat → Int64) (fT : Nat → Int32) (fTS : Nat → Int32) (x : Int32) (y : Int32) (hx0 : 0 ≤ x.toInt ∧ x.toInt < 40) (hTS : Rg 0 200 40 fTS) (hy0 : y.toInt < 0 ∨ y.toInt + 600 ≤ 368640) : Met l y_DiscMakerModel_components w_DiscMakerModel_components ({ frames := 2, cells := 0, slots := 0, locals := 47 }) (va_Pc [.ref h0, .int x, .int y] (fun U => U.heap.size = sz ∧ va_P D CL [(h0, .inr (11, MO ma sv_thrown sv_length sv_nodes sv_many sv_directories sv_runsFrom sv_runs sv_read sv_wrong sv_isNamed sv_goes sv_goesSize sv_goesAt sv_targetParts sv_isRoot)), ((ma 16), .inl (cJ, 46080, .inr (.inl F))), ((ma 10), .inl (cB, 8000, .inl fT)), ((ma 11), .inl (cI, 40, .inl fTS))] U.heap ∧ va_K D CL (TY cB cI cJ cZ cN cF) U ∧ NN U ∧ va_D (fun _ => True) [(h0, .inr (11, MO ma sv_thrown sv_length sv_nodes sv_many sv_directories sv_runsFrom sv_runs sv_read sv_wrong sv_isNamed sv_goes sv_goesSize sv_goesAt sv_targetParts sv_isRoot)), ((ma 16), .inl (cJ, 46080, .inr (.inl F))), ((ma 10), .inl (cB, 8000, .inl fT)), ((ma 11), .inl (cI, 40, .inl fTS))])) (va_Qi (fun (r : Int32) (u : (Nat → Int64)) => match u with | G => (r.toInt = cmF (tgF fT x.toNatClampNeg) (fTS x.toNatClampNeg).toInt.toNat) ∧ (0 ≤ r.toInt ∧ r.toInt ≤ 303)) (fun (u : (Nat → Int64)) (t : State) => match u with | G => va_P D CL [(h0, .inr (11, MO ma sv_thrown sv_length sv_nodes sv_many sv_directories sv_runsFrom sv_runs sv_read sv_wrong sv_isNamed sv_goes sv_goesSize sv_goesAt sv_targetParts sv_isRoot)), ((ma 16), .inl (cJ, 46080, .inr (.inl G))), ((ma 10), .inl (cB, 8000, .inl fT)), ((ma 11), .inl (cI, 40, .inl fTS))] t.heap ∧ va_D (va_A [(h0, .inr (11, MO ma sv_thrown sv_length sv_nodes sv_many sv_directories sv_runsFrom sv_runs sv_read sv_wrong sv_isNamed sv_goes sv_goesSize sv_goesAt sv_targetParts sv_isRoot)), ((ma 16), .inl (cJ, 46080, .inr (.inl F))), ((ma 10), .inl (cB, 8000, .inl fT)), ((ma 11), .inl (cI, 40, .inl fTS))] sz) [(h0, .inr (11, MO ma sv_thrown sv_length sv_nodes sv_many sv_directories sv_runsFrom sv_runs sv_read sv_wrong sv_isNamed sv_goes sv_goesSize sv_goesAt sv_targetParts sv_isRoot)), ((ma 16), .inl (cJ, 46080, .inr (.inl G))), ((ma 10), .inl (cB, 8000, .inl fT)), ((ma 11), .inl (cI, 40, .inl fTS))]) (va_A [(h0, .inr (11, MO ma sv_thrown sv_length sv_nodes sv_many sv_directories sv_runsFrom sv_runs sv_read sv_wrong sv_isNamed sv_goes sv_goesSize sv_goesAt sv_targetParts sv_isRoot)), ((ma 16), .inl (cJ, 46080, .inr (.inl F))), ((ma 10), .inl (cB, 8000, .inl fT)), ((ma 11), .inl (cI, 40, .inl fTS))] sz)) 0 0 (va_A [(h0, .inr (11, MO ma sv_thrown sv_length sv_nodes sv_many sv_directories sv_runsFrom sv_runs sv_read sv_wrong sv_isNamed sv_goes sv_goesSize sv_goesAt sv_targetParts sv_isRoot)), ((ma 16), .inl (cJ, 46080, .inr (.inl F))), ((ma 10), .inl (cB, 8000, .inl fT)), ((ma 11), .inl (cI, 40, .inl fTS))] sz) := by
  refine Met.ofW (cc := b_DiscMakerModel_components) (maxL := 10) (ret := some .int) (by decide) rfl ?_
  intro p e s m args below meth c s₁ B hml hv
  obtain ⟨rfl, hsz, hP, hK, hN, hD0⟩ := hv
  have hx := B.exec
  have hb := B.bytes
  have hr := B.returns
  have hts := atoms_spec (ws := w_DiscMakerModel_components) B.pre
  have ht9 := fun (w : Cond) (h : w ∈ lw_g) => hts w (List.mem_cons_of_mem _ h)
  have hown : s.vm.findClass "DiscMakerModel" = some m.cls := findClass_of_methodNamed B.named
  have hlocks := B.notSynchronized
  subst hsz
  have hD := hD0.self (sz := s.heap.size)
  generalize hAe : va_A [(h0, .inr (11, MO ma sv_thrown sv_length sv_nodes sv_many sv_directories sv_runsFrom sv_runs sv_read sv_wrong sv_isNamed sv_goes sv_goesSize sv_goesAt sv_targetParts sv_isRoot)), ((ma 16), .inl (cJ, 46080, .inr (.inl F))), ((ma 10), .inl (cB, 8000, .inl fT)), ((ma 11), .inl (cI, 40, .inl fTS))] s.heap.size = A at hD ⊢
  have hA : ∀ q : Nat, s.heap.size ≤ q → A q := fun q h => by rw [← hAe]; exact Or.inr h
  have hS : va_S A s.heap s.heap [] := va_S.rf
  have hP : va_P D CL [(h0, .inr (11, MO ma sv_thrown sv_length sv_nodes sv_many sv_directories sv_runsFrom sv_runs sv_read sv_wrong sv_isNamed sv_goes sv_goesSize sv_goesAt sv_targetParts sv_isRoot)), ((ma 16), .inl (cJ, 46080, .inr (.inl F))), ((ma 10), .inl (cB, 8000, .inl fT)), ((ma 11), .inl (cI, 40, .inl fTS))] s.heap := hP
  have hl := lv_entry [.ref h0, .int x, .int y] (n := 10) (Nat.le_of_ble_eq_true rfl)
  rw [lg_entry_eq]
  generalize (lg_sl [.ref h0, .int x, .int y] ++ List.replicate (10 - (lg_sl [.ref h0, .int x, .int y]).length) Slot.unset).toArray = ls at hl ⊢
  have hl : lv_has ls 10 [(0, .ref h0), (1, .int x), (2, .int y)] := hl
  have L_m1 : ((-1) : Int32).toInt = (-1) := by decide
  have L_0 : (0 : Int32).toInt = 0 := by decide
  have L_1 : (1 : Int32).toInt = 1 := by decide
  have L_2 : (2 : Int32).toInt = 2 := by decide
  have L_4 : (4 : Int32).toInt = 4 := by decide
  have L_8 : (8 : Int32).toInt = 8 := by decide
  have L_46 : (46 : Int32).toInt = 46 := by decide
  have L_47 : (47 : Int32).toInt = 47 := by decide
  have L_200 : (200 : Int32).toInt = 200 := by decide
  have hxc := i_cl (a := x) (by omega)
  have htz := hTS x.toNatClampNeg (by omega)
  have hcf := cmF_le (tgF fT x.toNatClampNeg) (fTS x.toNatClampNeg).toInt.toNat (by omega)
  refine lv_aload_n hx hb d_DiscMakerModel_components_0 rfl (lv_at hl 0 rfl) ?_
  refine va_get (D := D) (ci := 11) (v := .ref (ma 11)) (C := "DiscMakerModel") (T := F_DiscMakerModel) (N := 48) hx hb ht9 in_DiscMakerModel hown hK hP 0 rfl rfl 14 (by decide) (ht9 _ k1445) (fun _ h9 => h9) rfl d_DiscMakerModel_components_1 ?_
  refine lv_iload_n hx hb d_DiscMakerModel_components_4 rfl (lv_at hl 1 rfl) ?_
  refine va_iald hx hb hK hP 3 1 rfl rfl (vp_in_iff.mpr ⟨by omega, by omega⟩) d_DiscMakerModel_components_5 ?_
  refine lv_topi (fun v1 e_v1 => ?_)
  have t_v1 : 0 ≤ v1.toInt ∧ v1.toInt ≤ 200 := by
    rw [e_v1]; exact hTS _ (by have := i_cl (a := x) (by omega); omega)
  have qnv1 : v1.toInt = (fTS x.toNatClampNeg).toInt := by rw [e_v1]
  refine lv_istore_n hx hb d_DiscMakerModel_components_6 rfl hl (by decide) rfl (fun ls hl => ?_)
  have hl : lv_has ls 10 [(3, .int v1), (0, .ref h0), (1, .int x), (2, .int y)] := hl
  refine lv_iconst (v := 0) hx hb d_DiscMakerModel_components_7 (by decide) ?_
  refine lv_istore hx hb d_DiscMakerModel_components_8 hl (by decide) rfl (fun ls hl => ?_)
  have hl : lv_has ls 10 [(4, .int 0), (3, .int v1), (0, .ref h0), (1, .int x), (2, .int y)] := hl
  refine lv_aload_n hx hb d_DiscMakerModel_components_10 rfl (lv_at hl 2 rfl) ?_
  refine va_get (D := D) (ci := 11) (v := .ref (ma 10)) (C := "DiscMakerModel") (T := F_DiscMakerModel) (N := 48) hx hb ht9 in_DiscMakerModel hown hK hP 0 rfl rfl 13 (by decide) (ht9 _ k1444) (fun _ h9 => h9) rfl d_DiscMakerModel_components_11 ?_
  refine lv_sipush (v := 200) hx hb d_DiscMakerModel_components_14 (by decide) ?_
  refine lv_iload_n hx hb d_DiscMakerModel_components_17 rfl (lv_at hl 3 rfl) ?_
  refine lv_imul hx hb d_DiscMakerModel_components_18 ?_
  refine lv_topi (fun v2 e_v2 => ?_)
  have t_v2 : v2.toInt = 200 * x.toInt := by rw [e_v2]; exact i_mul (by decide) rfl (by omega) (by omega)
  refine va_bald hx hb hK hP 2 0 rfl rfl (vp_in_iff.mpr ⟨by omega, by omega⟩) d_DiscMakerModel_components_19 ?_
  refine lv_topi (fun v3 e_v3 => ?_)
  have c_v3 := i_cl (a := v2) (by omega)
  have e2_v3 : v3 = fT (200 * x.toNatClampNeg + 0) := by rw [e_v3, show v2.toNatClampNeg = 200 * x.toNatClampNeg + 0 by omega]
  have qtv3 : (tgF fT x.toNatClampNeg (0)).toInt = v3.toInt := by unfold tgF; rw [e2_v3]
  refine zz_labM (B := fun (lk : Nat) (K : Heap → List Loc → Array Slot → List Value → Prop) => ∀ (aj : Int32) (jF : Nat → Int64) (H : Heap) (locs : List Loc) (ls : Array Slot), lk = 0 → (0 ≤ aj.toInt ∧ aj.toInt ≤ 2) → (cmL (tgF fT x.toNatClampNeg) (fTS x.toNatClampNeg).toInt.toNat 0 aj.toNatClampNeg = cmF (tgF fT x.toNatClampNeg) (fTS x.toNatClampNeg).toInt.toNat) → va_P D CL [(h0, .inr (11, MO ma sv_thrown sv_length sv_nodes sv_many sv_directories sv_runsFrom sv_runs sv_read sv_wrong sv_isNamed sv_goes sv_goesSize sv_goesAt sv_targetParts sv_isRoot)), ((ma 16), .inl (cJ, 46080, .inr (.inl jF))), ((ma 10), .inl (cB, 8000, .inl fT)), ((ma 11), .inl (cI, 40, .inl fTS))] H → va_D A [(h0, .inr (11, MO ma sv_thrown sv_length sv_nodes sv_many sv_directories sv_runsFrom sv_runs sv_read sv_wrong sv_isNamed sv_goes sv_goesSize sv_goesAt sv_targetParts sv_isRoot)), ((ma 16), .inl (cJ, 46080, .inr (.inl jF))), ((ma 10), .inl (cB, 8000, .inl fT)), ((ma 11), .inl (cI, 40, .inl fTS))] → va_S A s.heap H locs → lv_has ls 10 [(0, .ref h0), (1, .int x), (2, .int y), (3, .int v1), (4, .int aj)] → K H locs ls []) 38 ?_ ?_
  · skip
    intro lk ih38 aj jF H locs ls hm38 f0 fj hP hD hS hl
    refine lv_iconst (v := 0) hx hb d_DiscMakerModel_components_38 (by decide) ?_
    refine lv_istore hx hb d_DiscMakerModel_components_39 hl (by decide) rfl (fun ls hl => ?_)
    have hl : lv_has ls 10 [(5, .int 0), (0, .ref h0), (1, .int x), (2, .int y), (3, .int v1), (4, .int aj)] := hl
    refine zz_labM (B := fun (lk : Nat) (K : Heap → List Loc → Array Slot → List Value → Prop) => ∀ (al : Int32) (lp : Int32) (lF : Nat → Int64) (H : Heap) (locs : List Loc) (ls : Array Slot), lk = (201 - lp.toInt).toNat → (0 ≤ lp.toInt ∧ lp.toInt ≤ (fTS x.toNatClampNeg).toInt + 1) → (0 ≤ al.toInt ∧ al.toInt ≤ 303) → (cmL (tgF fT x.toNatClampNeg) (fTS x.toNatClampNeg).toInt.toNat lp.toNatClampNeg al.toNatClampNeg = cmF (tgF fT x.toNatClampNeg) (fTS x.toNatClampNeg).toInt.toNat) → va_P D CL [(h0, .inr (11, MO ma sv_thrown sv_length sv_nodes sv_many sv_directories sv_runsFrom sv_runs sv_read sv_wrong sv_isNamed sv_goes sv_goesSize sv_goesAt sv_targetParts sv_isRoot)), ((ma 16), .inl (cJ, 46080, .inr (.inl lF))), ((ma 10), .inl (cB, 8000, .inl fT)), ((ma 11), .inl (cI, 40, .inl fTS))] H → va_D A [(h0, .inr (11, MO ma sv_thrown sv_length sv_nodes sv_many sv_directories sv_runsFrom sv_runs sv_read sv_wrong sv_isNamed sv_goes sv_goesSize sv_goesAt sv_targetParts sv_isRoot)), ((ma 16), .inl (cJ, 46080, .inr (.inl lF))), ((ma 10), .inl (cB, 8000, .inl fT)), ((ma 11), .inl (cI, 40, .inl fTS))] → va_S A s.heap H locs → lv_has ls 10 [(0, .ref h0), (1, .int x), (2, .int y), (3, .int v1), (4, .int al), (5, .int lp)] → K H locs ls []) 41 ?_ ?_
    · skip
      intro lk ih41 al lp lF H locs ls hm41 f1 f3 f2 hP hD hS hl
      have hlpc := i_cl (a := lp) (by omega)
      have halc := i_cl (a := al) (by omega)
      refine lv_iload hx hb d_DiscMakerModel_components_41 (lv_at hl 5 rfl) ?_
      refine lv_iload_n hx hb d_DiscMakerModel_components_43 rfl (lv_at hl 3 rfl) ?_
      refine lv_icmp_ge (tgt := 267) hx hb d_DiscMakerModel_components_44 (by decide) (fun h_9 => ?_) (fun h_9 => ?_)
      · skip
        have g44_18 : v1.toInt ≤ lp.toInt := (i_le rfl rfl).mp h_9
        refine lv_iload hx hb d_DiscMakerModel_components_267 (lv_at hl 4 rfl) ?_
        have hP9 := hP.sub (ws' := [(h0, .inr (11, MO ma sv_thrown sv_length sv_nodes sv_many sv_directories sv_runsFrom sv_runs sv_read sv_wrong sv_isNamed sv_goes sv_goesSize sv_goesAt sv_targetParts sv_isRoot)), ((ma 16), .inl (cJ, 46080, .inr (.inl lF))), ((ma 10), .inl (cB, 8000, .inl fT)), ((ma 11), .inl (cI, 40, .inl fTS))]) [0, 1, 2, 3] rfl
        have hD9 := hD.sub (ws' := [(h0, .inr (11, MO ma sv_thrown sv_length sv_nodes sv_many sv_directories sv_runsFrom sv_runs sv_read sv_wrong sv_isNamed sv_goes sv_goesSize sv_goesAt sv_targetParts sv_isRoot)), ((ma 16), .inl (cJ, 46080, .inr (.inl lF))), ((ma 10), .inl (cB, 8000, .inl fT)), ((ma 11), .inl (cI, 40, .inl fTS))]) [0, 1, 2, 3] (by decide +kernel) rfl
        exact W.iret (v := al) hx hb hr (fun t ht hW => ⟨⟨al, lF, rfl, ⟨(by (try dsimp only); rw [← f2, cmL_end (by omega)]; omega), (by (try dsimp only); first | assumption | omega | trivial)⟩, by rw [ht]; exact hP9, hD9⟩, hS.F ht⟩) hS.2.2 d_DiscMakerModel_components_269
      · skip
        have g44_18 : ¬ v1.toInt ≤ lp.toInt := fun h8 => h_9 ((i_le rfl rfl).mpr h8)
        refine lv_iload hx hb d_DiscMakerModel_components_47 (lv_at hl 5 rfl) ?_
        refine lv_istore hx hb d_DiscMakerModel_components_49 hl (by decide) rfl (fun ls hl => ?_)
        have hl : lv_has ls 10 [(6, .int lp), (0, .ref h0), (1, .int x), (2, .int y), (3, .int v1), (4, .int al), (5, .int lp)] := hl
        refine zz_labM (B := fun (lk : Nat) (K : Heap → List Loc → Array Slot → List Value → Prop) => ∀ (lq : Int32) (H : Heap) (locs : List Loc) (ls : Array Slot), lk = (201 - lq.toInt).toNat → (lp.toInt ≤ lq.toInt ∧ lq.toInt ≤ (fTS x.toNatClampNeg).toInt) → (nxS (tgF fT x.toNatClampNeg) (fTS x.toNatClampNeg).toInt.toNat lq.toNatClampNeg = nxS (tgF fT x.toNatClampNeg) (fTS x.toNatClampNeg).toInt.toNat lp.toNatClampNeg) → va_P D CL [(h0, .inr (11, MO ma sv_thrown sv_length sv_nodes sv_many sv_directories sv_runsFrom sv_runs sv_read sv_wrong sv_isNamed sv_goes sv_goesSize sv_goesAt sv_targetParts sv_isRoot)), ((ma 16), .inl (cJ, 46080, .inr (.inl lF))), ((ma 10), .inl (cB, 8000, .inl fT)), ((ma 11), .inl (cI, 40, .inl fTS))] H → va_D A [(h0, .inr (11, MO ma sv_thrown sv_length sv_nodes sv_many sv_directories sv_runsFrom sv_runs sv_read sv_wrong sv_isNamed sv_goes sv_goesSize sv_goesAt sv_targetParts sv_isRoot)), ((ma 16), .inl (cJ, 46080, .inr (.inl lF))), ((ma 10), .inl (cB, 8000, .inl fT)), ((ma 11), .inl (cI, 40, .inl fTS))] → va_S A s.heap H locs → lv_has ls 10 [(0, .ref h0), (1, .int x), (2, .int y), (3, .int v1), (4, .int al), (5, .int lp), (6, .int lq)] → K H locs ls []) 51 ?_ ?_
        · skip
          intro lk ih51 lq H locs ls hm51 g1 g2 hP hD hS hl
          have hqc := i_cl (a := lq) (by omega)
          refine lv_iload hx hb d_DiscMakerModel_components_51 (lv_at hl 6 rfl) ?_
          refine zz_labM (B := fun (lk : Nat) (K : Heap → List Loc → Array Slot → List Value → Prop) => ∀ (H : Heap) (locs : List Loc) (ls : Array Slot), lk = 0 → (nxS (tgF fT x.toNatClampNeg) (fTS x.toNatClampNeg).toInt.toNat lp.toNatClampNeg = lq.toNatClampNeg) → va_P D CL [(h0, .inr (11, MO ma sv_thrown sv_length sv_nodes sv_many sv_directories sv_runsFrom sv_runs sv_read sv_wrong sv_isNamed sv_goes sv_goesSize sv_goesAt sv_targetParts sv_isRoot)), ((ma 16), .inl (cJ, 46080, .inr (.inl lF))), ((ma 10), .inl (cB, 8000, .inl fT)), ((ma 11), .inl (cI, 40, .inl fTS))] H → va_D A [(h0, .inr (11, MO ma sv_thrown sv_length sv_nodes sv_many sv_directories sv_runsFrom sv_runs sv_read sv_wrong sv_isNamed sv_goes sv_goesSize sv_goesAt sv_targetParts sv_isRoot)), ((ma 16), .inl (cJ, 46080, .inr (.inl lF))), ((ma 10), .inl (cB, 8000, .inl fT)), ((ma 11), .inl (cI, 40, .inl fTS))] → va_S A s.heap H locs → lv_has ls 10 [(0, .ref h0), (1, .int x), (2, .int y), (3, .int v1), (4, .int al), (5, .int lp), (6, .int lq)] → K H locs ls []) 81 ?_ ?_
          · skip
            intro lk ih81 H locs ls hm81 h81 hP hD hS hl
            refine lv_iload hx hb d_DiscMakerModel_components_81 (lv_at hl 6 rfl) ?_
            have hal9 := cmL_all (tgF fT x.toNatClampNeg) (fTS x.toNatClampNeg).toInt.toNat (lq.toNatClampNeg + 1) (al.toNatClampNeg + cbF (tgF fT x.toNatClampNeg) lp.toNatClampNeg lq.toNatClampNeg)
            have hgo := cmL_go (t := (tgF fT x.toNatClampNeg)) (n := (fTS x.toNatClampNeg).toInt.toNat) (p := lp.toNatClampNeg) (all := al.toNatClampNeg) (by omega)
            rw [h81, f2] at hgo
            have hal8 : al.toNatClampNeg + cbF (tgF fT x.toNatClampNeg) lp.toNatClampNeg lq.toNatClampNeg ≤ 303 := by omega
            refine zz_labM (B := fun (lk : Nat) (K : Heap → List Loc → Array Slot → List Value → Prop) => ∀ (jm : Int32) (H : Heap) (locs : List Loc) (ls : Array Slot), lk = 0 → ((jm.toInt ≠ 0 ∧ lp.toNatClampNeg < lq.toNatClampNeg ∧ cbF (tgF fT x.toNatClampNeg) lp.toNatClampNeg lq.toNatClampNeg = 2) ∨ (jm.toInt = 0 ∧ ((lp.toNatClampNeg < lq.toNatClampNeg ∧ cbF (tgF fT x.toNatClampNeg) lp.toNatClampNeg lq.toNatClampNeg = 2 + (lq.toNatClampNeg - lp.toNatClampNeg)) ∨ (¬ lp.toNatClampNeg < lq.toNatClampNeg ∧ cbF (tgF fT x.toNatClampNeg) lp.toNatClampNeg lq.toNatClampNeg = 0)))) → va_P D CL [(h0, .inr (11, MO ma sv_thrown sv_length sv_nodes sv_many sv_directories sv_runsFrom sv_runs sv_read sv_wrong sv_isNamed sv_goes sv_goesSize sv_goesAt sv_targetParts sv_isRoot)), ((ma 16), .inl (cJ, 46080, .inr (.inl lF))), ((ma 10), .inl (cB, 8000, .inl fT)), ((ma 11), .inl (cI, 40, .inl fTS))] H → va_D A [(h0, .inr (11, MO ma sv_thrown sv_length sv_nodes sv_many sv_directories sv_runsFrom sv_runs sv_read sv_wrong sv_isNamed sv_goes sv_goesSize sv_goesAt sv_targetParts sv_isRoot)), ((ma 16), .inl (cJ, 46080, .inr (.inl lF))), ((ma 10), .inl (cB, 8000, .inl fT)), ((ma 11), .inl (cI, 40, .inl fTS))] → va_S A s.heap H locs → lv_has ls 10 [(0, .ref h0), (1, .int x), (2, .int y), (3, .int v1), (4, .int al), (5, .int lp), (6, .int lq)] → K H locs ls [.int jm]) 164 ?_ ?_
            · skip
              intro lk ih164 jm H locs ls hm164 f5 hP hD hS hl
              refine lv_istore hx hb d_DiscMakerModel_components_164 hl (by decide) rfl (fun ls hl => ?_)
              have hl : lv_has ls 10 [(7, .int jm), (0, .ref h0), (1, .int x), (2, .int y), (3, .int v1), (4, .int al), (5, .int lp), (6, .int lq)] := hl
              refine lv_iload hx hb d_DiscMakerModel_components_166 (lv_at hl 0 rfl) ?_
              refine lv_if_ne (tgt := 179) hx hb d_DiscMakerModel_components_168 (by decide) (fun h_9 => ?_) (fun h_9 => ?_)
              · skip
                have g168_27 : ¬ jm.toInt = 0 := fun h8 => h_9 ((i_eq rfl (by decide)).mpr h8)
                refine lv_iconst (v := 0) hx hb d_DiscMakerModel_components_179 (by decide) ?_
                refine lv_istore hx hb d_DiscMakerModel_components_180 hl (by decide) rfl (fun ls hl => ?_)
                have hl : lv_has ls 10 [(8, .int 0), (7, .int jm), (0, .ref h0), (1, .int x), (2, .int y), (3, .int v1), (4, .int al), (5, .int lp), (6, .int lq)] := hl
                refine lv_iload hx hb d_DiscMakerModel_components_182 (lv_at hl 8 rfl) ?_
                refine lv_iload hx hb d_DiscMakerModel_components_184 (lv_at hl 7 rfl) ?_
                refine lv_icmp_le (tgt := 258) hx hb d_DiscMakerModel_components_186 (by decide) (fun h_9 => ?_) (fun h_9 => ?_)
                · skip
                  have g186_32 : lq.toInt ≤ lp.toInt := (i_le rfl rfl).mp h_9
                  refine lv_iload hx hb d_DiscMakerModel_components_258 (lv_at hl 8 rfl) ?_
                  refine lv_iconst (v := 1) hx hb d_DiscMakerModel_components_260 (by decide) ?_
                  refine lv_iadd hx hb d_DiscMakerModel_components_261 ?_
                  refine lv_topi (fun v4 e_v4 => ?_)
                  have t_v4 : v4.toInt = lq.toInt + 1 := by rw [e_v4]; exact i_add rfl (by decide) (by omega) (by omega)
                  refine lv_istore hx hb d_DiscMakerModel_components_262 hl (by decide) rfl (fun ls hl => ?_)
                  have hl : lv_has ls 10 [(5, .int v4), (8, .int 0), (7, .int jm), (0, .ref h0), (1, .int x), (2, .int y), (3, .int v1), (4, .int al), (6, .int lq)] := hl
                  refine lv_goto (tgt := 41) hx hb d_DiscMakerModel_components_264 (by decide) ?_
                  have hP := hP.sub (ws' := [(h0, .inr (11, MO ma sv_thrown sv_length sv_nodes sv_many sv_directories sv_runsFrom sv_runs sv_read sv_wrong sv_isNamed sv_goes sv_goesSize sv_goesAt sv_targetParts sv_isRoot)), ((ma 16), .inl (cJ, 46080, .inr (.inl lF))), ((ma 10), .inl (cB, 8000, .inl fT)), ((ma 11), .inl (cI, 40, .inl fTS))]) [0, 1, 2, 3] rfl
                  have hD := hD.sub (ws' := [(h0, .inr (11, MO ma sv_thrown sv_length sv_nodes sv_many sv_directories sv_runsFrom sv_runs sv_read sv_wrong sv_isNamed sv_goes sv_goesSize sv_goesAt sv_targetParts sv_isRoot)), ((ma 16), .inl (cJ, 46080, .inr (.inl lF))), ((ma 10), .inl (cB, 8000, .inl fT)), ((ma 11), .inl (cI, 40, .inl fTS))]) [0, 1, 2, 3] (by decide +kernel) rfl
                  have hl := lv_sub hl [3, 4, 5, 6, 7, 0] rfl
                  exact ih41 _ (by first | omega | (dsimp only; omega)) al v4 lF _ _ _ rfl ((by (try dsimp only); first | assumption | omega | trivial)) ((by (try dsimp only); first | assumption | omega | trivial)) ((by have h0 := cmL_go (t := (tgF fT x.toNatClampNeg)) (n := (fTS x.toNatClampNeg).toInt.toNat) (p := lp.toNatClampNeg) (all := al.toNatClampNeg) (by omega); have h1 := i_cl (a := v4) (by omega); have h2 := i_cl (a := al) (by omega); rw [h81, f2] at h0; rw [show v4.toNatClampNeg = lq.toNatClampNeg + 1 by omega, show al.toNatClampNeg = al.toNatClampNeg + cbF (tgF fT x.toNatClampNeg) lp.toNatClampNeg lq.toNatClampNeg by omega]; exact h0.symm)) hP hD hS hl
                · skip
                  have g186_32 : ¬ lq.toInt ≤ lp.toInt := fun h8 => h_9 ((i_le rfl rfl).mpr h8)
                  refine lv_aload_n hx hb d_DiscMakerModel_components_189 rfl (lv_at hl 2 rfl) ?_
                  refine lv_iload_n hx hb d_DiscMakerModel_components_190 rfl (lv_at hl 4 rfl) ?_
                  refine lv_iload hx hb d_DiscMakerModel_components_191 (lv_at hl 6 rfl) ?_
                  refine lv_iload hx hb d_DiscMakerModel_components_193 (lv_at hl 1 rfl) ?_
                  refine lv_iload hx hb d_DiscMakerModel_components_195 (lv_at hl 0 rfl) ?_
                  have hPc := hP.sub (ws' := [(h0, .inr (11, MO ma sv_thrown sv_length sv_nodes sv_many sv_directories sv_runsFrom sv_runs sv_read sv_wrong sv_isNamed sv_goes sv_goesSize sv_goesAt sv_targetParts sv_isRoot)), ((ma 16), .inl (cJ, 46080, .inr (.inl lF)))]) [0, 1] rfl
                  have hDc := hD.sub (ws' := [(h0, .inr (11, MO ma sv_thrown sv_length sv_nodes sv_many sv_directories sv_runsFrom sv_runs sv_read sv_wrong sv_isNamed sv_goes sv_goesSize sv_goesAt sv_targetParts sv_isRoot)), ((ma 16), .inl (cJ, 46080, .inr (.inl lF)))]) [0, 1] (by decide +kernel) rfl
                  have hFc := va_free (wc := [(h0, .inr (11, MO ma sv_thrown sv_length sv_nodes sv_many sv_directories sv_runsFrom sv_runs sv_read sv_wrong sv_isNamed sv_goes sv_goesSize sv_goesAt sv_targetParts sv_isRoot)), ((ma 16), .inl (cJ, 46080, .inr (.inl lF)))]) hD hS hA [0, 1] rfl
                  have hkc : 0 ≤ 0 := by decide
                  have hks : 0 ≤ 0 := by decide
                  refine va_callv (va_runV (C := "DiscMakerModel") (As := [.int y, .int al, .int jm, .int 0]) (rest := []) ⟨hx, hb, hml, hown, hts⟩ (m_mark l D cB cI cJ cZ cN cF H.size h0 ma sv_thrown sv_length sv_nodes sv_many sv_directories sv_runsFrom sv_runs sv_read sv_wrong sv_isNamed sv_goes sv_goesSize sv_goesAt sv_targetParts sv_isRoot lF y al jm 0 (by (try dsimp only); first | assumption | omega | trivial)) (cwV 4 hts (lg_goodV k1723 k1725 k78 k125 kc_DiscMakerModel_mark) rfl rfl rfl (by decide +kernel) ⟨Nat.le_of_ble_eq_true rfl, Nat.le_of_ble_eq_true rfl⟩) ⟨fun a U g mk q => by obtain ⟨q0, q1, qP, qK, qN, qD⟩ := q; exact ⟨q0, q1, qP, va_K.moved (u := U) (U := U.calling g mk a) (Vm.Alike.refl U.vm) qK, qN.calling, qD⟩, va_recv hK hP (ci := 11) (q0 := 0) rfl rfl, fun U hU hW => ⟨rfl, by rw [hU], by rw [hU]; exact hPc, va_K.moved hW.alike hK, NN.warm hW hN, hDc.weaken (fun _ _ _ _ => trivial)⟩⟩ rfl rfl hl.1 rfl (lv_room (Nat.le_of_ble_eq_true rfl)) d_DiscMakerModel_components_197 ⟨hkc, hks⟩) hS (fun q _ h => hFc q h) hFc (fun u t H1 locs ht hvm hp_r5 hB hz1 hk1 hS => ?_)
                  obtain ⟨G_6, rfl⟩ : ∃ z, z = u := ⟨_, rfl⟩
                  obtain ⟨hP1, hD1⟩ := hB
                  rw [ht] at hP1
                  obtain ⟨hP, hD⟩ := va_join (wr := [((ma 10), .inl (cB, 8000, .inl fT)), ((ma 11), .inl (cI, 40, .inl fTS))]) (w1 := [(h0, .inr (11, MO ma sv_thrown sv_length sv_nodes sv_many sv_directories sv_runsFrom sv_runs sv_read sv_wrong sv_isNamed sv_goes sv_goesSize sv_goesAt sv_targetParts sv_isRoot)), ((ma 16), .inl (cJ, 46080, .inr (.inl G_6)))]) hP hD [0, 1] [2, 3] rfl rfl (by decide +kernel) (by decide +kernel) hk1 hFc hP1 hD1
                  clear hPc hDc hFc hP1 hD1 hk1 hz1 hkc hks
                  generalize H1 = H at hP hS ⊢
                  have hP : va_P D CL [((ma 10), .inl (cB, 8000, .inl fT)), ((ma 11), .inl (cI, 40, .inl fTS)), (h0, .inr (11, MO ma sv_thrown sv_length sv_nodes sv_many sv_directories sv_runsFrom sv_runs sv_read sv_wrong sv_isNamed sv_goes sv_goesSize sv_goesAt sv_targetParts sv_isRoot)), ((ma 16), .inl (cJ, 46080, .inr (.inl G_6)))] H := hP
                  have hD : va_D A [((ma 10), .inl (cB, 8000, .inl fT)), ((ma 11), .inl (cI, 40, .inl fTS)), (h0, .inr (11, MO ma sv_thrown sv_length sv_nodes sv_many sv_directories sv_runsFrom sv_runs sv_read sv_wrong sv_isNamed sv_goes sv_goesSize sv_goesAt sv_targetParts sv_isRoot)), ((ma 16), .inl (cJ, 46080, .inr (.inl G_6)))] := hD
                  refine lv_iconst (v := 0) hx hb d_DiscMakerModel_components_200 (by decide) ?_
                  refine lv_istore hx hb d_DiscMakerModel_components_201 hl (by decide) rfl (fun ls hl => ?_)
                  have hl : lv_has ls 10 [(9, .int 0), (8, .int 0), (7, .int jm), (0, .ref h0), (1, .int x), (2, .int y), (3, .int v1), (4, .int al), (5, .int lp), (6, .int lq)] := hl
                  refine zz_labM (B := fun (lk : Nat) (K : Heap → List Loc → Array Slot → List Value → Prop) => ∀ (k9 : Int32) (nF : Nat → Int64) (H : Heap) (locs : List Loc) (ls : Array Slot), lk = (201 - k9.toInt).toNat → (0 ≤ k9.toInt ∧ k9.toInt ≤ 200) → va_P D CL [((ma 10), .inl (cB, 8000, .inl fT)), ((ma 11), .inl (cI, 40, .inl fTS)), (h0, .inr (11, MO ma sv_thrown sv_length sv_nodes sv_many sv_directories sv_runsFrom sv_runs sv_read sv_wrong sv_isNamed sv_goes sv_goesSize sv_goesAt sv_targetParts sv_isRoot)), ((ma 16), .inl (cJ, 46080, .inr (.inl nF)))] H → va_D A [((ma 10), .inl (cB, 8000, .inl fT)), ((ma 11), .inl (cI, 40, .inl fTS)), (h0, .inr (11, MO ma sv_thrown sv_length sv_nodes sv_many sv_directories sv_runsFrom sv_runs sv_read sv_wrong sv_isNamed sv_goes sv_goesSize sv_goesAt sv_targetParts sv_isRoot)), ((ma 16), .inl (cJ, 46080, .inr (.inl nF)))] → va_S A s.heap H locs → lv_has ls 10 [(0, .ref h0), (1, .int x), (2, .int y), (3, .int v1), (4, .int al), (5, .int lp), (6, .int lq), (7, .int jm), (8, .int 0), (9, .int k9)] → K H locs ls []) 203 ?_ ?_
                  · skip
                    intro lk ih203 k9 nF H locs ls hm203 f9 hP hD hS hl
                    refine lv_iload hx hb d_DiscMakerModel_components_203 (lv_at hl 9 rfl) ?_
                    refine lv_iload hx hb d_DiscMakerModel_components_205 (lv_at hl 8 rfl) ?_
                    refine lv_icmp_ge (tgt := 249) hx hb d_DiscMakerModel_components_207 (by decide) (fun h_9 => ?_) (fun h_9 => ?_)
                    · skip
                      have g207_49 : 0 ≤ k9.toInt := (i_le (by decide) rfl).mp h_9
                      refine lv_iload hx hb d_DiscMakerModel_components_249 (lv_at hl 4 rfl) ?_
                      refine lv_iconst (v := 2) hx hb d_DiscMakerModel_components_251 (by decide) ?_
                      refine lv_iload hx hb d_DiscMakerModel_components_252 (lv_at hl 8 rfl) ?_
                      refine lv_iadd hx hb d_DiscMakerModel_components_254 ?_
                      refine W.eq (g2 := F0 m 255 ls [.int 2, .int al]) (by rw [show ((2 : Int32) + 0) = 2 from by decide]) ?_
                      refine lv_iadd hx hb d_DiscMakerModel_components_255 ?_
                      refine lv_topi (fun v7 e_v7 => ?_)
                      have t_v7 : v7.toInt = al.toInt + 2 := by rw [e_v7]; exact i_add rfl (by decide) (by omega) (by omega)
                      refine lv_istore hx hb d_DiscMakerModel_components_256 hl (by decide) rfl (fun ls hl => ?_)
                      have hl : lv_has ls 10 [(4, .int v7), (0, .ref h0), (1, .int x), (2, .int y), (3, .int v1), (5, .int lp), (6, .int lq), (7, .int jm), (8, .int 0), (9, .int k9)] := hl
                      refine lv_iload hx hb d_DiscMakerModel_components_258 (lv_at hl 6 rfl) ?_
                      refine lv_iconst (v := 1) hx hb d_DiscMakerModel_components_260 (by decide) ?_
                      refine lv_iadd hx hb d_DiscMakerModel_components_261 ?_
                      refine lv_topi (fun v8 e_v8 => ?_)
                      have t_v8 : v8.toInt = lq.toInt + 1 := by rw [e_v8]; exact i_add rfl (by decide) (by omega) (by omega)
                      refine lv_istore hx hb d_DiscMakerModel_components_262 hl (by decide) rfl (fun ls hl => ?_)
                      have hl : lv_has ls 10 [(5, .int v8), (4, .int v7), (0, .ref h0), (1, .int x), (2, .int y), (3, .int v1), (6, .int lq), (7, .int jm), (8, .int 0), (9, .int k9)] := hl
                      refine lv_goto (tgt := 41) hx hb d_DiscMakerModel_components_264 (by decide) ?_
                      have hP := hP.sub (ws' := [(h0, .inr (11, MO ma sv_thrown sv_length sv_nodes sv_many sv_directories sv_runsFrom sv_runs sv_read sv_wrong sv_isNamed sv_goes sv_goesSize sv_goesAt sv_targetParts sv_isRoot)), ((ma 16), .inl (cJ, 46080, .inr (.inl nF))), ((ma 10), .inl (cB, 8000, .inl fT)), ((ma 11), .inl (cI, 40, .inl fTS))]) [2, 3, 0, 1] rfl
                      have hD := hD.sub (ws' := [(h0, .inr (11, MO ma sv_thrown sv_length sv_nodes sv_many sv_directories sv_runsFrom sv_runs sv_read sv_wrong sv_isNamed sv_goes sv_goesSize sv_goesAt sv_targetParts sv_isRoot)), ((ma 16), .inl (cJ, 46080, .inr (.inl nF))), ((ma 10), .inl (cB, 8000, .inl fT)), ((ma 11), .inl (cI, 40, .inl fTS))]) [2, 3, 0, 1] (by decide +kernel) rfl
                      have hl := lv_sub hl [2, 3, 4, 5, 1, 0] rfl
                      exact ih41 _ (by first | omega | (dsimp only; omega)) v7 v8 nF _ _ _ rfl ((by (try dsimp only); first | assumption | omega | trivial)) ((by (try dsimp only); first | assumption | omega | trivial)) ((by have h0 := cmL_go (t := (tgF fT x.toNatClampNeg)) (n := (fTS x.toNatClampNeg).toInt.toNat) (p := lp.toNatClampNeg) (all := al.toNatClampNeg) (by omega); have h1 := i_cl (a := v8) (by omega); have h2 := i_cl (a := v7) (by omega); rw [h81, f2] at h0; rw [show v8.toNatClampNeg = lq.toNatClampNeg + 1 by omega, show v7.toNatClampNeg = al.toNatClampNeg + cbF (tgF fT x.toNatClampNeg) lp.toNatClampNeg lq.toNatClampNeg by omega]; exact h0.symm)) hP hD hS hl
                    · skip
                      have g207_49 : ¬ 0 ≤ k9.toInt := fun h8 => h_9 ((i_le (by decide) rfl).mpr h8)
                      refine lv_iload_n hx hb d_DiscMakerModel_components_210 rfl (lv_at hl 2 rfl) ?_
                      refine lv_if_lt (tgt := 249) hx hb d_DiscMakerModel_components_211 (by decide) (fun h_9 => ?_) (fun h_9 => ?_)
                      · skip
                        have g211_63 : y.toInt < 0 := (i_lt rfl (by decide)).mp h_9
                        refine lv_iload hx hb d_DiscMakerModel_components_249 (lv_at hl 4 rfl) ?_
                        refine lv_iconst (v := 2) hx hb d_DiscMakerModel_components_251 (by decide) ?_
                        refine lv_iload hx hb d_DiscMakerModel_components_252 (lv_at hl 8 rfl) ?_
                        refine lv_iadd hx hb d_DiscMakerModel_components_254 ?_
                        refine W.eq (g2 := F0 m 255 ls [.int 2, .int al]) (by rw [show ((2 : Int32) + 0) = 2 from by decide]) ?_
                        refine lv_iadd hx hb d_DiscMakerModel_components_255 ?_
                        refine lv_topi (fun v9 e_v9 => ?_)
                        have t_v9 : v9.toInt = al.toInt + 2 := by rw [e_v9]; exact i_add rfl (by decide) (by omega) (by omega)
                        refine lv_istore hx hb d_DiscMakerModel_components_256 hl (by decide) rfl (fun ls hl => ?_)
                        have hl : lv_has ls 10 [(4, .int v9), (0, .ref h0), (1, .int x), (2, .int y), (3, .int v1), (5, .int lp), (6, .int lq), (7, .int jm), (8, .int 0), (9, .int k9)] := hl
                        refine lv_iload hx hb d_DiscMakerModel_components_258 (lv_at hl 6 rfl) ?_
                        refine lv_iconst (v := 1) hx hb d_DiscMakerModel_components_260 (by decide) ?_
                        refine lv_iadd hx hb d_DiscMakerModel_components_261 ?_
                        refine lv_topi (fun v10 e_v10 => ?_)
                        have t_v10 : v10.toInt = lq.toInt + 1 := by rw [e_v10]; exact i_add rfl (by decide) (by omega) (by omega)
                        refine lv_istore hx hb d_DiscMakerModel_components_262 hl (by decide) rfl (fun ls hl => ?_)
                        have hl : lv_has ls 10 [(5, .int v10), (4, .int v9), (0, .ref h0), (1, .int x), (2, .int y), (3, .int v1), (6, .int lq), (7, .int jm), (8, .int 0), (9, .int k9)] := hl
                        refine lv_goto (tgt := 41) hx hb d_DiscMakerModel_components_264 (by decide) ?_
                        have hP := hP.sub (ws' := [(h0, .inr (11, MO ma sv_thrown sv_length sv_nodes sv_many sv_directories sv_runsFrom sv_runs sv_read sv_wrong sv_isNamed sv_goes sv_goesSize sv_goesAt sv_targetParts sv_isRoot)), ((ma 16), .inl (cJ, 46080, .inr (.inl nF))), ((ma 10), .inl (cB, 8000, .inl fT)), ((ma 11), .inl (cI, 40, .inl fTS))]) [2, 3, 0, 1] rfl
                        have hD := hD.sub (ws' := [(h0, .inr (11, MO ma sv_thrown sv_length sv_nodes sv_many sv_directories sv_runsFrom sv_runs sv_read sv_wrong sv_isNamed sv_goes sv_goesSize sv_goesAt sv_targetParts sv_isRoot)), ((ma 16), .inl (cJ, 46080, .inr (.inl nF))), ((ma 10), .inl (cB, 8000, .inl fT)), ((ma 11), .inl (cI, 40, .inl fTS))]) [2, 3, 0, 1] (by decide +kernel) rfl
                        have hl := lv_sub hl [2, 3, 4, 5, 1, 0] rfl
                        exact ih41 _ (by first | omega | (dsimp only; omega)) v9 v10 nF _ _ _ rfl ((by (try dsimp only); first | assumption | omega | trivial)) ((by (try dsimp only); first | assumption | omega | trivial)) ((by have h0 := cmL_go (t := (tgF fT x.toNatClampNeg)) (n := (fTS x.toNatClampNeg).toInt.toNat) (p := lp.toNatClampNeg) (all := al.toNatClampNeg) (by omega); have h1 := i_cl (a := v10) (by omega); have h2 := i_cl (a := v9) (by omega); rw [h81, f2] at h0; rw [show v10.toNatClampNeg = lq.toNatClampNeg + 1 by omega, show v9.toNatClampNeg = al.toNatClampNeg + cbF (tgF fT x.toNatClampNeg) lp.toNatClampNeg lq.toNatClampNeg by omega]; exact h0.symm)) hP hD hS hl
                      · skip
                        have g211_63 : ¬ y.toInt < 0 := fun h8 => h_9 ((i_lt rfl (by decide)).mpr h8)
                        refine lv_aload_n hx hb d_DiscMakerModel_components_214 rfl (lv_at hl 0 rfl) ?_
                        refine lv_iload_n hx hb d_DiscMakerModel_components_215 rfl (lv_at hl 2 rfl) ?_
                        refine lv_iload hx hb d_DiscMakerModel_components_216 (lv_at hl 4 rfl) ?_
                        refine lv_iadd hx hb d_DiscMakerModel_components_218 ?_
                        refine lv_topi (fun v11 e_v11 => ?_)
                        have t_v11 : v11.toInt = y.toInt + al.toInt := by rw [e_v11]; exact i_add rfl rfl (by omega) (by omega)
                        refine lv_iconst (v := 2) hx hb d_DiscMakerModel_components_219 (by decide) ?_
                        refine lv_iadd hx hb d_DiscMakerModel_components_220 ?_
                        refine lv_topi (fun v12 e_v12 => ?_)
                        have t_v12 : v12.toInt = v11.toInt + 2 := by rw [e_v12]; exact i_add rfl (by decide) (by omega) (by omega)
                        refine lv_iload hx hb d_DiscMakerModel_components_221 (lv_at hl 9 rfl) ?_
                        refine lv_iadd hx hb d_DiscMakerModel_components_223 ?_
                        refine lv_topi (fun v13 e_v13 => ?_)
                        have t_v13 : v13.toInt = v12.toInt + k9.toInt := by rw [e_v13]; exact i_add rfl rfl (by omega) (by omega)
                        refine lv_aload_n hx hb d_DiscMakerModel_components_224 rfl (lv_at hl 0 rfl) ?_
                        refine va_get (D := D) (ci := 11) (v := .ref (ma 10)) (C := "DiscMakerModel") (T := F_DiscMakerModel) (N := 48) hx hb ht9 in_DiscMakerModel hown hK hP 2 rfl rfl 13 (by decide) (ht9 _ k1444) (fun _ h9 => h9) rfl d_DiscMakerModel_components_225 ?_
                        refine lv_sipush (v := 200) hx hb d_DiscMakerModel_components_228 (by decide) ?_
                        refine lv_iload_n hx hb d_DiscMakerModel_components_231 rfl (lv_at hl 1 rfl) ?_
                        refine lv_imul hx hb d_DiscMakerModel_components_232 ?_
                        refine lv_topi (fun v14 e_v14 => ?_)
                        have t_v14 : v14.toInt = 200 * x.toInt := by rw [e_v14]; exact i_mul (by decide) rfl (by omega) (by omega)
                        refine lv_iload hx hb d_DiscMakerModel_components_233 (lv_at hl 5 rfl) ?_
                        refine lv_iadd hx hb d_DiscMakerModel_components_235 ?_
                        refine lv_topi (fun v15 e_v15 => ?_)
                        have t_v15 : v15.toInt = v14.toInt + lp.toInt := by rw [e_v15]; exact i_add rfl rfl (by omega) (by omega)
                        refine lv_iload hx hb d_DiscMakerModel_components_236 (lv_at hl 9 rfl) ?_
                        refine lv_iadd hx hb d_DiscMakerModel_components_238 ?_
                        refine lv_topi (fun v16 e_v16 => ?_)
                        have t_v16 : v16.toInt = v15.toInt + k9.toInt := by rw [e_v16]; exact i_add rfl rfl (by omega) (by omega)
                        refine va_bald hx hb hK hP 0 0 rfl rfl (vp_in_iff.mpr ⟨by omega, by omega⟩) d_DiscMakerModel_components_239 ?_
                        refine lv_topi (fun v17 e_v17 => ?_)
                        have hPc := hP.sub (ws' := [(h0, .inr (11, MO ma sv_thrown sv_length sv_nodes sv_many sv_directories sv_runsFrom sv_runs sv_read sv_wrong sv_isNamed sv_goes sv_goesSize sv_goesAt sv_targetParts sv_isRoot)), ((ma 16), .inl (cJ, 46080, .inr (.inl nF)))]) [2, 3] rfl
                        have hDc := hD.sub (ws' := [(h0, .inr (11, MO ma sv_thrown sv_length sv_nodes sv_many sv_directories sv_runsFrom sv_runs sv_read sv_wrong sv_isNamed sv_goes sv_goesSize sv_goesAt sv_targetParts sv_isRoot)), ((ma 16), .inl (cJ, 46080, .inr (.inl nF)))]) [2, 3] (by decide +kernel) rfl
                        have hFc := va_free (wc := [(h0, .inr (11, MO ma sv_thrown sv_length sv_nodes sv_many sv_directories sv_runsFrom sv_runs sv_read sv_wrong sv_isNamed sv_goes sv_goesSize sv_goesAt sv_targetParts sv_isRoot)), ((ma 16), .inl (cJ, 46080, .inr (.inl nF)))]) hD hS hA [2, 3] rfl
                        have hkc : 0 ≤ 0 := by decide
                        have hks : 0 ≤ 0 := by decide
                        refine va_callv (va_runV (C := "DiscMakerModel") (As := [.int v13, .int v17]) (rest := []) ⟨hx, hb, hml, hown, hts⟩ (m_set l D cB cI cJ cZ cN cF H.size h0 ma sv_thrown sv_length sv_nodes sv_many sv_directories sv_runsFrom sv_runs sv_read sv_wrong sv_isNamed sv_goes sv_goesSize sv_goesAt sv_targetParts sv_isRoot nF v13 v17 (by (try dsimp only); first | assumption | omega | trivial) (by (try dsimp only); first | assumption | omega | trivial)) (cwV 2 hts (lg_goodV k1727 k1729 k79 k125 kc_DiscMakerModel_set) rfl rfl rfl (by decide +kernel) ⟨Nat.le_of_ble_eq_true rfl, Nat.le_of_ble_eq_true rfl⟩) ⟨fun a U g mk q => by obtain ⟨q0, q1, qP, qK, qN, qD⟩ := q; exact ⟨q0, q1, qP, va_K.moved (u := U) (U := U.calling g mk a) (Vm.Alike.refl U.vm) qK, qN.calling, qD⟩, va_recv hK hP (ci := 11) (q0 := 2) rfl rfl, fun U hU hW => ⟨rfl, by rw [hU], by rw [hU]; exact hPc, va_K.moved hW.alike hK, NN.warm hW hN, hDc.weaken (fun _ _ _ _ => trivial)⟩⟩ rfl rfl hl.1 rfl (lv_room (Nat.le_of_ble_eq_true rfl)) d_DiscMakerModel_components_240 ⟨hkc, hks⟩) hS (fun q _ h => hFc q h) hFc (fun u t H1 locs ht hvm hp_r18 hB hz1 hk1 hS => ?_)
                        obtain ⟨G_19, rfl⟩ : ∃ z, z = u := ⟨_, rfl⟩
                        obtain ⟨hP1, hD1⟩ := hB
                        rw [ht] at hP1
                        obtain ⟨hP, hD⟩ := va_join (wr := [((ma 10), .inl (cB, 8000, .inl fT)), ((ma 11), .inl (cI, 40, .inl fTS))]) (w1 := [(h0, .inr (11, MO ma sv_thrown sv_length sv_nodes sv_many sv_directories sv_runsFrom sv_runs sv_read sv_wrong sv_isNamed sv_goes sv_goesSize sv_goesAt sv_targetParts sv_isRoot)), ((ma 16), .inl (cJ, 46080, .inr (.inl G_19)))]) hP hD [2, 3] [0, 1] rfl rfl (by decide +kernel) (by decide +kernel) hk1 hFc hP1 hD1
                        clear hPc hDc hFc hP1 hD1 hk1 hz1 hkc hks
                        generalize H1 = H at hP hS ⊢
                        have hP : va_P D CL [((ma 10), .inl (cB, 8000, .inl fT)), ((ma 11), .inl (cI, 40, .inl fTS)), (h0, .inr (11, MO ma sv_thrown sv_length sv_nodes sv_many sv_directories sv_runsFrom sv_runs sv_read sv_wrong sv_isNamed sv_goes sv_goesSize sv_goesAt sv_targetParts sv_isRoot)), ((ma 16), .inl (cJ, 46080, .inr (.inl G_19)))] H := hP
                        have hD : va_D A [((ma 10), .inl (cB, 8000, .inl fT)), ((ma 11), .inl (cI, 40, .inl fTS)), (h0, .inr (11, MO ma sv_thrown sv_length sv_nodes sv_many sv_directories sv_runsFrom sv_runs sv_read sv_wrong sv_isNamed sv_goes sv_goesSize sv_goesAt sv_targetParts sv_isRoot)), ((ma 16), .inl (cJ, 46080, .inr (.inl G_19)))] := hD
                        obtain ⟨v20, e_v20⟩ : ∃ z : Int32, z = k9 + 1 := ⟨_, rfl⟩
                        refine lv_iinc (v := v20) hx hb d_DiscMakerModel_components_243 hl (k := 9) rfl e_v20.symm (by decide +kernel) rfl (fun ls hl => ?_)
                        have t_v20 : v20.toInt = k9.toInt + 1 := by rw [e_v20]; exact i_add rfl (by decide) (by omega) (by omega)
                        have hl : lv_has ls 10 [(9, .int v20), (0, .ref h0), (1, .int x), (2, .int y), (3, .int v1), (4, .int al), (5, .int lp), (6, .int lq), (7, .int jm), (8, .int 0)] := hl
                        refine lv_goto (tgt := 203) hx hb d_DiscMakerModel_components_246 (by decide) ?_
                        have hP := hP.sub (ws' := [((ma 10), .inl (cB, 8000, .inl fT)), ((ma 11), .inl (cI, 40, .inl fTS)), (h0, .inr (11, MO ma sv_thrown sv_length sv_nodes sv_many sv_directories sv_runsFrom sv_runs sv_read sv_wrong sv_isNamed sv_goes sv_goesSize sv_goesAt sv_targetParts sv_isRoot)), ((ma 16), .inl (cJ, 46080, .inr (.inl G_19)))]) [0, 1, 2, 3] rfl
                        have hD := hD.sub (ws' := [((ma 10), .inl (cB, 8000, .inl fT)), ((ma 11), .inl (cI, 40, .inl fTS)), (h0, .inr (11, MO ma sv_thrown sv_length sv_nodes sv_many sv_directories sv_runsFrom sv_runs sv_read sv_wrong sv_isNamed sv_goes sv_goesSize sv_goesAt sv_targetParts sv_isRoot)), ((ma 16), .inl (cJ, 46080, .inr (.inl G_19)))]) [0, 1, 2, 3] (by decide +kernel) rfl
                        have hl := lv_sub hl [1, 2, 3, 4, 5, 6, 7, 8, 9, 0] rfl
                        exact ih203 _ (by first | omega | (dsimp only; omega)) v20 G_19 _ _ _ rfl ((by (try dsimp only); first | assumption | omega | trivial)) hP hD hS hl
                  · skip
                    intro kk203
                    have hP := hP.sub (ws' := [((ma 10), .inl (cB, 8000, .inl fT)), ((ma 11), .inl (cI, 40, .inl fTS)), (h0, .inr (11, MO ma sv_thrown sv_length sv_nodes sv_many sv_directories sv_runsFrom sv_runs sv_read sv_wrong sv_isNamed sv_goes sv_goesSize sv_goesAt sv_targetParts sv_isRoot)), ((ma 16), .inl (cJ, 46080, .inr (.inl G_6)))]) [0, 1, 2, 3] rfl
                    have hD := hD.sub (ws' := [((ma 10), .inl (cB, 8000, .inl fT)), ((ma 11), .inl (cI, 40, .inl fTS)), (h0, .inr (11, MO ma sv_thrown sv_length sv_nodes sv_many sv_directories sv_runsFrom sv_runs sv_read sv_wrong sv_isNamed sv_goes sv_goesSize sv_goesAt sv_targetParts sv_isRoot)), ((ma 16), .inl (cJ, 46080, .inr (.inl G_6)))]) [0, 1, 2, 3] (by decide +kernel) rfl
                    have hl := lv_sub hl [3, 4, 5, 6, 7, 8, 9, 2, 1, 0] rfl
                    exact kk203 _ 0 G_6 _ _ _ rfl ((by (try dsimp only); first | assumption | omega | trivial)) hP hD hS hl
              · skip
                have g168_27 : jm.toInt = 0 := (i_eq rfl (by decide)).mp h_9
                refine lv_iload hx hb d_DiscMakerModel_components_171 (lv_at hl 7 rfl) ?_
                refine lv_iload hx hb d_DiscMakerModel_components_173 (lv_at hl 6 rfl) ?_
                refine lv_isub hx hb d_DiscMakerModel_components_175 ?_
                refine lv_topi (fun v21 e_v21 => ?_)
                have t_v21 : v21.toInt = lq.toInt - lp.toInt := by rw [e_v21]; exact i_sub rfl rfl (by omega) (by omega)
                refine lv_goto (tgt := 180) hx hb d_DiscMakerModel_components_176 (by decide) ?_
                refine lv_istore hx hb d_DiscMakerModel_components_180 hl (by decide) rfl (fun ls hl => ?_)
                have hl : lv_has ls 10 [(8, .int v21), (7, .int jm), (0, .ref h0), (1, .int x), (2, .int y), (3, .int v1), (4, .int al), (5, .int lp), (6, .int lq)] := hl
                refine lv_iload hx hb d_DiscMakerModel_components_182 (lv_at hl 8 rfl) ?_
                refine lv_iload hx hb d_DiscMakerModel_components_184 (lv_at hl 7 rfl) ?_
                refine lv_icmp_le (tgt := 258) hx hb d_DiscMakerModel_components_186 (by decide) (fun h_9 => ?_) (fun h_9 => ?_)
                · skip
                  have g186_105 : lq.toInt ≤ lp.toInt := (i_le rfl rfl).mp h_9
                  refine lv_iload hx hb d_DiscMakerModel_components_258 (lv_at hl 8 rfl) ?_
                  refine lv_iconst (v := 1) hx hb d_DiscMakerModel_components_260 (by decide) ?_
                  refine lv_iadd hx hb d_DiscMakerModel_components_261 ?_
                  refine lv_topi (fun v22 e_v22 => ?_)
                  have t_v22 : v22.toInt = lq.toInt + 1 := by rw [e_v22]; exact i_add rfl (by decide) (by omega) (by omega)
                  refine lv_istore hx hb d_DiscMakerModel_components_262 hl (by decide) rfl (fun ls hl => ?_)
                  have hl : lv_has ls 10 [(5, .int v22), (8, .int v21), (7, .int jm), (0, .ref h0), (1, .int x), (2, .int y), (3, .int v1), (4, .int al), (6, .int lq)] := hl
                  refine lv_goto (tgt := 41) hx hb d_DiscMakerModel_components_264 (by decide) ?_
                  have hP := hP.sub (ws' := [(h0, .inr (11, MO ma sv_thrown sv_length sv_nodes sv_many sv_directories sv_runsFrom sv_runs sv_read sv_wrong sv_isNamed sv_goes sv_goesSize sv_goesAt sv_targetParts sv_isRoot)), ((ma 16), .inl (cJ, 46080, .inr (.inl lF))), ((ma 10), .inl (cB, 8000, .inl fT)), ((ma 11), .inl (cI, 40, .inl fTS))]) [0, 1, 2, 3] rfl
                  have hD := hD.sub (ws' := [(h0, .inr (11, MO ma sv_thrown sv_length sv_nodes sv_many sv_directories sv_runsFrom sv_runs sv_read sv_wrong sv_isNamed sv_goes sv_goesSize sv_goesAt sv_targetParts sv_isRoot)), ((ma 16), .inl (cJ, 46080, .inr (.inl lF))), ((ma 10), .inl (cB, 8000, .inl fT)), ((ma 11), .inl (cI, 40, .inl fTS))]) [0, 1, 2, 3] (by decide +kernel) rfl
                  have hl := lv_sub hl [3, 4, 5, 6, 7, 0] rfl
                  exact ih41 _ (by first | omega | (dsimp only; omega)) al v22 lF _ _ _ rfl ((by (try dsimp only); first | assumption | omega | trivial)) ((by (try dsimp only); first | assumption | omega | trivial)) ((by have h0 := cmL_go (t := (tgF fT x.toNatClampNeg)) (n := (fTS x.toNatClampNeg).toInt.toNat) (p := lp.toNatClampNeg) (all := al.toNatClampNeg) (by omega); have h1 := i_cl (a := v22) (by omega); have h2 := i_cl (a := al) (by omega); rw [h81, f2] at h0; rw [show v22.toNatClampNeg = lq.toNatClampNeg + 1 by omega, show al.toNatClampNeg = al.toNatClampNeg + cbF (tgF fT x.toNatClampNeg) lp.toNatClampNeg lq.toNatClampNeg by omega]; exact h0.symm)) hP hD hS hl
                · skip
                  have g186_105 : ¬ lq.toInt ≤ lp.toInt := fun h8 => h_9 ((i_le rfl rfl).mpr h8)
                  refine lv_aload_n hx hb d_DiscMakerModel_components_189 rfl (lv_at hl 2 rfl) ?_
                  refine lv_iload_n hx hb d_DiscMakerModel_components_190 rfl (lv_at hl 4 rfl) ?_
                  refine lv_iload hx hb d_DiscMakerModel_components_191 (lv_at hl 6 rfl) ?_
                  refine lv_iload hx hb d_DiscMakerModel_components_193 (lv_at hl 1 rfl) ?_
                  refine lv_iload hx hb d_DiscMakerModel_components_195 (lv_at hl 0 rfl) ?_
                  have hPc := hP.sub (ws' := [(h0, .inr (11, MO ma sv_thrown sv_length sv_nodes sv_many sv_directories sv_runsFrom sv_runs sv_read sv_wrong sv_isNamed sv_goes sv_goesSize sv_goesAt sv_targetParts sv_isRoot)), ((ma 16), .inl (cJ, 46080, .inr (.inl lF)))]) [0, 1] rfl
                  have hDc := hD.sub (ws' := [(h0, .inr (11, MO ma sv_thrown sv_length sv_nodes sv_many sv_directories sv_runsFrom sv_runs sv_read sv_wrong sv_isNamed sv_goes sv_goesSize sv_goesAt sv_targetParts sv_isRoot)), ((ma 16), .inl (cJ, 46080, .inr (.inl lF)))]) [0, 1] (by decide +kernel) rfl
                  have hFc := va_free (wc := [(h0, .inr (11, MO ma sv_thrown sv_length sv_nodes sv_many sv_directories sv_runsFrom sv_runs sv_read sv_wrong sv_isNamed sv_goes sv_goesSize sv_goesAt sv_targetParts sv_isRoot)), ((ma 16), .inl (cJ, 46080, .inr (.inl lF)))]) hD hS hA [0, 1] rfl
                  have hkc : 0 ≤ 0 := by decide
                  have hks : 0 ≤ 0 := by decide
                  refine va_callv (va_runV (C := "DiscMakerModel") (As := [.int y, .int al, .int jm, .int v21]) (rest := []) ⟨hx, hb, hml, hown, hts⟩ (m_mark l D cB cI cJ cZ cN cF H.size h0 ma sv_thrown sv_length sv_nodes sv_many sv_directories sv_runsFrom sv_runs sv_read sv_wrong sv_isNamed sv_goes sv_goesSize sv_goesAt sv_targetParts sv_isRoot lF y al jm v21 (by (try dsimp only); first | assumption | omega | trivial)) (cwV 4 hts (lg_goodV k1723 k1725 k78 k125 kc_DiscMakerModel_mark) rfl rfl rfl (by decide +kernel) ⟨Nat.le_of_ble_eq_true rfl, Nat.le_of_ble_eq_true rfl⟩) ⟨fun a U g mk q => by obtain ⟨q0, q1, qP, qK, qN, qD⟩ := q; exact ⟨q0, q1, qP, va_K.moved (u := U) (U := U.calling g mk a) (Vm.Alike.refl U.vm) qK, qN.calling, qD⟩, va_recv hK hP (ci := 11) (q0 := 0) rfl rfl, fun U hU hW => ⟨rfl, by rw [hU], by rw [hU]; exact hPc, va_K.moved hW.alike hK, NN.warm hW hN, hDc.weaken (fun _ _ _ _ => trivial)⟩⟩ rfl rfl hl.1 rfl (lv_room (Nat.le_of_ble_eq_true rfl)) d_DiscMakerModel_components_197 ⟨hkc, hks⟩) hS (fun q _ h => hFc q h) hFc (fun u t H1 locs ht hvm hp_r23 hB hz1 hk1 hS => ?_)
                  obtain ⟨G_24, rfl⟩ : ∃ z, z = u := ⟨_, rfl⟩
                  obtain ⟨hP1, hD1⟩ := hB
                  rw [ht] at hP1
                  obtain ⟨hP, hD⟩ := va_join (wr := [((ma 10), .inl (cB, 8000, .inl fT)), ((ma 11), .inl (cI, 40, .inl fTS))]) (w1 := [(h0, .inr (11, MO ma sv_thrown sv_length sv_nodes sv_many sv_directories sv_runsFrom sv_runs sv_read sv_wrong sv_isNamed sv_goes sv_goesSize sv_goesAt sv_targetParts sv_isRoot)), ((ma 16), .inl (cJ, 46080, .inr (.inl G_24)))]) hP hD [0, 1] [2, 3] rfl rfl (by decide +kernel) (by decide +kernel) hk1 hFc hP1 hD1
                  clear hPc hDc hFc hP1 hD1 hk1 hz1 hkc hks
                  generalize H1 = H at hP hS ⊢
                  have hP : va_P D CL [((ma 10), .inl (cB, 8000, .inl fT)), ((ma 11), .inl (cI, 40, .inl fTS)), (h0, .inr (11, MO ma sv_thrown sv_length sv_nodes sv_many sv_directories sv_runsFrom sv_runs sv_read sv_wrong sv_isNamed sv_goes sv_goesSize sv_goesAt sv_targetParts sv_isRoot)), ((ma 16), .inl (cJ, 46080, .inr (.inl G_24)))] H := hP
                  have hD : va_D A [((ma 10), .inl (cB, 8000, .inl fT)), ((ma 11), .inl (cI, 40, .inl fTS)), (h0, .inr (11, MO ma sv_thrown sv_length sv_nodes sv_many sv_directories sv_runsFrom sv_runs sv_read sv_wrong sv_isNamed sv_goes sv_goesSize sv_goesAt sv_targetParts sv_isRoot)), ((ma 16), .inl (cJ, 46080, .inr (.inl G_24)))] := hD
                  refine lv_iconst (v := 0) hx hb d_DiscMakerModel_components_200 (by decide) ?_
                  refine lv_istore hx hb d_DiscMakerModel_components_201 hl (by decide) rfl (fun ls hl => ?_)
                  have hl : lv_has ls 10 [(9, .int 0), (8, .int v21), (7, .int jm), (0, .ref h0), (1, .int x), (2, .int y), (3, .int v1), (4, .int al), (5, .int lp), (6, .int lq)] := hl
                  refine zz_labM (B := fun (lk : Nat) (K : Heap → List Loc → Array Slot → List Value → Prop) => ∀ (k9 : Int32) (nF : Nat → Int64) (H : Heap) (locs : List Loc) (ls : Array Slot), lk = (201 - k9.toInt).toNat → (0 ≤ k9.toInt ∧ k9.toInt ≤ 200) → va_P D CL [((ma 10), .inl (cB, 8000, .inl fT)), ((ma 11), .inl (cI, 40, .inl fTS)), (h0, .inr (11, MO ma sv_thrown sv_length sv_nodes sv_many sv_directories sv_runsFrom sv_runs sv_read sv_wrong sv_isNamed sv_goes sv_goesSize sv_goesAt sv_targetParts sv_isRoot)), ((ma 16), .inl (cJ, 46080, .inr (.inl nF)))] H → va_D A [((ma 10), .inl (cB, 8000, .inl fT)), ((ma 11), .inl (cI, 40, .inl fTS)), (h0, .inr (11, MO ma sv_thrown sv_length sv_nodes sv_many sv_directories sv_runsFrom sv_runs sv_read sv_wrong sv_isNamed sv_goes sv_goesSize sv_goesAt sv_targetParts sv_isRoot)), ((ma 16), .inl (cJ, 46080, .inr (.inl nF)))] → va_S A s.heap H locs → lv_has ls 10 [(0, .ref h0), (1, .int x), (2, .int y), (3, .int v1), (4, .int al), (5, .int lp), (6, .int lq), (7, .int jm), (8, .int v21), (9, .int k9)] → K H locs ls []) 203 ?_ ?_
                  · skip
                    intro lk ih203 k9 nF H locs ls hm203 f9 hP hD hS hl
                    refine lv_iload hx hb d_DiscMakerModel_components_203 (lv_at hl 9 rfl) ?_
                    refine lv_iload hx hb d_DiscMakerModel_components_205 (lv_at hl 8 rfl) ?_
                    refine lv_icmp_ge (tgt := 249) hx hb d_DiscMakerModel_components_207 (by decide) (fun h_9 => ?_) (fun h_9 => ?_)
                    · skip
                      have g207_122 : v21.toInt ≤ k9.toInt := (i_le rfl rfl).mp h_9
                      refine lv_iload hx hb d_DiscMakerModel_components_249 (lv_at hl 4 rfl) ?_
                      refine lv_iconst (v := 2) hx hb d_DiscMakerModel_components_251 (by decide) ?_
                      refine lv_iload hx hb d_DiscMakerModel_components_252 (lv_at hl 8 rfl) ?_
                      refine lv_iadd hx hb d_DiscMakerModel_components_254 ?_
                      refine lv_topi (fun v25 e_v25 => ?_)
                      have t_v25 : v25.toInt = 2 + v21.toInt := by rw [e_v25]; exact i_add (by decide) rfl (by omega) (by omega)
                      refine lv_iadd hx hb d_DiscMakerModel_components_255 ?_
                      refine lv_topi (fun v26 e_v26 => ?_)
                      have t_v26 : v26.toInt = al.toInt + v25.toInt := by rw [e_v26]; exact i_add rfl rfl (by omega) (by omega)
                      refine lv_istore hx hb d_DiscMakerModel_components_256 hl (by decide) rfl (fun ls hl => ?_)
                      have hl : lv_has ls 10 [(4, .int v26), (0, .ref h0), (1, .int x), (2, .int y), (3, .int v1), (5, .int lp), (6, .int lq), (7, .int jm), (8, .int v21), (9, .int k9)] := hl
                      refine lv_iload hx hb d_DiscMakerModel_components_258 (lv_at hl 6 rfl) ?_
                      refine lv_iconst (v := 1) hx hb d_DiscMakerModel_components_260 (by decide) ?_
                      refine lv_iadd hx hb d_DiscMakerModel_components_261 ?_
                      refine lv_topi (fun v27 e_v27 => ?_)
                      have t_v27 : v27.toInt = lq.toInt + 1 := by rw [e_v27]; exact i_add rfl (by decide) (by omega) (by omega)
                      refine lv_istore hx hb d_DiscMakerModel_components_262 hl (by decide) rfl (fun ls hl => ?_)
                      have hl : lv_has ls 10 [(5, .int v27), (4, .int v26), (0, .ref h0), (1, .int x), (2, .int y), (3, .int v1), (6, .int lq), (7, .int jm), (8, .int v21), (9, .int k9)] := hl
                      refine lv_goto (tgt := 41) hx hb d_DiscMakerModel_components_264 (by decide) ?_
                      have hP := hP.sub (ws' := [(h0, .inr (11, MO ma sv_thrown sv_length sv_nodes sv_many sv_directories sv_runsFrom sv_runs sv_read sv_wrong sv_isNamed sv_goes sv_goesSize sv_goesAt sv_targetParts sv_isRoot)), ((ma 16), .inl (cJ, 46080, .inr (.inl nF))), ((ma 10), .inl (cB, 8000, .inl fT)), ((ma 11), .inl (cI, 40, .inl fTS))]) [2, 3, 0, 1] rfl
                      have hD := hD.sub (ws' := [(h0, .inr (11, MO ma sv_thrown sv_length sv_nodes sv_many sv_directories sv_runsFrom sv_runs sv_read sv_wrong sv_isNamed sv_goes sv_goesSize sv_goesAt sv_targetParts sv_isRoot)), ((ma 16), .inl (cJ, 46080, .inr (.inl nF))), ((ma 10), .inl (cB, 8000, .inl fT)), ((ma 11), .inl (cI, 40, .inl fTS))]) [2, 3, 0, 1] (by decide +kernel) rfl
                      have hl := lv_sub hl [2, 3, 4, 5, 1, 0] rfl
                      exact ih41 _ (by first | omega | (dsimp only; omega)) v26 v27 nF _ _ _ rfl ((by (try dsimp only); first | assumption | omega | trivial)) ((by (try dsimp only); first | assumption | omega | trivial)) ((by have h0 := cmL_go (t := (tgF fT x.toNatClampNeg)) (n := (fTS x.toNatClampNeg).toInt.toNat) (p := lp.toNatClampNeg) (all := al.toNatClampNeg) (by omega); have h1 := i_cl (a := v27) (by omega); have h2 := i_cl (a := v26) (by omega); rw [h81, f2] at h0; rw [show v27.toNatClampNeg = lq.toNatClampNeg + 1 by omega, show v26.toNatClampNeg = al.toNatClampNeg + cbF (tgF fT x.toNatClampNeg) lp.toNatClampNeg lq.toNatClampNeg by omega]; exact h0.symm)) hP hD hS hl
                    · skip
                      have g207_122 : ¬ v21.toInt ≤ k9.toInt := fun h8 => h_9 ((i_le rfl rfl).mpr h8)
                      refine lv_iload_n hx hb d_DiscMakerModel_components_210 rfl (lv_at hl 2 rfl) ?_
                      refine lv_if_lt (tgt := 249) hx hb d_DiscMakerModel_components_211 (by decide) (fun h_9 => ?_) (fun h_9 => ?_)
                      · skip
                        have g211_136 : y.toInt < 0 := (i_lt rfl (by decide)).mp h_9
                        refine lv_iload hx hb d_DiscMakerModel_components_249 (lv_at hl 4 rfl) ?_
                        refine lv_iconst (v := 2) hx hb d_DiscMakerModel_components_251 (by decide) ?_
                        refine lv_iload hx hb d_DiscMakerModel_components_252 (lv_at hl 8 rfl) ?_
                        refine lv_iadd hx hb d_DiscMakerModel_components_254 ?_
                        refine lv_topi (fun v28 e_v28 => ?_)
                        have t_v28 : v28.toInt = 2 + v21.toInt := by rw [e_v28]; exact i_add (by decide) rfl (by omega) (by omega)
                        refine lv_iadd hx hb d_DiscMakerModel_components_255 ?_
                        refine lv_topi (fun v29 e_v29 => ?_)
                        have t_v29 : v29.toInt = al.toInt + v28.toInt := by rw [e_v29]; exact i_add rfl rfl (by omega) (by omega)
                        refine lv_istore hx hb d_DiscMakerModel_components_256 hl (by decide) rfl (fun ls hl => ?_)
                        have hl : lv_has ls 10 [(4, .int v29), (0, .ref h0), (1, .int x), (2, .int y), (3, .int v1), (5, .int lp), (6, .int lq), (7, .int jm), (8, .int v21), (9, .int k9)] := hl
                        refine lv_iload hx hb d_DiscMakerModel_components_258 (lv_at hl 6 rfl) ?_
                        refine lv_iconst (v := 1) hx hb d_DiscMakerModel_components_260 (by decide) ?_
                        refine lv_iadd hx hb d_DiscMakerModel_components_261 ?_
                        refine lv_topi (fun v30 e_v30 => ?_)
                        have t_v30 : v30.toInt = lq.toInt + 1 := by rw [e_v30]; exact i_add rfl (by decide) (by omega) (by omega)
                        refine lv_istore hx hb d_DiscMakerModel_components_262 hl (by decide) rfl (fun ls hl => ?_)
                        have hl : lv_has ls 10 [(5, .int v30), (4, .int v29), (0, .ref h0), (1, .int x), (2, .int y), (3, .int v1), (6, .int lq), (7, .int jm), (8, .int v21), (9, .int k9)] := hl
                        refine lv_goto (tgt := 41) hx hb d_DiscMakerModel_components_264 (by decide) ?_
                        have hP := hP.sub (ws' := [(h0, .inr (11, MO ma sv_thrown sv_length sv_nodes sv_many sv_directories sv_runsFrom sv_runs sv_read sv_wrong sv_isNamed sv_goes sv_goesSize sv_goesAt sv_targetParts sv_isRoot)), ((ma 16), .inl (cJ, 46080, .inr (.inl nF))), ((ma 10), .inl (cB, 8000, .inl fT)), ((ma 11), .inl (cI, 40, .inl fTS))]) [2, 3, 0, 1] rfl
                        have hD := hD.sub (ws' := [(h0, .inr (11, MO ma sv_thrown sv_length sv_nodes sv_many sv_directories sv_runsFrom sv_runs sv_read sv_wrong sv_isNamed sv_goes sv_goesSize sv_goesAt sv_targetParts sv_isRoot)), ((ma 16), .inl (cJ, 46080, .inr (.inl nF))), ((ma 10), .inl (cB, 8000, .inl fT)), ((ma 11), .inl (cI, 40, .inl fTS))]) [2, 3, 0, 1] (by decide +kernel) rfl
                        have hl := lv_sub hl [2, 3, 4, 5, 1, 0] rfl
                        exact ih41 _ (by first | omega | (dsimp only; omega)) v29 v30 nF _ _ _ rfl ((by (try dsimp only); first | assumption | omega | trivial)) ((by (try dsimp only); first | assumption | omega | trivial)) ((by have h0 := cmL_go (t := (tgF fT x.toNatClampNeg)) (n := (fTS x.toNatClampNeg).toInt.toNat) (p := lp.toNatClampNeg) (all := al.toNatClampNeg) (by omega); have h1 := i_cl (a := v30) (by omega); have h2 := i_cl (a := v29) (by omega); rw [h81, f2] at h0; rw [show v30.toNatClampNeg = lq.toNatClampNeg + 1 by omega, show v29.toNatClampNeg = al.toNatClampNeg + cbF (tgF fT x.toNatClampNeg) lp.toNatClampNeg lq.toNatClampNeg by omega]; exact h0.symm)) hP hD hS hl
                      · skip
                        have g211_136 : ¬ y.toInt < 0 := fun h8 => h_9 ((i_lt rfl (by decide)).mpr h8)
                        refine lv_aload_n hx hb d_DiscMakerModel_components_214 rfl (lv_at hl 0 rfl) ?_
                        refine lv_iload_n hx hb d_DiscMakerModel_components_215 rfl (lv_at hl 2 rfl) ?_
                        refine lv_iload hx hb d_DiscMakerModel_components_216 (lv_at hl 4 rfl) ?_
                        refine lv_iadd hx hb d_DiscMakerModel_components_218 ?_
                        refine lv_topi (fun v31 e_v31 => ?_)
                        have t_v31 : v31.toInt = y.toInt + al.toInt := by rw [e_v31]; exact i_add rfl rfl (by omega) (by omega)
                        refine lv_iconst (v := 2) hx hb d_DiscMakerModel_components_219 (by decide) ?_
                        refine lv_iadd hx hb d_DiscMakerModel_components_220 ?_
                        refine lv_topi (fun v32 e_v32 => ?_)
                        have t_v32 : v32.toInt = v31.toInt + 2 := by rw [e_v32]; exact i_add rfl (by decide) (by omega) (by omega)
                        refine lv_iload hx hb d_DiscMakerModel_components_221 (lv_at hl 9 rfl) ?_
                        refine lv_iadd hx hb d_DiscMakerModel_components_223 ?_
                        refine lv_topi (fun v33 e_v33 => ?_)
                        have t_v33 : v33.toInt = v32.toInt + k9.toInt := by rw [e_v33]; exact i_add rfl rfl (by omega) (by omega)
                        refine lv_aload_n hx hb d_DiscMakerModel_components_224 rfl (lv_at hl 0 rfl) ?_
                        refine va_get (D := D) (ci := 11) (v := .ref (ma 10)) (C := "DiscMakerModel") (T := F_DiscMakerModel) (N := 48) hx hb ht9 in_DiscMakerModel hown hK hP 2 rfl rfl 13 (by decide) (ht9 _ k1444) (fun _ h9 => h9) rfl d_DiscMakerModel_components_225 ?_
                        refine lv_sipush (v := 200) hx hb d_DiscMakerModel_components_228 (by decide) ?_
                        refine lv_iload_n hx hb d_DiscMakerModel_components_231 rfl (lv_at hl 1 rfl) ?_
                        refine lv_imul hx hb d_DiscMakerModel_components_232 ?_
                        refine lv_topi (fun v34 e_v34 => ?_)
                        have t_v34 : v34.toInt = 200 * x.toInt := by rw [e_v34]; exact i_mul (by decide) rfl (by omega) (by omega)
                        refine lv_iload hx hb d_DiscMakerModel_components_233 (lv_at hl 5 rfl) ?_
                        refine lv_iadd hx hb d_DiscMakerModel_components_235 ?_
                        refine lv_topi (fun v35 e_v35 => ?_)
                        have t_v35 : v35.toInt = v34.toInt + lp.toInt := by rw [e_v35]; exact i_add rfl rfl (by omega) (by omega)
                        refine lv_iload hx hb d_DiscMakerModel_components_236 (lv_at hl 9 rfl) ?_
                        refine lv_iadd hx hb d_DiscMakerModel_components_238 ?_
                        refine lv_topi (fun v36 e_v36 => ?_)
                        have t_v36 : v36.toInt = v35.toInt + k9.toInt := by rw [e_v36]; exact i_add rfl rfl (by omega) (by omega)
                        refine va_bald hx hb hK hP 0 0 rfl rfl (vp_in_iff.mpr ⟨by omega, by omega⟩) d_DiscMakerModel_components_239 ?_
                        refine lv_topi (fun v37 e_v37 => ?_)
                        have hPc := hP.sub (ws' := [(h0, .inr (11, MO ma sv_thrown sv_length sv_nodes sv_many sv_directories sv_runsFrom sv_runs sv_read sv_wrong sv_isNamed sv_goes sv_goesSize sv_goesAt sv_targetParts sv_isRoot)), ((ma 16), .inl (cJ, 46080, .inr (.inl nF)))]) [2, 3] rfl
                        have hDc := hD.sub (ws' := [(h0, .inr (11, MO ma sv_thrown sv_length sv_nodes sv_many sv_directories sv_runsFrom sv_runs sv_read sv_wrong sv_isNamed sv_goes sv_goesSize sv_goesAt sv_targetParts sv_isRoot)), ((ma 16), .inl (cJ, 46080, .inr (.inl nF)))]) [2, 3] (by decide +kernel) rfl
                        have hFc := va_free (wc := [(h0, .inr (11, MO ma sv_thrown sv_length sv_nodes sv_many sv_directories sv_runsFrom sv_runs sv_read sv_wrong sv_isNamed sv_goes sv_goesSize sv_goesAt sv_targetParts sv_isRoot)), ((ma 16), .inl (cJ, 46080, .inr (.inl nF)))]) hD hS hA [2, 3] rfl
                        have hkc : 0 ≤ 0 := by decide
                        have hks : 0 ≤ 0 := by decide
                        refine va_callv (va_runV (C := "DiscMakerModel") (As := [.int v33, .int v37]) (rest := []) ⟨hx, hb, hml, hown, hts⟩ (m_set l D cB cI cJ cZ cN cF H.size h0 ma sv_thrown sv_length sv_nodes sv_many sv_directories sv_runsFrom sv_runs sv_read sv_wrong sv_isNamed sv_goes sv_goesSize sv_goesAt sv_targetParts sv_isRoot nF v33 v37 (by (try dsimp only); first | assumption | omega | trivial) (by (try dsimp only); first | assumption | omega | trivial)) (cwV 2 hts (lg_goodV k1727 k1729 k79 k125 kc_DiscMakerModel_set) rfl rfl rfl (by decide +kernel) ⟨Nat.le_of_ble_eq_true rfl, Nat.le_of_ble_eq_true rfl⟩) ⟨fun a U g mk q => by obtain ⟨q0, q1, qP, qK, qN, qD⟩ := q; exact ⟨q0, q1, qP, va_K.moved (u := U) (U := U.calling g mk a) (Vm.Alike.refl U.vm) qK, qN.calling, qD⟩, va_recv hK hP (ci := 11) (q0 := 2) rfl rfl, fun U hU hW => ⟨rfl, by rw [hU], by rw [hU]; exact hPc, va_K.moved hW.alike hK, NN.warm hW hN, hDc.weaken (fun _ _ _ _ => trivial)⟩⟩ rfl rfl hl.1 rfl (lv_room (Nat.le_of_ble_eq_true rfl)) d_DiscMakerModel_components_240 ⟨hkc, hks⟩) hS (fun q _ h => hFc q h) hFc (fun u t H1 locs ht hvm hp_r38 hB hz1 hk1 hS => ?_)
                        obtain ⟨G_39, rfl⟩ : ∃ z, z = u := ⟨_, rfl⟩
                        obtain ⟨hP1, hD1⟩ := hB
                        rw [ht] at hP1
                        obtain ⟨hP, hD⟩ := va_join (wr := [((ma 10), .inl (cB, 8000, .inl fT)), ((ma 11), .inl (cI, 40, .inl fTS))]) (w1 := [(h0, .inr (11, MO ma sv_thrown sv_length sv_nodes sv_many sv_directories sv_runsFrom sv_runs sv_read sv_wrong sv_isNamed sv_goes sv_goesSize sv_goesAt sv_targetParts sv_isRoot)), ((ma 16), .inl (cJ, 46080, .inr (.inl G_39)))]) hP hD [2, 3] [0, 1] rfl rfl (by decide +kernel) (by decide +kernel) hk1 hFc hP1 hD1
                        clear hPc hDc hFc hP1 hD1 hk1 hz1 hkc hks
                        generalize H1 = H at hP hS ⊢
                        have hP : va_P D CL [((ma 10), .inl (cB, 8000, .inl fT)), ((ma 11), .inl (cI, 40, .inl fTS)), (h0, .inr (11, MO ma sv_thrown sv_length sv_nodes sv_many sv_directories sv_runsFrom sv_runs sv_read sv_wrong sv_isNamed sv_goes sv_goesSize sv_goesAt sv_targetParts sv_isRoot)), ((ma 16), .inl (cJ, 46080, .inr (.inl G_39)))] H := hP
                        have hD : va_D A [((ma 10), .inl (cB, 8000, .inl fT)), ((ma 11), .inl (cI, 40, .inl fTS)), (h0, .inr (11, MO ma sv_thrown sv_length sv_nodes sv_many sv_directories sv_runsFrom sv_runs sv_read sv_wrong sv_isNamed sv_goes sv_goesSize sv_goesAt sv_targetParts sv_isRoot)), ((ma 16), .inl (cJ, 46080, .inr (.inl G_39)))] := hD
                        obtain ⟨v40, e_v40⟩ : ∃ z : Int32, z = k9 + 1 := ⟨_, rfl⟩
                        refine lv_iinc (v := v40) hx hb d_DiscMakerModel_components_243 hl (k := 9) rfl e_v40.symm (by decide +kernel) rfl (fun ls hl => ?_)
                        have t_v40 : v40.toInt = k9.toInt + 1 := by rw [e_v40]; exact i_add rfl (by decide) (by omega) (by omega)
                        have hl : lv_has ls 10 [(9, .int v40), (0, .ref h0), (1, .int x), (2, .int y), (3, .int v1), (4, .int al), (5, .int lp), (6, .int lq), (7, .int jm), (8, .int v21)] := hl
                        refine lv_goto (tgt := 203) hx hb d_DiscMakerModel_components_246 (by decide) ?_
                        have hP := hP.sub (ws' := [((ma 10), .inl (cB, 8000, .inl fT)), ((ma 11), .inl (cI, 40, .inl fTS)), (h0, .inr (11, MO ma sv_thrown sv_length sv_nodes sv_many sv_directories sv_runsFrom sv_runs sv_read sv_wrong sv_isNamed sv_goes sv_goesSize sv_goesAt sv_targetParts sv_isRoot)), ((ma 16), .inl (cJ, 46080, .inr (.inl G_39)))]) [0, 1, 2, 3] rfl
                        have hD := hD.sub (ws' := [((ma 10), .inl (cB, 8000, .inl fT)), ((ma 11), .inl (cI, 40, .inl fTS)), (h0, .inr (11, MO ma sv_thrown sv_length sv_nodes sv_many sv_directories sv_runsFrom sv_runs sv_read sv_wrong sv_isNamed sv_goes sv_goesSize sv_goesAt sv_targetParts sv_isRoot)), ((ma 16), .inl (cJ, 46080, .inr (.inl G_39)))]) [0, 1, 2, 3] (by decide +kernel) rfl
                        have hl := lv_sub hl [1, 2, 3, 4, 5, 6, 7, 8, 9, 0] rfl
                        exact ih203 _ (by first | omega | (dsimp only; omega)) v40 G_39 _ _ _ rfl ((by (try dsimp only); first | assumption | omega | trivial)) hP hD hS hl
                  · skip
                    intro kk203
                    have hP := hP.sub (ws' := [((ma 10), .inl (cB, 8000, .inl fT)), ((ma 11), .inl (cI, 40, .inl fTS)), (h0, .inr (11, MO ma sv_thrown sv_length sv_nodes sv_many sv_directories sv_runsFrom sv_runs sv_read sv_wrong sv_isNamed sv_goes sv_goesSize sv_goesAt sv_targetParts sv_isRoot)), ((ma 16), .inl (cJ, 46080, .inr (.inl G_24)))]) [0, 1, 2, 3] rfl
                    have hD := hD.sub (ws' := [((ma 10), .inl (cB, 8000, .inl fT)), ((ma 11), .inl (cI, 40, .inl fTS)), (h0, .inr (11, MO ma sv_thrown sv_length sv_nodes sv_many sv_directories sv_runsFrom sv_runs sv_read sv_wrong sv_isNamed sv_goes sv_goesSize sv_goesAt sv_targetParts sv_isRoot)), ((ma 16), .inl (cJ, 46080, .inr (.inl G_24)))]) [0, 1, 2, 3] (by decide +kernel) rfl
                    have hl := lv_sub hl [3, 4, 5, 6, 7, 8, 9, 2, 1, 0] rfl
                    exact kk203 _ 0 G_24 _ _ _ rfl ((by (try dsimp only); first | assumption | omega | trivial)) hP hD hS hl
            · skip
              intro kk164
              have hal9 := cmL_all (tgF fT x.toNatClampNeg) (fTS x.toNatClampNeg).toInt.toNat (lq.toNatClampNeg + 1) (al.toNatClampNeg + cbF (tgF fT x.toNatClampNeg) lp.toNatClampNeg lq.toNatClampNeg)
              have hgo := cmL_go (t := (tgF fT x.toNatClampNeg)) (n := (fTS x.toNatClampNeg).toInt.toNat) (p := lp.toNatClampNeg) (all := al.toNatClampNeg) (by omega)
              rw [h81, f2] at hgo
              have hal8 : al.toNatClampNeg + cbF (tgF fT x.toNatClampNeg) lp.toNatClampNeg lq.toNatClampNeg ≤ 303 := by omega
              refine lv_iload hx hb d_DiscMakerModel_components_83 (lv_at hl 5 rfl) ?_
              refine lv_isub hx hb d_DiscMakerModel_components_85 ?_
              refine lv_topi (fun v41 e_v41 => ?_)
              have t_v41 : v41.toInt = lq.toInt - lp.toInt := by rw [e_v41]; exact i_sub rfl rfl (by omega) (by omega)
              refine lv_iconst (v := 1) hx hb d_DiscMakerModel_components_86 (by decide) ?_
              refine lv_icmp_ne (tgt := 112) hx hb d_DiscMakerModel_components_87 (by decide) (fun h_9 => ?_) (fun h_9 => ?_)
              · skip
                have g87_174 : ¬ v41.toInt = 1 := fun h8 => h_9 ((i_eq rfl (by decide)).mpr h8)
                refine lv_iload hx hb d_DiscMakerModel_components_112 (lv_at hl 6 rfl) ?_
                refine lv_iload hx hb d_DiscMakerModel_components_114 (lv_at hl 5 rfl) ?_
                refine lv_isub hx hb d_DiscMakerModel_components_116 ?_
                refine lv_topi (fun v42 e_v42 => ?_)
                have t_v42 : v42.toInt = lq.toInt - lp.toInt := by rw [e_v42]; exact i_sub rfl rfl (by omega) (by omega)
                refine lv_iconst (v := 2) hx hb d_DiscMakerModel_components_117 (by decide) ?_
                refine lv_icmp_ne (tgt := 163) hx hb d_DiscMakerModel_components_118 (by decide) (fun h_9 => ?_) (fun h_9 => ?_)
                · skip
                  have g118_179 : ¬ v42.toInt = 2 := fun h8 => h_9 ((i_eq rfl (by decide)).mpr h8)
                  refine lv_iconst (v := 0) hx hb d_DiscMakerModel_components_163 (by decide) ?_
                  have hP := hP.sub (ws' := [(h0, .inr (11, MO ma sv_thrown sv_length sv_nodes sv_many sv_directories sv_runsFrom sv_runs sv_read sv_wrong sv_isNamed sv_goes sv_goesSize sv_goesAt sv_targetParts sv_isRoot)), ((ma 16), .inl (cJ, 46080, .inr (.inl lF))), ((ma 10), .inl (cB, 8000, .inl fT)), ((ma 11), .inl (cI, 40, .inl fTS))]) [0, 1, 2, 3] rfl
                  have hD := hD.sub (ws' := [(h0, .inr (11, MO ma sv_thrown sv_length sv_nodes sv_many sv_directories sv_runsFrom sv_runs sv_read sv_wrong sv_isNamed sv_goes sv_goesSize sv_goesAt sv_targetParts sv_isRoot)), ((ma 16), .inl (cJ, 46080, .inr (.inl lF))), ((ma 10), .inl (cB, 8000, .inl fT)), ((ma 11), .inl (cI, 40, .inl fTS))]) [0, 1, 2, 3] (by decide +kernel) rfl
                  have hl := lv_sub hl [0, 1, 2, 3, 4, 5, 6] rfl
                  exact kk164 _ 0 _ _ _ rfl ((by unfold cbF; split <;> (try split) <;> omega)) hP hD hS hl
                · skip
                  have g118_179 : v42.toInt = 2 := (i_eq rfl (by decide)).mp h_9
                  refine lv_aload_n hx hb d_DiscMakerModel_components_121 rfl (lv_at hl 0 rfl) ?_
                  refine va_get (D := D) (ci := 11) (v := .ref (ma 10)) (C := "DiscMakerModel") (T := F_DiscMakerModel) (N := 48) hx hb ht9 in_DiscMakerModel hown hK hP 0 rfl rfl 13 (by decide) (ht9 _ k1444) (fun _ h9 => h9) rfl d_DiscMakerModel_components_122 ?_
                  refine lv_sipush (v := 200) hx hb d_DiscMakerModel_components_125 (by decide) ?_
                  refine lv_iload_n hx hb d_DiscMakerModel_components_128 rfl (lv_at hl 1 rfl) ?_
                  refine lv_imul hx hb d_DiscMakerModel_components_129 ?_
                  refine lv_topi (fun v43 e_v43 => ?_)
                  have t_v43 : v43.toInt = 200 * x.toInt := by rw [e_v43]; exact i_mul (by decide) rfl (by omega) (by omega)
                  refine lv_iload hx hb d_DiscMakerModel_components_130 (lv_at hl 5 rfl) ?_
                  refine lv_iadd hx hb d_DiscMakerModel_components_132 ?_
                  refine lv_topi (fun v44 e_v44 => ?_)
                  have t_v44 : v44.toInt = v43.toInt + lp.toInt := by rw [e_v44]; exact i_add rfl rfl (by omega) (by omega)
                  refine va_bald hx hb hK hP 2 0 rfl rfl (vp_in_iff.mpr ⟨by omega, by omega⟩) d_DiscMakerModel_components_133 ?_
                  refine lv_topi (fun v45 e_v45 => ?_)
                  have c_v45 := i_cl (a := v44) (by omega)
                  have e2_v45 : v45 = fT (200 * x.toNatClampNeg + lp.toNatClampNeg) := by rw [e_v45, show v44.toNatClampNeg = 200 * x.toNatClampNeg + lp.toNatClampNeg by omega]
                  have qtv45 : (tgF fT x.toNatClampNeg (lp.toNatClampNeg)).toInt = v45.toInt := by unfold tgF; rw [e2_v45]
                  refine lv_bipush (v := 46) hx hb d_DiscMakerModel_components_134 (by decide) ?_
                  refine lv_icmp_ne (tgt := 163) hx hb d_DiscMakerModel_components_136 (by decide) (fun h_9 => ?_) (fun h_9 => ?_)
                  · skip
                    have g136_191 : ¬ v45.toInt = 46 := fun h8 => h_9 ((i_eq rfl (by decide)).mpr h8)
                    refine lv_iconst (v := 0) hx hb d_DiscMakerModel_components_163 (by decide) ?_
                    have hP := hP.sub (ws' := [(h0, .inr (11, MO ma sv_thrown sv_length sv_nodes sv_many sv_directories sv_runsFrom sv_runs sv_read sv_wrong sv_isNamed sv_goes sv_goesSize sv_goesAt sv_targetParts sv_isRoot)), ((ma 16), .inl (cJ, 46080, .inr (.inl lF))), ((ma 10), .inl (cB, 8000, .inl fT)), ((ma 11), .inl (cI, 40, .inl fTS))]) [0, 1, 2, 3] rfl
                    have hD := hD.sub (ws' := [(h0, .inr (11, MO ma sv_thrown sv_length sv_nodes sv_many sv_directories sv_runsFrom sv_runs sv_read sv_wrong sv_isNamed sv_goes sv_goesSize sv_goesAt sv_targetParts sv_isRoot)), ((ma 16), .inl (cJ, 46080, .inr (.inl lF))), ((ma 10), .inl (cB, 8000, .inl fT)), ((ma 11), .inl (cI, 40, .inl fTS))]) [0, 1, 2, 3] (by decide +kernel) rfl
                    have hl := lv_sub hl [0, 1, 2, 3, 4, 5, 6] rfl
                    exact kk164 _ 0 _ _ _ rfl ((by unfold cbF; split <;> (try split) <;> omega)) hP hD hS hl
                  · skip
                    have g136_191 : v45.toInt = 46 := (i_eq rfl (by decide)).mp h_9
                    refine lv_aload_n hx hb d_DiscMakerModel_components_139 rfl (lv_at hl 0 rfl) ?_
                    refine va_get (D := D) (ci := 11) (v := .ref (ma 10)) (C := "DiscMakerModel") (T := F_DiscMakerModel) (N := 48) hx hb ht9 in_DiscMakerModel hown hK hP 0 rfl rfl 13 (by decide) (ht9 _ k1444) (fun _ h9 => h9) rfl d_DiscMakerModel_components_140 ?_
                    refine lv_sipush (v := 200) hx hb d_DiscMakerModel_components_143 (by decide) ?_
                    refine lv_iload_n hx hb d_DiscMakerModel_components_146 rfl (lv_at hl 1 rfl) ?_
                    refine lv_imul hx hb d_DiscMakerModel_components_147 ?_
                    refine lv_topi (fun v46 e_v46 => ?_)
                    have t_v46 : v46.toInt = 200 * x.toInt := by rw [e_v46]; exact i_mul (by decide) rfl (by omega) (by omega)
                    refine lv_iload hx hb d_DiscMakerModel_components_148 (lv_at hl 5 rfl) ?_
                    refine lv_iadd hx hb d_DiscMakerModel_components_150 ?_
                    refine lv_topi (fun v47 e_v47 => ?_)
                    have t_v47 : v47.toInt = v46.toInt + lp.toInt := by rw [e_v47]; exact i_add rfl rfl (by omega) (by omega)
                    refine lv_iconst (v := 1) hx hb d_DiscMakerModel_components_151 (by decide) ?_
                    refine lv_iadd hx hb d_DiscMakerModel_components_152 ?_
                    refine lv_topi (fun v48 e_v48 => ?_)
                    have t_v48 : v48.toInt = v47.toInt + 1 := by rw [e_v48]; exact i_add rfl (by decide) (by omega) (by omega)
                    refine va_bald hx hb hK hP 2 0 rfl rfl (vp_in_iff.mpr ⟨by omega, by omega⟩) d_DiscMakerModel_components_153 ?_
                    refine lv_topi (fun v49 e_v49 => ?_)
                    have c_v49 := i_cl (a := v48) (by omega)
                    have e2_v49 : v49 = fT (200 * x.toNatClampNeg + (lp.toNatClampNeg + 1)) := by rw [e_v49, show v48.toNatClampNeg = 200 * x.toNatClampNeg + (lp.toNatClampNeg + 1) by omega]
                    have qtv49 : (tgF fT x.toNatClampNeg ((lp.toNatClampNeg + 1))).toInt = v49.toInt := by unfold tgF; rw [e2_v49]
                    refine lv_bipush (v := 46) hx hb d_DiscMakerModel_components_154 (by decide) ?_
                    refine lv_icmp_ne (tgt := 163) hx hb d_DiscMakerModel_components_156 (by decide) (fun h_9 => ?_) (fun h_9 => ?_)
                    · skip
                      have g156_205 : ¬ v49.toInt = 46 := fun h8 => h_9 ((i_eq rfl (by decide)).mpr h8)
                      refine lv_iconst (v := 0) hx hb d_DiscMakerModel_components_163 (by decide) ?_
                      have hP := hP.sub (ws' := [(h0, .inr (11, MO ma sv_thrown sv_length sv_nodes sv_many sv_directories sv_runsFrom sv_runs sv_read sv_wrong sv_isNamed sv_goes sv_goesSize sv_goesAt sv_targetParts sv_isRoot)), ((ma 16), .inl (cJ, 46080, .inr (.inl lF))), ((ma 10), .inl (cB, 8000, .inl fT)), ((ma 11), .inl (cI, 40, .inl fTS))]) [0, 1, 2, 3] rfl
                      have hD := hD.sub (ws' := [(h0, .inr (11, MO ma sv_thrown sv_length sv_nodes sv_many sv_directories sv_runsFrom sv_runs sv_read sv_wrong sv_isNamed sv_goes sv_goesSize sv_goesAt sv_targetParts sv_isRoot)), ((ma 16), .inl (cJ, 46080, .inr (.inl lF))), ((ma 10), .inl (cB, 8000, .inl fT)), ((ma 11), .inl (cI, 40, .inl fTS))]) [0, 1, 2, 3] (by decide +kernel) rfl
                      have hl := lv_sub hl [0, 1, 2, 3, 4, 5, 6] rfl
                      exact kk164 _ 0 _ _ _ rfl ((by unfold cbF; split <;> (try split) <;> omega)) hP hD hS hl
                    · skip
                      have g156_205 : v49.toInt = 46 := (i_eq rfl (by decide)).mp h_9
                      refine lv_iconst (v := 4) hx hb d_DiscMakerModel_components_159 (by decide) ?_
                      refine lv_goto (tgt := 164) hx hb d_DiscMakerModel_components_160 (by decide) ?_
                      have hP := hP.sub (ws' := [(h0, .inr (11, MO ma sv_thrown sv_length sv_nodes sv_many sv_directories sv_runsFrom sv_runs sv_read sv_wrong sv_isNamed sv_goes sv_goesSize sv_goesAt sv_targetParts sv_isRoot)), ((ma 16), .inl (cJ, 46080, .inr (.inl lF))), ((ma 10), .inl (cB, 8000, .inl fT)), ((ma 11), .inl (cI, 40, .inl fTS))]) [0, 1, 2, 3] rfl
                      have hD := hD.sub (ws' := [(h0, .inr (11, MO ma sv_thrown sv_length sv_nodes sv_many sv_directories sv_runsFrom sv_runs sv_read sv_wrong sv_isNamed sv_goes sv_goesSize sv_goesAt sv_targetParts sv_isRoot)), ((ma 16), .inl (cJ, 46080, .inr (.inl lF))), ((ma 10), .inl (cB, 8000, .inl fT)), ((ma 11), .inl (cI, 40, .inl fTS))]) [0, 1, 2, 3] (by decide +kernel) rfl
                      have hl := lv_sub hl [0, 1, 2, 3, 4, 5, 6] rfl
                      exact kk164 _ 4 _ _ _ rfl ((by unfold cbF; split <;> (try split) <;> omega)) hP hD hS hl
              · skip
                have g87_174 : v41.toInt = 1 := (i_eq rfl (by decide)).mp h_9
                refine lv_aload_n hx hb d_DiscMakerModel_components_90 rfl (lv_at hl 0 rfl) ?_
                refine va_get (D := D) (ci := 11) (v := .ref (ma 10)) (C := "DiscMakerModel") (T := F_DiscMakerModel) (N := 48) hx hb ht9 in_DiscMakerModel hown hK hP 0 rfl rfl 13 (by decide) (ht9 _ k1444) (fun _ h9 => h9) rfl d_DiscMakerModel_components_91 ?_
                refine lv_sipush (v := 200) hx hb d_DiscMakerModel_components_94 (by decide) ?_
                refine lv_iload_n hx hb d_DiscMakerModel_components_97 rfl (lv_at hl 1 rfl) ?_
                refine lv_imul hx hb d_DiscMakerModel_components_98 ?_
                refine lv_topi (fun v50 e_v50 => ?_)
                have t_v50 : v50.toInt = 200 * x.toInt := by rw [e_v50]; exact i_mul (by decide) rfl (by omega) (by omega)
                refine lv_iload hx hb d_DiscMakerModel_components_99 (lv_at hl 5 rfl) ?_
                refine lv_iadd hx hb d_DiscMakerModel_components_101 ?_
                refine lv_topi (fun v51 e_v51 => ?_)
                have t_v51 : v51.toInt = v50.toInt + lp.toInt := by rw [e_v51]; exact i_add rfl rfl (by omega) (by omega)
                refine va_bald hx hb hK hP 2 0 rfl rfl (vp_in_iff.mpr ⟨by omega, by omega⟩) d_DiscMakerModel_components_102 ?_
                refine lv_topi (fun v52 e_v52 => ?_)
                have c_v52 := i_cl (a := v51) (by omega)
                have e2_v52 : v52 = fT (200 * x.toNatClampNeg + lp.toNatClampNeg) := by rw [e_v52, show v51.toNatClampNeg = 200 * x.toNatClampNeg + lp.toNatClampNeg by omega]
                have qtv52 : (tgF fT x.toNatClampNeg (lp.toNatClampNeg)).toInt = v52.toInt := by unfold tgF; rw [e2_v52]
                refine lv_bipush (v := 46) hx hb d_DiscMakerModel_components_103 (by decide) ?_
                refine lv_icmp_ne (tgt := 112) hx hb d_DiscMakerModel_components_105 (by decide) (fun h_9 => ?_) (fun h_9 => ?_)
                · skip
                  have g105_220 : ¬ v52.toInt = 46 := fun h8 => h_9 ((i_eq rfl (by decide)).mpr h8)
                  refine lv_iload hx hb d_DiscMakerModel_components_112 (lv_at hl 6 rfl) ?_
                  refine lv_iload hx hb d_DiscMakerModel_components_114 (lv_at hl 5 rfl) ?_
                  refine lv_isub hx hb d_DiscMakerModel_components_116 ?_
                  refine lv_topi (fun v53 e_v53 => ?_)
                  have t_v53 : v53.toInt = lq.toInt - lp.toInt := by rw [e_v53]; exact i_sub rfl rfl (by omega) (by omega)
                  refine lv_iconst (v := 2) hx hb d_DiscMakerModel_components_117 (by decide) ?_
                  refine lv_icmp_ne (tgt := 163) hx hb d_DiscMakerModel_components_118 (by decide) (fun h_9 => ?_) (fun h_9 => ?_)
                  · skip
                    have g118_225 : ¬ v53.toInt = 2 := fun h8 => h_9 ((i_eq rfl (by decide)).mpr h8)
                    refine lv_iconst (v := 0) hx hb d_DiscMakerModel_components_163 (by decide) ?_
                    have hP := hP.sub (ws' := [(h0, .inr (11, MO ma sv_thrown sv_length sv_nodes sv_many sv_directories sv_runsFrom sv_runs sv_read sv_wrong sv_isNamed sv_goes sv_goesSize sv_goesAt sv_targetParts sv_isRoot)), ((ma 16), .inl (cJ, 46080, .inr (.inl lF))), ((ma 10), .inl (cB, 8000, .inl fT)), ((ma 11), .inl (cI, 40, .inl fTS))]) [0, 1, 2, 3] rfl
                    have hD := hD.sub (ws' := [(h0, .inr (11, MO ma sv_thrown sv_length sv_nodes sv_many sv_directories sv_runsFrom sv_runs sv_read sv_wrong sv_isNamed sv_goes sv_goesSize sv_goesAt sv_targetParts sv_isRoot)), ((ma 16), .inl (cJ, 46080, .inr (.inl lF))), ((ma 10), .inl (cB, 8000, .inl fT)), ((ma 11), .inl (cI, 40, .inl fTS))]) [0, 1, 2, 3] (by decide +kernel) rfl
                    have hl := lv_sub hl [0, 1, 2, 3, 4, 5, 6] rfl
                    exact kk164 _ 0 _ _ _ rfl ((by unfold cbF; split <;> (try split) <;> omega)) hP hD hS hl
                  · skip
                    have g118_225 : v53.toInt = 2 := (i_eq rfl (by decide)).mp h_9
                    refine lv_aload_n hx hb d_DiscMakerModel_components_121 rfl (lv_at hl 0 rfl) ?_
                    refine va_get (D := D) (ci := 11) (v := .ref (ma 10)) (C := "DiscMakerModel") (T := F_DiscMakerModel) (N := 48) hx hb ht9 in_DiscMakerModel hown hK hP 0 rfl rfl 13 (by decide) (ht9 _ k1444) (fun _ h9 => h9) rfl d_DiscMakerModel_components_122 ?_
                    refine lv_sipush (v := 200) hx hb d_DiscMakerModel_components_125 (by decide) ?_
                    refine lv_iload_n hx hb d_DiscMakerModel_components_128 rfl (lv_at hl 1 rfl) ?_
                    refine lv_imul hx hb d_DiscMakerModel_components_129 ?_
                    refine lv_topi (fun v54 e_v54 => ?_)
                    have t_v54 : v54.toInt = 200 * x.toInt := by rw [e_v54]; exact i_mul (by decide) rfl (by omega) (by omega)
                    refine lv_iload hx hb d_DiscMakerModel_components_130 (lv_at hl 5 rfl) ?_
                    refine lv_iadd hx hb d_DiscMakerModel_components_132 ?_
                    refine lv_topi (fun v55 e_v55 => ?_)
                    have t_v55 : v55.toInt = v54.toInt + lp.toInt := by rw [e_v55]; exact i_add rfl rfl (by omega) (by omega)
                    refine va_bald hx hb hK hP 2 0 rfl rfl (vp_in_iff.mpr ⟨by omega, by omega⟩) d_DiscMakerModel_components_133 ?_
                    refine lv_topi (fun v56 e_v56 => ?_)
                    have c_v56 := i_cl (a := v55) (by omega)
                    have e2_v56 : v56 = fT (200 * x.toNatClampNeg + lp.toNatClampNeg) := by rw [e_v56, show v55.toNatClampNeg = 200 * x.toNatClampNeg + lp.toNatClampNeg by omega]
                    have qtv56 : (tgF fT x.toNatClampNeg (lp.toNatClampNeg)).toInt = v56.toInt := by unfold tgF; rw [e2_v56]
                    refine lv_bipush (v := 46) hx hb d_DiscMakerModel_components_134 (by decide) ?_
                    refine lv_icmp_ne (tgt := 163) hx hb d_DiscMakerModel_components_136 (by decide) (fun h_9 => ?_) (fun h_9 => ?_)
                    · skip
                      have g136_237 : ¬ v56.toInt = 46 := fun h8 => h_9 ((i_eq rfl (by decide)).mpr h8)
                      refine lv_iconst (v := 0) hx hb d_DiscMakerModel_components_163 (by decide) ?_
                      have hP := hP.sub (ws' := [(h0, .inr (11, MO ma sv_thrown sv_length sv_nodes sv_many sv_directories sv_runsFrom sv_runs sv_read sv_wrong sv_isNamed sv_goes sv_goesSize sv_goesAt sv_targetParts sv_isRoot)), ((ma 16), .inl (cJ, 46080, .inr (.inl lF))), ((ma 10), .inl (cB, 8000, .inl fT)), ((ma 11), .inl (cI, 40, .inl fTS))]) [0, 1, 2, 3] rfl
                      have hD := hD.sub (ws' := [(h0, .inr (11, MO ma sv_thrown sv_length sv_nodes sv_many sv_directories sv_runsFrom sv_runs sv_read sv_wrong sv_isNamed sv_goes sv_goesSize sv_goesAt sv_targetParts sv_isRoot)), ((ma 16), .inl (cJ, 46080, .inr (.inl lF))), ((ma 10), .inl (cB, 8000, .inl fT)), ((ma 11), .inl (cI, 40, .inl fTS))]) [0, 1, 2, 3] (by decide +kernel) rfl
                      have hl := lv_sub hl [0, 1, 2, 3, 4, 5, 6] rfl
                      exact kk164 _ 0 _ _ _ rfl ((by unfold cbF; split <;> (try split) <;> omega)) hP hD hS hl
                    · skip
                      have g136_237 : v56.toInt = 46 := (i_eq rfl (by decide)).mp h_9
                      refine lv_aload_n hx hb d_DiscMakerModel_components_139 rfl (lv_at hl 0 rfl) ?_
                      refine va_get (D := D) (ci := 11) (v := .ref (ma 10)) (C := "DiscMakerModel") (T := F_DiscMakerModel) (N := 48) hx hb ht9 in_DiscMakerModel hown hK hP 0 rfl rfl 13 (by decide) (ht9 _ k1444) (fun _ h9 => h9) rfl d_DiscMakerModel_components_140 ?_
                      refine lv_sipush (v := 200) hx hb d_DiscMakerModel_components_143 (by decide) ?_
                      refine lv_iload_n hx hb d_DiscMakerModel_components_146 rfl (lv_at hl 1 rfl) ?_
                      refine lv_imul hx hb d_DiscMakerModel_components_147 ?_
                      refine lv_topi (fun v57 e_v57 => ?_)
                      have t_v57 : v57.toInt = 200 * x.toInt := by rw [e_v57]; exact i_mul (by decide) rfl (by omega) (by omega)
                      refine lv_iload hx hb d_DiscMakerModel_components_148 (lv_at hl 5 rfl) ?_
                      refine lv_iadd hx hb d_DiscMakerModel_components_150 ?_
                      refine lv_topi (fun v58 e_v58 => ?_)
                      have t_v58 : v58.toInt = v57.toInt + lp.toInt := by rw [e_v58]; exact i_add rfl rfl (by omega) (by omega)
                      refine lv_iconst (v := 1) hx hb d_DiscMakerModel_components_151 (by decide) ?_
                      refine lv_iadd hx hb d_DiscMakerModel_components_152 ?_
                      refine lv_topi (fun v59 e_v59 => ?_)
                      have t_v59 : v59.toInt = v58.toInt + 1 := by rw [e_v59]; exact i_add rfl (by decide) (by omega) (by omega)
                      refine va_bald hx hb hK hP 2 0 rfl rfl (vp_in_iff.mpr ⟨by omega, by omega⟩) d_DiscMakerModel_components_153 ?_
                      refine lv_topi (fun v60 e_v60 => ?_)
                      have c_v60 := i_cl (a := v59) (by omega)
                      have e2_v60 : v60 = fT (200 * x.toNatClampNeg + (lp.toNatClampNeg + 1)) := by rw [e_v60, show v59.toNatClampNeg = 200 * x.toNatClampNeg + (lp.toNatClampNeg + 1) by omega]
                      have qtv60 : (tgF fT x.toNatClampNeg ((lp.toNatClampNeg + 1))).toInt = v60.toInt := by unfold tgF; rw [e2_v60]
                      refine lv_bipush (v := 46) hx hb d_DiscMakerModel_components_154 (by decide) ?_
                      refine lv_icmp_ne (tgt := 163) hx hb d_DiscMakerModel_components_156 (by decide) (fun h_9 => ?_) (fun h_9 => ?_)
                      · skip
                        have g156_251 : ¬ v60.toInt = 46 := fun h8 => h_9 ((i_eq rfl (by decide)).mpr h8)
                        refine lv_iconst (v := 0) hx hb d_DiscMakerModel_components_163 (by decide) ?_
                        have hP := hP.sub (ws' := [(h0, .inr (11, MO ma sv_thrown sv_length sv_nodes sv_many sv_directories sv_runsFrom sv_runs sv_read sv_wrong sv_isNamed sv_goes sv_goesSize sv_goesAt sv_targetParts sv_isRoot)), ((ma 16), .inl (cJ, 46080, .inr (.inl lF))), ((ma 10), .inl (cB, 8000, .inl fT)), ((ma 11), .inl (cI, 40, .inl fTS))]) [0, 1, 2, 3] rfl
                        have hD := hD.sub (ws' := [(h0, .inr (11, MO ma sv_thrown sv_length sv_nodes sv_many sv_directories sv_runsFrom sv_runs sv_read sv_wrong sv_isNamed sv_goes sv_goesSize sv_goesAt sv_targetParts sv_isRoot)), ((ma 16), .inl (cJ, 46080, .inr (.inl lF))), ((ma 10), .inl (cB, 8000, .inl fT)), ((ma 11), .inl (cI, 40, .inl fTS))]) [0, 1, 2, 3] (by decide +kernel) rfl
                        have hl := lv_sub hl [0, 1, 2, 3, 4, 5, 6] rfl
                        exact kk164 _ 0 _ _ _ rfl ((by unfold cbF; split <;> (try split) <;> omega)) hP hD hS hl
                      · skip
                        have g156_251 : v60.toInt = 46 := (i_eq rfl (by decide)).mp h_9
                        refine lv_iconst (v := 4) hx hb d_DiscMakerModel_components_159 (by decide) ?_
                        refine lv_goto (tgt := 164) hx hb d_DiscMakerModel_components_160 (by decide) ?_
                        have hP := hP.sub (ws' := [(h0, .inr (11, MO ma sv_thrown sv_length sv_nodes sv_many sv_directories sv_runsFrom sv_runs sv_read sv_wrong sv_isNamed sv_goes sv_goesSize sv_goesAt sv_targetParts sv_isRoot)), ((ma 16), .inl (cJ, 46080, .inr (.inl lF))), ((ma 10), .inl (cB, 8000, .inl fT)), ((ma 11), .inl (cI, 40, .inl fTS))]) [0, 1, 2, 3] rfl
                        have hD := hD.sub (ws' := [(h0, .inr (11, MO ma sv_thrown sv_length sv_nodes sv_many sv_directories sv_runsFrom sv_runs sv_read sv_wrong sv_isNamed sv_goes sv_goesSize sv_goesAt sv_targetParts sv_isRoot)), ((ma 16), .inl (cJ, 46080, .inr (.inl lF))), ((ma 10), .inl (cB, 8000, .inl fT)), ((ma 11), .inl (cI, 40, .inl fTS))]) [0, 1, 2, 3] (by decide +kernel) rfl
                        have hl := lv_sub hl [0, 1, 2, 3, 4, 5, 6] rfl
                        exact kk164 _ 4 _ _ _ rfl ((by unfold cbF; split <;> (try split) <;> omega)) hP hD hS hl
                · skip
                  have g105_220 : v52.toInt = 46 := (i_eq rfl (by decide)).mp h_9
                  refine lv_iconst (v := 2) hx hb d_DiscMakerModel_components_108 (by decide) ?_
                  refine lv_goto (tgt := 164) hx hb d_DiscMakerModel_components_109 (by decide) ?_
                  have hP := hP.sub (ws' := [(h0, .inr (11, MO ma sv_thrown sv_length sv_nodes sv_many sv_directories sv_runsFrom sv_runs sv_read sv_wrong sv_isNamed sv_goes sv_goesSize sv_goesAt sv_targetParts sv_isRoot)), ((ma 16), .inl (cJ, 46080, .inr (.inl lF))), ((ma 10), .inl (cB, 8000, .inl fT)), ((ma 11), .inl (cI, 40, .inl fTS))]) [0, 1, 2, 3] rfl
                  have hD := hD.sub (ws' := [(h0, .inr (11, MO ma sv_thrown sv_length sv_nodes sv_many sv_directories sv_runsFrom sv_runs sv_read sv_wrong sv_isNamed sv_goes sv_goesSize sv_goesAt sv_targetParts sv_isRoot)), ((ma 16), .inl (cJ, 46080, .inr (.inl lF))), ((ma 10), .inl (cB, 8000, .inl fT)), ((ma 11), .inl (cI, 40, .inl fTS))]) [0, 1, 2, 3] (by decide +kernel) rfl
                  have hl := lv_sub hl [0, 1, 2, 3, 4, 5, 6] rfl
                  exact kk164 _ 2 _ _ _ rfl ((by unfold cbF; split <;> (try split) <;> omega)) hP hD hS hl
          · skip
            intro kk81
            refine lv_iload_n hx hb d_DiscMakerModel_components_53 rfl (lv_at hl 3 rfl) ?_
            refine lv_icmp_ge (tgt := 81) hx hb d_DiscMakerModel_components_54 (by decide) (fun h_9 => ?_) (fun h_9 => ?_)
            · skip
              have g54_261 : v1.toInt ≤ lq.toInt := (i_le rfl rfl).mp h_9
              have hP := hP.sub (ws' := [(h0, .inr (11, MO ma sv_thrown sv_length sv_nodes sv_many sv_directories sv_runsFrom sv_runs sv_read sv_wrong sv_isNamed sv_goes sv_goesSize sv_goesAt sv_targetParts sv_isRoot)), ((ma 16), .inl (cJ, 46080, .inr (.inl lF))), ((ma 10), .inl (cB, 8000, .inl fT)), ((ma 11), .inl (cI, 40, .inl fTS))]) [0, 1, 2, 3] rfl
              have hD := hD.sub (ws' := [(h0, .inr (11, MO ma sv_thrown sv_length sv_nodes sv_many sv_directories sv_runsFrom sv_runs sv_read sv_wrong sv_isNamed sv_goes sv_goesSize sv_goesAt sv_targetParts sv_isRoot)), ((ma 16), .inl (cJ, 46080, .inr (.inl lF))), ((ma 10), .inl (cB, 8000, .inl fT)), ((ma 11), .inl (cI, 40, .inl fTS))]) [0, 1, 2, 3] (by decide +kernel) rfl
              have hl := lv_sub hl [0, 1, 2, 3, 4, 5, 6] rfl
              exact kk81 _  _ _ _ rfl ((by rw [← g2]; exact nxS_end (by first | exact Or.inl (by omega) | exact Or.inr (by omega)))) hP hD hS hl
            · skip
              have g54_261 : ¬ v1.toInt ≤ lq.toInt := fun h8 => h_9 ((i_le rfl rfl).mpr h8)
              refine lv_aload_n hx hb d_DiscMakerModel_components_57 rfl (lv_at hl 0 rfl) ?_
              refine va_get (D := D) (ci := 11) (v := .ref (ma 10)) (C := "DiscMakerModel") (T := F_DiscMakerModel) (N := 48) hx hb ht9 in_DiscMakerModel hown hK hP 0 rfl rfl 13 (by decide) (ht9 _ k1444) (fun _ h9 => h9) rfl d_DiscMakerModel_components_58 ?_
              refine lv_sipush (v := 200) hx hb d_DiscMakerModel_components_61 (by decide) ?_
              refine lv_iload_n hx hb d_DiscMakerModel_components_64 rfl (lv_at hl 1 rfl) ?_
              refine lv_imul hx hb d_DiscMakerModel_components_65 ?_
              refine lv_topi (fun v61 e_v61 => ?_)
              have t_v61 : v61.toInt = 200 * x.toInt := by rw [e_v61]; exact i_mul (by decide) rfl (by omega) (by omega)
              refine lv_iload hx hb d_DiscMakerModel_components_66 (lv_at hl 6 rfl) ?_
              refine lv_iadd hx hb d_DiscMakerModel_components_68 ?_
              refine lv_topi (fun v62 e_v62 => ?_)
              have t_v62 : v62.toInt = v61.toInt + lq.toInt := by rw [e_v62]; exact i_add rfl rfl (by omega) (by omega)
              refine va_bald hx hb hK hP 2 0 rfl rfl (vp_in_iff.mpr ⟨by omega, by omega⟩) d_DiscMakerModel_components_69 ?_
              refine lv_topi (fun v63 e_v63 => ?_)
              have c_v63 := i_cl (a := v62) (by omega)
              have e2_v63 : v63 = fT (200 * x.toNatClampNeg + lq.toNatClampNeg) := by rw [e_v63, show v62.toNatClampNeg = 200 * x.toNatClampNeg + lq.toNatClampNeg by omega]
              have qtv63 : (tgF fT x.toNatClampNeg (lq.toNatClampNeg)).toInt = v63.toInt := by unfold tgF; rw [e2_v63]
              refine lv_bipush (v := 47) hx hb d_DiscMakerModel_components_70 (by decide) ?_
              refine lv_icmp_eq (tgt := 81) hx hb d_DiscMakerModel_components_72 (by decide) (fun h_9 => ?_) (fun h_9 => ?_)
              · skip
                have g72_272 : v63.toInt = 47 := (i_eq rfl (by decide)).mp h_9
                have hP := hP.sub (ws' := [(h0, .inr (11, MO ma sv_thrown sv_length sv_nodes sv_many sv_directories sv_runsFrom sv_runs sv_read sv_wrong sv_isNamed sv_goes sv_goesSize sv_goesAt sv_targetParts sv_isRoot)), ((ma 16), .inl (cJ, 46080, .inr (.inl lF))), ((ma 10), .inl (cB, 8000, .inl fT)), ((ma 11), .inl (cI, 40, .inl fTS))]) [0, 1, 2, 3] rfl
                have hD := hD.sub (ws' := [(h0, .inr (11, MO ma sv_thrown sv_length sv_nodes sv_many sv_directories sv_runsFrom sv_runs sv_read sv_wrong sv_isNamed sv_goes sv_goesSize sv_goesAt sv_targetParts sv_isRoot)), ((ma 16), .inl (cJ, 46080, .inr (.inl lF))), ((ma 10), .inl (cB, 8000, .inl fT)), ((ma 11), .inl (cI, 40, .inl fTS))]) [0, 1, 2, 3] (by decide +kernel) rfl
                have hl := lv_sub hl [0, 1, 2, 3, 4, 5, 6] rfl
                exact kk81 _  _ _ _ rfl ((by rw [← g2]; exact nxS_end (by first | exact Or.inl (by omega) | exact Or.inr (by omega)))) hP hD hS hl
              · skip
                have g72_272 : ¬ v63.toInt = 47 := fun h8 => h_9 ((i_eq rfl (by decide)).mpr h8)
                obtain ⟨v64, e_v64⟩ : ∃ z : Int32, z = lq + 1 := ⟨_, rfl⟩
                refine lv_iinc (v := v64) hx hb d_DiscMakerModel_components_75 hl (k := 6) rfl e_v64.symm (by decide +kernel) rfl (fun ls hl => ?_)
                have t_v64 : v64.toInt = lq.toInt + 1 := by rw [e_v64]; exact i_add rfl (by decide) (by omega) (by omega)
                have hl : lv_has ls 10 [(6, .int v64), (0, .ref h0), (1, .int x), (2, .int y), (3, .int v1), (4, .int al), (5, .int lp)] := hl
                refine lv_goto (tgt := 51) hx hb d_DiscMakerModel_components_78 (by decide) ?_
                have hP := hP.sub (ws' := [(h0, .inr (11, MO ma sv_thrown sv_length sv_nodes sv_many sv_directories sv_runsFrom sv_runs sv_read sv_wrong sv_isNamed sv_goes sv_goesSize sv_goesAt sv_targetParts sv_isRoot)), ((ma 16), .inl (cJ, 46080, .inr (.inl lF))), ((ma 10), .inl (cB, 8000, .inl fT)), ((ma 11), .inl (cI, 40, .inl fTS))]) [0, 1, 2, 3] rfl
                have hD := hD.sub (ws' := [(h0, .inr (11, MO ma sv_thrown sv_length sv_nodes sv_many sv_directories sv_runsFrom sv_runs sv_read sv_wrong sv_isNamed sv_goes sv_goesSize sv_goesAt sv_targetParts sv_isRoot)), ((ma 16), .inl (cJ, 46080, .inr (.inl lF))), ((ma 10), .inl (cB, 8000, .inl fT)), ((ma 11), .inl (cI, 40, .inl fTS))]) [0, 1, 2, 3] (by decide +kernel) rfl
                have hl := lv_sub hl [1, 2, 3, 4, 5, 6, 0] rfl
                exact ih51 _ (by first | omega | (dsimp only; omega)) v64 _ _ _ rfl ((by (try dsimp only); first | assumption | omega | trivial)) ((by have h1 := i_cl (a := v64) (by omega); rw [show v64.toNatClampNeg = lq.toNatClampNeg + 1 by omega, ← nxS_go (by omega) (by omega)]; exact g2)) hP hD hS hl
        · skip
          intro kk51
          have hP := hP.sub (ws' := [(h0, .inr (11, MO ma sv_thrown sv_length sv_nodes sv_many sv_directories sv_runsFrom sv_runs sv_read sv_wrong sv_isNamed sv_goes sv_goesSize sv_goesAt sv_targetParts sv_isRoot)), ((ma 16), .inl (cJ, 46080, .inr (.inl lF))), ((ma 10), .inl (cB, 8000, .inl fT)), ((ma 11), .inl (cI, 40, .inl fTS))]) [0, 1, 2, 3] rfl
          have hD := hD.sub (ws' := [(h0, .inr (11, MO ma sv_thrown sv_length sv_nodes sv_many sv_directories sv_runsFrom sv_runs sv_read sv_wrong sv_isNamed sv_goes sv_goesSize sv_goesAt sv_targetParts sv_isRoot)), ((ma 16), .inl (cJ, 46080, .inr (.inl lF))), ((ma 10), .inl (cB, 8000, .inl fT)), ((ma 11), .inl (cI, 40, .inl fTS))]) [0, 1, 2, 3] (by decide +kernel) rfl
          have hl := lv_sub hl [1, 2, 3, 4, 5, 6, 0] rfl
          exact kk51 _ lp _ _ _ rfl ((by (try dsimp only); first | assumption | omega | trivial)) (rfl) hP hD hS hl
    · skip
      intro kk41
      have hP := hP.sub (ws' := [(h0, .inr (11, MO ma sv_thrown sv_length sv_nodes sv_many sv_directories sv_runsFrom sv_runs sv_read sv_wrong sv_isNamed sv_goes sv_goesSize sv_goesAt sv_targetParts sv_isRoot)), ((ma 16), .inl (cJ, 46080, .inr (.inl jF))), ((ma 10), .inl (cB, 8000, .inl fT)), ((ma 11), .inl (cI, 40, .inl fTS))]) [0, 1, 2, 3] rfl
      have hD := hD.sub (ws' := [(h0, .inr (11, MO ma sv_thrown sv_length sv_nodes sv_many sv_directories sv_runsFrom sv_runs sv_read sv_wrong sv_isNamed sv_goes sv_goesSize sv_goesAt sv_targetParts sv_isRoot)), ((ma 16), .inl (cJ, 46080, .inr (.inl jF))), ((ma 10), .inl (cB, 8000, .inl fT)), ((ma 11), .inl (cI, 40, .inl fTS))]) [0, 1, 2, 3] (by decide +kernel) rfl
      have hl := lv_sub hl [1, 2, 3, 4, 5, 0] rfl
      exact kk41 _ aj 0 jF _ _ _ rfl ((by (try dsimp only); first | assumption | omega | trivial)) ((by (try dsimp only); first | assumption | omega | trivial)) ((by rw [show (0 : Int32).toNatClampNeg = 0 by decide]; exact fj)) hP hD hS hl
  · skip
    intro kk38
    refine lv_bipush (v := 47) hx hb d_DiscMakerModel_components_20 (by decide) ?_
    refine lv_icmp_ne (tgt := 38) hx hb d_DiscMakerModel_components_22 (by decide) (fun h_9 => ?_) (fun h_9 => ?_)
    · skip
      have g22_278 : ¬ v3.toInt = 47 := fun h8 => h_9 ((i_eq rfl (by decide)).mpr h8)
      have hP := hP.sub (ws' := [(h0, .inr (11, MO ma sv_thrown sv_length sv_nodes sv_many sv_directories sv_runsFrom sv_runs sv_read sv_wrong sv_isNamed sv_goes sv_goesSize sv_goesAt sv_targetParts sv_isRoot)), ((ma 16), .inl (cJ, 46080, .inr (.inl F))), ((ma 10), .inl (cB, 8000, .inl fT)), ((ma 11), .inl (cI, 40, .inl fTS))]) [0, 1, 2, 3] rfl
      have hD := hD.sub (ws' := [(h0, .inr (11, MO ma sv_thrown sv_length sv_nodes sv_many sv_directories sv_runsFrom sv_runs sv_read sv_wrong sv_isNamed sv_goes sv_goesSize sv_goesAt sv_targetParts sv_isRoot)), ((ma 16), .inl (cJ, 46080, .inr (.inl F))), ((ma 10), .inl (cB, 8000, .inl fT)), ((ma 11), .inl (cI, 40, .inl fTS))]) [0, 1, 2, 3] (by decide +kernel) rfl
      have hl := lv_sub hl [2, 3, 4, 1, 0] rfl
      exact kk38 _ 0 F _ _ _ rfl ((by (try dsimp only); first | assumption | omega | trivial)) ((by unfold cmF; rw [if_neg (by omega)]; rfl)) hP hD hS hl
    · skip
      have g22_278 : v3.toInt = 47 := (i_eq rfl (by decide)).mp h_9
      refine lv_aload_n hx hb d_DiscMakerModel_components_25 rfl (lv_at hl 2 rfl) ?_
      refine lv_iload_n hx hb d_DiscMakerModel_components_26 rfl (lv_at hl 4 rfl) ?_
      refine lv_iload hx hb d_DiscMakerModel_components_27 (lv_at hl 0 rfl) ?_
      refine lv_bipush (v := 8) hx hb d_DiscMakerModel_components_29 (by decide) ?_
      refine lv_iconst (v := 0) hx hb d_DiscMakerModel_components_31 (by decide) ?_
      have hPc := hP.sub (ws' := [(h0, .inr (11, MO ma sv_thrown sv_length sv_nodes sv_many sv_directories sv_runsFrom sv_runs sv_read sv_wrong sv_isNamed sv_goes sv_goesSize sv_goesAt sv_targetParts sv_isRoot)), ((ma 16), .inl (cJ, 46080, .inr (.inl F)))]) [0, 1] rfl
      have hDc := hD.sub (ws' := [(h0, .inr (11, MO ma sv_thrown sv_length sv_nodes sv_many sv_directories sv_runsFrom sv_runs sv_read sv_wrong sv_isNamed sv_goes sv_goesSize sv_goesAt sv_targetParts sv_isRoot)), ((ma 16), .inl (cJ, 46080, .inr (.inl F)))]) [0, 1] (by decide +kernel) rfl
      have hFc := va_free (wc := [(h0, .inr (11, MO ma sv_thrown sv_length sv_nodes sv_many sv_directories sv_runsFrom sv_runs sv_read sv_wrong sv_isNamed sv_goes sv_goesSize sv_goesAt sv_targetParts sv_isRoot)), ((ma 16), .inl (cJ, 46080, .inr (.inl F)))]) hD hS hA [0, 1] rfl
      have hkc : 0 ≤ 0 := by decide
      have hks : 0 ≤ 0 := by decide
      refine va_callv (va_runV (C := "DiscMakerModel") (As := [.int y, .int 0, .int 8, .int 0]) (rest := []) ⟨hx, hb, hml, hown, hts⟩ (m_mark l D cB cI cJ cZ cN cF s.heap.size h0 ma sv_thrown sv_length sv_nodes sv_many sv_directories sv_runsFrom sv_runs sv_read sv_wrong sv_isNamed sv_goes sv_goesSize sv_goesAt sv_targetParts sv_isRoot F y 0 8 0 (by (try dsimp only); first | assumption | omega | trivial)) (cwV 4 hts (lg_goodV k1723 k1725 k78 k125 kc_DiscMakerModel_mark) rfl rfl rfl (by decide +kernel) ⟨Nat.le_of_ble_eq_true rfl, Nat.le_of_ble_eq_true rfl⟩) ⟨fun a U g mk q => by obtain ⟨q0, q1, qP, qK, qN, qD⟩ := q; exact ⟨q0, q1, qP, va_K.moved (u := U) (U := U.calling g mk a) (Vm.Alike.refl U.vm) qK, qN.calling, qD⟩, va_recv hK hP (ci := 11) (q0 := 0) rfl rfl, fun U hU hW => ⟨rfl, by rw [hU], by rw [hU]; exact hPc, va_K.moved hW.alike hK, NN.warm hW hN, hDc.weaken (fun _ _ _ _ => trivial)⟩⟩ rfl rfl hl.1 rfl (lv_room (Nat.le_of_ble_eq_true rfl)) d_DiscMakerModel_components_32 ⟨hkc, hks⟩) hS (fun q _ h => hFc q h) hFc (fun u t H1 locs ht hvm hp_r65 hB hz1 hk1 hS => ?_)
      obtain ⟨G_66, rfl⟩ : ∃ z, z = u := ⟨_, rfl⟩
      obtain ⟨hP1, hD1⟩ := hB
      rw [ht] at hP1
      obtain ⟨hP, hD⟩ := va_join (wr := [((ma 10), .inl (cB, 8000, .inl fT)), ((ma 11), .inl (cI, 40, .inl fTS))]) (w1 := [(h0, .inr (11, MO ma sv_thrown sv_length sv_nodes sv_many sv_directories sv_runsFrom sv_runs sv_read sv_wrong sv_isNamed sv_goes sv_goesSize sv_goesAt sv_targetParts sv_isRoot)), ((ma 16), .inl (cJ, 46080, .inr (.inl G_66)))]) hP hD [0, 1] [2, 3] rfl rfl (by decide +kernel) (by decide +kernel) hk1 hFc hP1 hD1
      clear hPc hDc hFc hP1 hD1 hk1 hz1 hkc hks
      generalize H1 = H at hP hS ⊢
      have hP : va_P D CL [((ma 10), .inl (cB, 8000, .inl fT)), ((ma 11), .inl (cI, 40, .inl fTS)), (h0, .inr (11, MO ma sv_thrown sv_length sv_nodes sv_many sv_directories sv_runsFrom sv_runs sv_read sv_wrong sv_isNamed sv_goes sv_goesSize sv_goesAt sv_targetParts sv_isRoot)), ((ma 16), .inl (cJ, 46080, .inr (.inl G_66)))] H := hP
      have hD : va_D A [((ma 10), .inl (cB, 8000, .inl fT)), ((ma 11), .inl (cI, 40, .inl fTS)), (h0, .inr (11, MO ma sv_thrown sv_length sv_nodes sv_many sv_directories sv_runsFrom sv_runs sv_read sv_wrong sv_isNamed sv_goes sv_goesSize sv_goesAt sv_targetParts sv_isRoot)), ((ma 16), .inl (cJ, 46080, .inr (.inl G_66)))] := hD
      refine lv_iinc (v := 2) hx hb d_DiscMakerModel_components_35 hl (k := 0) rfl (by decide) (by decide +kernel) rfl (fun ls hl => ?_)
      have hl : lv_has ls 10 [(4, .int 2), (3, .int v1), (0, .ref h0), (1, .int x), (2, .int y)] := hl
      have hP := hP.sub (ws' := [(h0, .inr (11, MO ma sv_thrown sv_length sv_nodes sv_many sv_directories sv_runsFrom sv_runs sv_read sv_wrong sv_isNamed sv_goes sv_goesSize sv_goesAt sv_targetParts sv_isRoot)), ((ma 16), .inl (cJ, 46080, .inr (.inl G_66))), ((ma 10), .inl (cB, 8000, .inl fT)), ((ma 11), .inl (cI, 40, .inl fTS))]) [2, 3, 0, 1] rfl
      have hD := hD.sub (ws' := [(h0, .inr (11, MO ma sv_thrown sv_length sv_nodes sv_many sv_directories sv_runsFrom sv_runs sv_read sv_wrong sv_isNamed sv_goes sv_goesSize sv_goesAt sv_targetParts sv_isRoot)), ((ma 16), .inl (cJ, 46080, .inr (.inl G_66))), ((ma 10), .inl (cB, 8000, .inl fT)), ((ma 11), .inl (cI, 40, .inl fTS))]) [2, 3, 0, 1] (by decide +kernel) rfl
      have hl := lv_sub hl [2, 3, 4, 1, 0] rfl
      exact kk38 _ 2 G_66 _ _ _ rfl ((by (try dsimp only); first | assumption | omega | trivial)) ((by unfold cmF; rw [if_pos (by omega)]; rfl)) hP hD hS hl

theorem d_DiscMakerModel_partSize_0 : decode b_DiscMakerModel_partSize 0 = .ok (.iload_n 1, 1) := by decide +kernel
theorem d_DiscMakerModel_partSize_1 : decode b_DiscMakerModel_partSize 1 = .ok (.ifCond .ne 18, 3) := by decide +kernel
theorem d_DiscMakerModel_partSize_4 : decode b_DiscMakerModel_partSize 4 = .ok (.iload_n 2, 1) := by decide +kernel
theorem d_DiscMakerModel_partSize_5 : decode b_DiscMakerModel_partSize 5 = .ok (.ifCond .ne 12, 3) := by decide +kernel
theorem d_DiscMakerModel_partSize_8 : decode b_DiscMakerModel_partSize 8 = .ok (.iload_n 3, 1) := by decide +kernel
theorem d_DiscMakerModel_partSize_9 : decode b_DiscMakerModel_partSize 9 = .ok (.ifCond .ne 8, 3) := by decide +kernel
theorem d_DiscMakerModel_partSize_12 : decode b_DiscMakerModel_partSize 12 = .ok (.bipush 7, 2) := by decide +kernel
theorem d_DiscMakerModel_partSize_14 : decode b_DiscMakerModel_partSize 14 = .ok (.goto 4, 3) := by decide +kernel
theorem d_DiscMakerModel_partSize_17 : decode b_DiscMakerModel_partSize 17 = .ok (.iconst 0, 1) := by decide +kernel
theorem d_DiscMakerModel_partSize_18 : decode b_DiscMakerModel_partSize 18 = .ok (.ireturn, 1) := by decide +kernel
theorem d_DiscMakerModel_partSize_19 : decode b_DiscMakerModel_partSize 19 = .ok (.iload_n 1, 1) := by decide +kernel
theorem d_DiscMakerModel_partSize_20 : decode b_DiscMakerModel_partSize 20 = .ok (.iconst 1, 1) := by decide +kernel
theorem d_DiscMakerModel_partSize_21 : decode b_DiscMakerModel_partSize 21 = .ok (.if_icmp .ne 6, 3) := by decide +kernel
theorem d_DiscMakerModel_partSize_24 : decode b_DiscMakerModel_partSize 24 = .ok (.bipush 36, 2) := by decide +kernel
theorem d_DiscMakerModel_partSize_26 : decode b_DiscMakerModel_partSize 26 = .ok (.ireturn, 1) := by decide +kernel
theorem d_DiscMakerModel_partSize_27 : decode b_DiscMakerModel_partSize 27 = .ok (.iload_n 2, 1) := by decide +kernel
theorem d_DiscMakerModel_partSize_28 : decode b_DiscMakerModel_partSize 28 = .ok (.iconst 2, 1) := by decide +kernel
theorem d_DiscMakerModel_partSize_29 : decode b_DiscMakerModel_partSize 29 = .ok (.if_icmp .ge 5, 3) := by decide +kernel
theorem d_DiscMakerModel_partSize_32 : decode b_DiscMakerModel_partSize 32 = .ok (.iconst 0, 1) := by decide +kernel
theorem d_DiscMakerModel_partSize_33 : decode b_DiscMakerModel_partSize 33 = .ok (.ireturn, 1) := by decide +kernel
theorem d_DiscMakerModel_partSize_34 : decode b_DiscMakerModel_partSize 34 = .ok (.iload_n 1, 1) := by decide +kernel
theorem d_DiscMakerModel_partSize_35 : decode b_DiscMakerModel_partSize 35 = .ok (.iconst 2, 1) := by decide +kernel
theorem d_DiscMakerModel_partSize_36 : decode b_DiscMakerModel_partSize 36 = .ok (.if_icmp .ne 14, 3) := by decide +kernel
theorem d_DiscMakerModel_partSize_39 : decode b_DiscMakerModel_partSize 39 = .ok (.iconst 5, 1) := by decide +kernel
theorem d_DiscMakerModel_partSize_40 : decode b_DiscMakerModel_partSize 40 = .ok (.aload_n 0, 1) := by decide +kernel
theorem d_DiscMakerModel_partSize_41 : decode b_DiscMakerModel_partSize 41 = .ok (.getfield 38, 3) := by decide +kernel
theorem d_DiscMakerModel_partSize_44 : decode b_DiscMakerModel_partSize 44 = .ok (.iload_n 3, 1) := by decide +kernel
theorem d_DiscMakerModel_partSize_45 : decode b_DiscMakerModel_partSize 45 = .ok (.iaload, 1) := by decide +kernel
theorem d_DiscMakerModel_partSize_46 : decode b_DiscMakerModel_partSize 46 = .ok (.iadd, 1) := by decide +kernel
theorem d_DiscMakerModel_partSize_47 : decode b_DiscMakerModel_partSize 47 = .ok (.goto 25, 3) := by decide +kernel
theorem d_DiscMakerModel_partSize_50 : decode b_DiscMakerModel_partSize 50 = .ok (.aload_n 0, 1) := by decide +kernel
theorem d_DiscMakerModel_partSize_51 : decode b_DiscMakerModel_partSize 51 = .ok (.getfield 13, 3) := by decide +kernel
theorem d_DiscMakerModel_partSize_54 : decode b_DiscMakerModel_partSize 54 = .ok (.iload_n 3, 1) := by decide +kernel
theorem d_DiscMakerModel_partSize_55 : decode b_DiscMakerModel_partSize 55 = .ok (.iaload, 1) := by decide +kernel
theorem d_DiscMakerModel_partSize_56 : decode b_DiscMakerModel_partSize 56 = .ok (.iconst 2, 1) := by decide +kernel
theorem d_DiscMakerModel_partSize_57 : decode b_DiscMakerModel_partSize 57 = .ok (.if_icmp .ne 14, 3) := by decide +kernel
theorem d_DiscMakerModel_partSize_60 : decode b_DiscMakerModel_partSize 60 = .ok (.iconst 5, 1) := by decide +kernel
theorem d_DiscMakerModel_partSize_61 : decode b_DiscMakerModel_partSize 61 = .ok (.aload_n 0, 1) := by decide +kernel
theorem d_DiscMakerModel_partSize_62 : decode b_DiscMakerModel_partSize 62 = .ok (.iload_n 3, 1) := by decide +kernel
theorem d_DiscMakerModel_partSize_63 : decode b_DiscMakerModel_partSize 63 = .ok (.iconst (-1), 1) := by decide +kernel
theorem d_DiscMakerModel_partSize_64 : decode b_DiscMakerModel_partSize 64 = .ok (.invokevirtual 203, 3) := by decide +kernel
theorem d_DiscMakerModel_partSize_67 : decode b_DiscMakerModel_partSize 67 = .ok (.iadd, 1) := by decide +kernel
theorem d_DiscMakerModel_partSize_68 : decode b_DiscMakerModel_partSize 68 = .ok (.goto 4, 3) := by decide +kernel
theorem d_DiscMakerModel_partSize_71 : decode b_DiscMakerModel_partSize 71 = .ok (.iconst 0, 1) := by decide +kernel
theorem d_DiscMakerModel_partSize_72 : decode b_DiscMakerModel_partSize 72 = .ok (.ireturn, 1) := by decide +kernel
set_option maxHeartbeats 4000000 in
set_option maxRecDepth 100000 in
theorem m_partSize (l : Launch) (D : va_G) (cB cI cJ cZ cN cF : ClassId) (sz : Nat) (h0 : Nat) (ma : Nat → Nat) (sv_thrown sv_length sv_nodes sv_many sv_directories sv_runsFrom sv_runs sv_read sv_wrong sv_isNamed sv_goes sv_goesSize sv_goesAt sv_targetParts sv_isRoot : Int32) (F : Nat → Int64) (fK : Nat → Int32) (fNS : Nat → Int32) (fT : Nat → Int32) (fTS : Nat → Int32) (x : Int32) (y : Int32) (z : Int32) (hz0 : 0 ≤ z.toInt ∧ z.toInt < 40) (hx0 : 0 ≤ x.toInt ∧ x.toInt ≤ 3) (hKi : Rg 0 2 40 fK) (hNS : Rg 0 30 40 fNS) (hTS : Rg 0 200 40 fTS) : Met l y_DiscMakerModel_partSize w_DiscMakerModel_partSize ({ frames := 3, cells := 0, slots := 0, locals := 76 }) (va_Pc [.ref h0, .int x, .int y, .int z] (fun U => U.heap.size = sz ∧ va_P D CL [(h0, .inr (11, MO ma sv_thrown sv_length sv_nodes sv_many sv_directories sv_runsFrom sv_runs sv_read sv_wrong sv_isNamed sv_goes sv_goesSize sv_goesAt sv_targetParts sv_isRoot)), ((ma 16), .inl (cJ, 46080, .inr (.inl F))), ((ma 1), .inl (cI, 40, .inl fK)), ((ma 9), .inl (cI, 40, .inl fNS)), ((ma 10), .inl (cB, 8000, .inl fT)), ((ma 11), .inl (cI, 40, .inl fTS))] U.heap ∧ va_K D CL (TY cB cI cJ cZ cN cF) U ∧ NN U ∧ va_D (fun _ => True) [(h0, .inr (11, MO ma sv_thrown sv_length sv_nodes sv_many sv_directories sv_runsFrom sv_runs sv_read sv_wrong sv_isNamed sv_goes sv_goesSize sv_goesAt sv_targetParts sv_isRoot)), ((ma 16), .inl (cJ, 46080, .inr (.inl F))), ((ma 1), .inl (cI, 40, .inl fK)), ((ma 9), .inl (cI, 40, .inl fNS)), ((ma 10), .inl (cB, 8000, .inl fT)), ((ma 11), .inl (cI, 40, .inl fTS))])) (va_Qi (fun (r : Int32) (u : (Nat → Int64)) => match u with | G => (r.toInt = psF fK fNS fT fTS x.toInt y.toInt z.toNatClampNeg) ∧ (0 ≤ r.toInt ∧ r.toInt ≤ 308)) (fun (u : (Nat → Int64)) (t : State) => match u with | G => va_P D CL [(h0, .inr (11, MO ma sv_thrown sv_length sv_nodes sv_many sv_directories sv_runsFrom sv_runs sv_read sv_wrong sv_isNamed sv_goes sv_goesSize sv_goesAt sv_targetParts sv_isRoot)), ((ma 16), .inl (cJ, 46080, .inr (.inl G))), ((ma 1), .inl (cI, 40, .inl fK)), ((ma 9), .inl (cI, 40, .inl fNS)), ((ma 10), .inl (cB, 8000, .inl fT)), ((ma 11), .inl (cI, 40, .inl fTS))] t.heap ∧ va_D (va_A [(h0, .inr (11, MO ma sv_thrown sv_length sv_nodes sv_many sv_directories sv_runsFrom sv_runs sv_read sv_wrong sv_isNamed sv_goes sv_goesSize sv_goesAt sv_targetParts sv_isRoot)), ((ma 16), .inl (cJ, 46080, .inr (.inl F))), ((ma 1), .inl (cI, 40, .inl fK)), ((ma 9), .inl (cI, 40, .inl fNS)), ((ma 10), .inl (cB, 8000, .inl fT)), ((ma 11), .inl (cI, 40, .inl fTS))] sz) [(h0, .inr (11, MO ma sv_thrown sv_length sv_nodes sv_many sv_directories sv_runsFrom sv_runs sv_read sv_wrong sv_isNamed sv_goes sv_goesSize sv_goesAt sv_targetParts sv_isRoot)), ((ma 16), .inl (cJ, 46080, .inr (.inl G))), ((ma 1), .inl (cI, 40, .inl fK)), ((ma 9), .inl (cI, 40, .inl fNS)), ((ma 10), .inl (cB, 8000, .inl fT)), ((ma 11), .inl (cI, 40, .inl fTS))]) (va_A [(h0, .inr (11, MO ma sv_thrown sv_length sv_nodes sv_many sv_directories sv_runsFrom sv_runs sv_read sv_wrong sv_isNamed sv_goes sv_goesSize sv_goesAt sv_targetParts sv_isRoot)), ((ma 16), .inl (cJ, 46080, .inr (.inl F))), ((ma 1), .inl (cI, 40, .inl fK)), ((ma 9), .inl (cI, 40, .inl fNS)), ((ma 10), .inl (cB, 8000, .inl fT)), ((ma 11), .inl (cI, 40, .inl fTS))] sz)) 0 0 (va_A [(h0, .inr (11, MO ma sv_thrown sv_length sv_nodes sv_many sv_directories sv_runsFrom sv_runs sv_read sv_wrong sv_isNamed sv_goes sv_goesSize sv_goesAt sv_targetParts sv_isRoot)), ((ma 16), .inl (cJ, 46080, .inr (.inl F))), ((ma 1), .inl (cI, 40, .inl fK)), ((ma 9), .inl (cI, 40, .inl fNS)), ((ma 10), .inl (cB, 8000, .inl fT)), ((ma 11), .inl (cI, 40, .inl fTS))] sz) := by
  refine Met.ofW (cc := b_DiscMakerModel_partSize) (maxL := 4) (ret := some .int) (by decide) rfl ?_
  intro p e s m args below meth c s₁ B hml hv
  obtain ⟨rfl, hsz, hP, hK, hN, hD0⟩ := hv
  have hx := B.exec
  have hb := B.bytes
  have hr := B.returns
  have hts := atoms_spec (ws := w_DiscMakerModel_partSize) B.pre
  have ht9 := fun (w : Cond) (h : w ∈ lw_g) => hts w (List.mem_cons_of_mem _ h)
  have hown : s.vm.findClass "DiscMakerModel" = some m.cls := findClass_of_methodNamed B.named
  have hlocks := B.notSynchronized
  subst hsz
  have hD := hD0.self (sz := s.heap.size)
  generalize hAe : va_A [(h0, .inr (11, MO ma sv_thrown sv_length sv_nodes sv_many sv_directories sv_runsFrom sv_runs sv_read sv_wrong sv_isNamed sv_goes sv_goesSize sv_goesAt sv_targetParts sv_isRoot)), ((ma 16), .inl (cJ, 46080, .inr (.inl F))), ((ma 1), .inl (cI, 40, .inl fK)), ((ma 9), .inl (cI, 40, .inl fNS)), ((ma 10), .inl (cB, 8000, .inl fT)), ((ma 11), .inl (cI, 40, .inl fTS))] s.heap.size = A at hD ⊢
  have hA : ∀ q : Nat, s.heap.size ≤ q → A q := fun q h => by rw [← hAe]; exact Or.inr h
  have hS : va_S A s.heap s.heap [] := va_S.rf
  have hP : va_P D CL [(h0, .inr (11, MO ma sv_thrown sv_length sv_nodes sv_many sv_directories sv_runsFrom sv_runs sv_read sv_wrong sv_isNamed sv_goes sv_goesSize sv_goesAt sv_targetParts sv_isRoot)), ((ma 16), .inl (cJ, 46080, .inr (.inl F))), ((ma 1), .inl (cI, 40, .inl fK)), ((ma 9), .inl (cI, 40, .inl fNS)), ((ma 10), .inl (cB, 8000, .inl fT)), ((ma 11), .inl (cI, 40, .inl fTS))] s.heap := hP
  have hl := lv_entry [.ref h0, .int x, .int y, .int z] (n := 4) (Nat.le_of_ble_eq_true rfl)
  rw [lg_entry_eq]
  generalize (lg_sl [.ref h0, .int x, .int y, .int z] ++ List.replicate (4 - (lg_sl [.ref h0, .int x, .int y, .int z]).length) Slot.unset).toArray = ls at hl ⊢
  have hl : lv_has ls 4 [(0, .ref h0), (1, .int x), (2, .int y), (3, .int z)] := hl
  have L_m1 : ((-1) : Int32).toInt = (-1) := by decide
  have L_0 : (0 : Int32).toInt = 0 := by decide
  have L_1 : (1 : Int32).toInt = 1 := by decide
  have L_2 : (2 : Int32).toInt = 2 := by decide
  have L_5 : (5 : Int32).toInt = 5 := by decide
  have L_7 : (7 : Int32).toInt = 7 := by decide
  have L_36 : (36 : Int32).toInt = 36 := by decide
  have hzc := i_cl (a := z) (by omega)
  have hzn := hNS z.toNatClampNeg (by omega)
  have hzt := hTS z.toNatClampNeg (by omega)
  refine lv_iload_n hx hb d_DiscMakerModel_partSize_0 rfl (lv_at hl 1 rfl) ?_
  refine lv_if_ne (tgt := 19) hx hb d_DiscMakerModel_partSize_1 (by decide) (fun h_9 => ?_) (fun h_9 => ?_)
  · skip
    have g1_2 : ¬ x.toInt = 0 := fun h8 => h_9 ((i_eq rfl (by decide)).mpr h8)
    refine lv_iload_n hx hb d_DiscMakerModel_partSize_19 rfl (lv_at hl 1 rfl) ?_
    refine lv_iconst (v := 1) hx hb d_DiscMakerModel_partSize_20 (by decide) ?_
    refine lv_icmp_ne (tgt := 27) hx hb d_DiscMakerModel_partSize_21 (by decide) (fun h_9 => ?_) (fun h_9 => ?_)
    · skip
      have g21_5 : ¬ x.toInt = 1 := fun h8 => h_9 ((i_eq rfl (by decide)).mpr h8)
      refine lv_iload_n hx hb d_DiscMakerModel_partSize_27 rfl (lv_at hl 2 rfl) ?_
      refine lv_iconst (v := 2) hx hb d_DiscMakerModel_partSize_28 (by decide) ?_
      refine lv_icmp_ge (tgt := 34) hx hb d_DiscMakerModel_partSize_29 (by decide) (fun h_9 => ?_) (fun h_9 => ?_)
      · skip
        have g29_8 : 2 ≤ y.toInt := (i_le (by decide) rfl).mp h_9
        refine lv_iload_n hx hb d_DiscMakerModel_partSize_34 rfl (lv_at hl 1 rfl) ?_
        refine lv_iconst (v := 2) hx hb d_DiscMakerModel_partSize_35 (by decide) ?_
        refine lv_icmp_ne (tgt := 50) hx hb d_DiscMakerModel_partSize_36 (by decide) (fun h_9 => ?_) (fun h_9 => ?_)
        · skip
          have g36_11 : ¬ x.toInt = 2 := fun h8 => h_9 ((i_eq rfl (by decide)).mpr h8)
          refine lv_aload_n hx hb d_DiscMakerModel_partSize_50 rfl (lv_at hl 0 rfl) ?_
          refine va_get (D := D) (ci := 11) (v := .ref (ma 1)) (C := "DiscMakerModel") (T := F_DiscMakerModel) (N := 48) hx hb ht9 in_DiscMakerModel hown hK hP 0 rfl rfl 4 (by decide) (ht9 _ k1435) (fun _ h9 => h9) rfl d_DiscMakerModel_partSize_51 ?_
          refine lv_iload_n hx hb d_DiscMakerModel_partSize_54 rfl (lv_at hl 3 rfl) ?_
          refine va_iald hx hb hK hP 2 1 rfl rfl (vp_in_iff.mpr ⟨by omega, by omega⟩) d_DiscMakerModel_partSize_55 ?_
          refine lv_topi (fun v1 e_v1 => ?_)
          have t_v1 : 0 ≤ v1.toInt ∧ v1.toInt ≤ 2 := by
            rw [e_v1]; exact hKi _ (by have := i_cl (a := z) (by omega); omega)
          refine lv_iconst (v := 2) hx hb d_DiscMakerModel_partSize_56 (by decide) ?_
          refine lv_icmp_ne (tgt := 71) hx hb d_DiscMakerModel_partSize_57 (by decide) (fun h_9 => ?_) (fun h_9 => ?_)
          · skip
            have g57_17 : ¬ v1.toInt = 2 := fun h8 => h_9 ((i_eq rfl (by decide)).mpr h8)
            refine lv_iconst (v := 0) hx hb d_DiscMakerModel_partSize_71 (by decide) ?_
            have hP9 := hP.sub (ws' := [(h0, .inr (11, MO ma sv_thrown sv_length sv_nodes sv_many sv_directories sv_runsFrom sv_runs sv_read sv_wrong sv_isNamed sv_goes sv_goesSize sv_goesAt sv_targetParts sv_isRoot)), ((ma 16), .inl (cJ, 46080, .inr (.inl F))), ((ma 1), .inl (cI, 40, .inl fK)), ((ma 9), .inl (cI, 40, .inl fNS)), ((ma 10), .inl (cB, 8000, .inl fT)), ((ma 11), .inl (cI, 40, .inl fTS))]) [0, 1, 2, 3, 4, 5] rfl
            have hD9 := hD.sub (ws' := [(h0, .inr (11, MO ma sv_thrown sv_length sv_nodes sv_many sv_directories sv_runsFrom sv_runs sv_read sv_wrong sv_isNamed sv_goes sv_goesSize sv_goesAt sv_targetParts sv_isRoot)), ((ma 16), .inl (cJ, 46080, .inr (.inl F))), ((ma 1), .inl (cI, 40, .inl fK)), ((ma 9), .inl (cI, 40, .inl fNS)), ((ma 10), .inl (cB, 8000, .inl fT)), ((ma 11), .inl (cI, 40, .inl fTS))]) [0, 1, 2, 3, 4, 5] (by decide +kernel) rfl
            have hq9 : True := trivial
            have qq_v1 : v1.toInt = (fK z.toNatClampNeg).toInt := by rw [e_v1]
            exact W.iret (v := 0) hx hb hr (fun t ht hW => ⟨⟨0, F, rfl, ⟨(by (try dsimp only); unfold psF; split <;> (try split) <;> (try split) <;> (try split) <;> (try split) <;> omega), (by (try dsimp only); first | assumption | omega | trivial)⟩, by rw [ht]; exact hP9, hD9⟩, hS.F ht⟩) hS.2.2 d_DiscMakerModel_partSize_72
          · skip
            have g57_17 : v1.toInt = 2 := (i_eq rfl (by decide)).mp h_9
            refine lv_iconst (v := 5) hx hb d_DiscMakerModel_partSize_60 (by decide) ?_
            refine lv_aload_n hx hb d_DiscMakerModel_partSize_61 rfl (lv_at hl 0 rfl) ?_
            refine lv_iload_n hx hb d_DiscMakerModel_partSize_62 rfl (lv_at hl 3 rfl) ?_
            refine lv_iconst (v := (-1)) hx hb d_DiscMakerModel_partSize_63 (by decide) ?_
            have hPc := hP.sub (ws' := [(h0, .inr (11, MO ma sv_thrown sv_length sv_nodes sv_many sv_directories sv_runsFrom sv_runs sv_read sv_wrong sv_isNamed sv_goes sv_goesSize sv_goesAt sv_targetParts sv_isRoot)), ((ma 16), .inl (cJ, 46080, .inr (.inl F))), ((ma 10), .inl (cB, 8000, .inl fT)), ((ma 11), .inl (cI, 40, .inl fTS))]) [0, 1, 4, 5] rfl
            have hDc := hD.sub (ws' := [(h0, .inr (11, MO ma sv_thrown sv_length sv_nodes sv_many sv_directories sv_runsFrom sv_runs sv_read sv_wrong sv_isNamed sv_goes sv_goesSize sv_goesAt sv_targetParts sv_isRoot)), ((ma 16), .inl (cJ, 46080, .inr (.inl F))), ((ma 10), .inl (cB, 8000, .inl fT)), ((ma 11), .inl (cI, 40, .inl fTS))]) [0, 1, 4, 5] (by decide +kernel) rfl
            have hFc := va_free (wc := [(h0, .inr (11, MO ma sv_thrown sv_length sv_nodes sv_many sv_directories sv_runsFrom sv_runs sv_read sv_wrong sv_isNamed sv_goes sv_goesSize sv_goesAt sv_targetParts sv_isRoot)), ((ma 16), .inl (cJ, 46080, .inr (.inl F))), ((ma 10), .inl (cB, 8000, .inl fT)), ((ma 11), .inl (cI, 40, .inl fTS))]) hD hS hA [0, 1, 4, 5] rfl
            have hkc : 0 ≤ 0 := by decide
            have hks : 0 ≤ 0 := by decide
            refine va_calli (va_runV (C := "DiscMakerModel") (As := [.int z, .int (-1)]) (rest := [.int 5]) ⟨hx, hb, hml, hown, hts⟩ (m_components l D cB cI cJ cZ cN cF s.heap.size h0 ma sv_thrown sv_length sv_nodes sv_many sv_directories sv_runsFrom sv_runs sv_read sv_wrong sv_isNamed sv_goes sv_goesSize sv_goesAt sv_targetParts sv_isRoot F fT fTS z (-1) (by (try dsimp only); first | assumption | omega | trivial) (by (try dsimp only); first | assumption | omega | trivial) (by (try dsimp only); first | assumption | omega | trivial)) (cwV 2 hts (lg_goodV k1719 k1721 k77 k125 kc_DiscMakerModel_components) rfl rfl rfl (by decide +kernel) ⟨Nat.le_of_ble_eq_true rfl, Nat.le_of_ble_eq_true rfl⟩) ⟨fun a U g mk q => by obtain ⟨q0, q1, qP, qK, qN, qD⟩ := q; exact ⟨q0, q1, qP, va_K.moved (u := U) (U := U.calling g mk a) (Vm.Alike.refl U.vm) qK, qN.calling, qD⟩, va_recv hK hP (ci := 11) (q0 := 0) rfl rfl, fun U hU hW => ⟨rfl, by rw [hU], by rw [hU]; exact hPc, va_K.moved hW.alike hK, NN.warm hW hN, hDc.weaken (fun _ _ _ _ => trivial)⟩⟩ rfl rfl hl.1 rfl (lv_room (Nat.le_of_ble_eq_true rfl)) d_DiscMakerModel_partSize_64 ⟨hkc, hks⟩) hS (fun q _ h => hFc q h) hFc (fun r2 u t H1 locs ht hvm hp_r2 hB hz1 hk1 hS => ?_)
            obtain ⟨G_3, rfl⟩ : ∃ z, z = u := ⟨_, rfl⟩
            obtain ⟨hP1, hD1⟩ := hB
            rw [ht] at hP1
            obtain ⟨hP, hD⟩ := va_join (wr := [((ma 1), .inl (cI, 40, .inl fK)), ((ma 9), .inl (cI, 40, .inl fNS))]) (w1 := [(h0, .inr (11, MO ma sv_thrown sv_length sv_nodes sv_many sv_directories sv_runsFrom sv_runs sv_read sv_wrong sv_isNamed sv_goes sv_goesSize sv_goesAt sv_targetParts sv_isRoot)), ((ma 16), .inl (cJ, 46080, .inr (.inl G_3))), ((ma 10), .inl (cB, 8000, .inl fT)), ((ma 11), .inl (cI, 40, .inl fTS))]) hP hD [0, 1, 4, 5] [2, 3] rfl rfl (by decide +kernel) (by decide +kernel) hk1 hFc hP1 hD1
            clear hPc hDc hFc hP1 hD1 hk1 hz1 hkc hks
            generalize H1 = H at hP hS ⊢
            have hP : va_P D CL [((ma 1), .inl (cI, 40, .inl fK)), ((ma 9), .inl (cI, 40, .inl fNS)), (h0, .inr (11, MO ma sv_thrown sv_length sv_nodes sv_many sv_directories sv_runsFrom sv_runs sv_read sv_wrong sv_isNamed sv_goes sv_goesSize sv_goesAt sv_targetParts sv_isRoot)), ((ma 16), .inl (cJ, 46080, .inr (.inl G_3))), ((ma 10), .inl (cB, 8000, .inl fT)), ((ma 11), .inl (cI, 40, .inl fTS))] H := hP
            have hD : va_D A [((ma 1), .inl (cI, 40, .inl fK)), ((ma 9), .inl (cI, 40, .inl fNS)), (h0, .inr (11, MO ma sv_thrown sv_length sv_nodes sv_many sv_directories sv_runsFrom sv_runs sv_read sv_wrong sv_isNamed sv_goes sv_goesSize sv_goesAt sv_targetParts sv_isRoot)), ((ma 16), .inl (cJ, 46080, .inr (.inl G_3))), ((ma 10), .inl (cB, 8000, .inl fT)), ((ma 11), .inl (cI, 40, .inl fTS))] := hD
            try dsimp only at hp_r2
            obtain ⟨hv_4, hr_5⟩ := hp_r2
            refine lv_iadd hx hb d_DiscMakerModel_partSize_67 ?_
            refine lv_topi (fun v6 e_v6 => ?_)
            have t_v6 : v6.toInt = 5 + r2.toInt := by rw [e_v6]; exact i_add (by decide) rfl (by omega) (by omega)
            refine lv_goto (tgt := 72) hx hb d_DiscMakerModel_partSize_68 (by decide) ?_
            have hP9 := hP.sub (ws' := [(h0, .inr (11, MO ma sv_thrown sv_length sv_nodes sv_many sv_directories sv_runsFrom sv_runs sv_read sv_wrong sv_isNamed sv_goes sv_goesSize sv_goesAt sv_targetParts sv_isRoot)), ((ma 16), .inl (cJ, 46080, .inr (.inl G_3))), ((ma 1), .inl (cI, 40, .inl fK)), ((ma 9), .inl (cI, 40, .inl fNS)), ((ma 10), .inl (cB, 8000, .inl fT)), ((ma 11), .inl (cI, 40, .inl fTS))]) [2, 3, 0, 1, 4, 5] rfl
            have hD9 := hD.sub (ws' := [(h0, .inr (11, MO ma sv_thrown sv_length sv_nodes sv_many sv_directories sv_runsFrom sv_runs sv_read sv_wrong sv_isNamed sv_goes sv_goesSize sv_goesAt sv_targetParts sv_isRoot)), ((ma 16), .inl (cJ, 46080, .inr (.inl G_3))), ((ma 1), .inl (cI, 40, .inl fK)), ((ma 9), .inl (cI, 40, .inl fNS)), ((ma 10), .inl (cB, 8000, .inl fT)), ((ma 11), .inl (cI, 40, .inl fTS))]) [2, 3, 0, 1, 4, 5] (by decide +kernel) rfl
            have hq9 : True := trivial
            have qq_v1 : v1.toInt = (fK z.toNatClampNeg).toInt := by rw [e_v1]
            exact W.iret (v := v6) hx hb hr (fun t ht hW => ⟨⟨v6, G_3, rfl, ⟨(by (try dsimp only); unfold psF; split <;> (try split) <;> (try split) <;> (try split) <;> (try split) <;> omega), (by (try dsimp only); first | assumption | omega | trivial)⟩, by rw [ht]; exact hP9, hD9⟩, hS.F ht⟩) hS.2.2 d_DiscMakerModel_partSize_72
        · skip
          have g36_11 : x.toInt = 2 := (i_eq rfl (by decide)).mp h_9
          refine lv_iconst (v := 5) hx hb d_DiscMakerModel_partSize_39 (by decide) ?_
          refine lv_aload_n hx hb d_DiscMakerModel_partSize_40 rfl (lv_at hl 0 rfl) ?_
          refine va_get (D := D) (ci := 11) (v := .ref (ma 9)) (C := "DiscMakerModel") (T := F_DiscMakerModel) (N := 48) hx hb ht9 in_DiscMakerModel hown hK hP 0 rfl rfl 12 (by decide) (ht9 _ k1443) (fun _ h9 => h9) rfl d_DiscMakerModel_partSize_41 ?_
          refine lv_iload_n hx hb d_DiscMakerModel_partSize_44 rfl (lv_at hl 3 rfl) ?_
          refine va_iald hx hb hK hP 3 1 rfl rfl (vp_in_iff.mpr ⟨by omega, by omega⟩) d_DiscMakerModel_partSize_45 ?_
          refine lv_topi (fun v7 e_v7 => ?_)
          have t_v7 : 0 ≤ v7.toInt ∧ v7.toInt ≤ 30 := by
            rw [e_v7]; exact hNS _ (by have := i_cl (a := z) (by omega); omega)
          refine lv_iadd hx hb d_DiscMakerModel_partSize_46 ?_
          refine lv_topi (fun v8 e_v8 => ?_)
          have t_v8 : v8.toInt = 5 + v7.toInt := by rw [e_v8]; exact i_add (by decide) rfl (by omega) (by omega)
          refine lv_goto (tgt := 72) hx hb d_DiscMakerModel_partSize_47 (by decide) ?_
          have hP9 := hP.sub (ws' := [(h0, .inr (11, MO ma sv_thrown sv_length sv_nodes sv_many sv_directories sv_runsFrom sv_runs sv_read sv_wrong sv_isNamed sv_goes sv_goesSize sv_goesAt sv_targetParts sv_isRoot)), ((ma 16), .inl (cJ, 46080, .inr (.inl F))), ((ma 1), .inl (cI, 40, .inl fK)), ((ma 9), .inl (cI, 40, .inl fNS)), ((ma 10), .inl (cB, 8000, .inl fT)), ((ma 11), .inl (cI, 40, .inl fTS))]) [0, 1, 2, 3, 4, 5] rfl
          have hD9 := hD.sub (ws' := [(h0, .inr (11, MO ma sv_thrown sv_length sv_nodes sv_many sv_directories sv_runsFrom sv_runs sv_read sv_wrong sv_isNamed sv_goes sv_goesSize sv_goesAt sv_targetParts sv_isRoot)), ((ma 16), .inl (cJ, 46080, .inr (.inl F))), ((ma 1), .inl (cI, 40, .inl fK)), ((ma 9), .inl (cI, 40, .inl fNS)), ((ma 10), .inl (cB, 8000, .inl fT)), ((ma 11), .inl (cI, 40, .inl fTS))]) [0, 1, 2, 3, 4, 5] (by decide +kernel) rfl
          have hq9 : True := trivial
          have qq_v7 : v7.toInt = (fNS z.toNatClampNeg).toInt := by rw [e_v7]
          exact W.iret (v := v8) hx hb hr (fun t ht hW => ⟨⟨v8, F, rfl, ⟨(by (try dsimp only); unfold psF; split <;> (try split) <;> (try split) <;> (try split) <;> (try split) <;> omega), (by (try dsimp only); first | assumption | omega | trivial)⟩, by rw [ht]; exact hP9, hD9⟩, hS.F ht⟩) hS.2.2 d_DiscMakerModel_partSize_72
      · skip
        have g29_8 : ¬ 2 ≤ y.toInt := fun h8 => h_9 ((i_le (by decide) rfl).mpr h8)
        refine lv_iconst (v := 0) hx hb d_DiscMakerModel_partSize_32 (by decide) ?_
        have hP9 := hP.sub (ws' := [(h0, .inr (11, MO ma sv_thrown sv_length sv_nodes sv_many sv_directories sv_runsFrom sv_runs sv_read sv_wrong sv_isNamed sv_goes sv_goesSize sv_goesAt sv_targetParts sv_isRoot)), ((ma 16), .inl (cJ, 46080, .inr (.inl F))), ((ma 1), .inl (cI, 40, .inl fK)), ((ma 9), .inl (cI, 40, .inl fNS)), ((ma 10), .inl (cB, 8000, .inl fT)), ((ma 11), .inl (cI, 40, .inl fTS))]) [0, 1, 2, 3, 4, 5] rfl
        have hD9 := hD.sub (ws' := [(h0, .inr (11, MO ma sv_thrown sv_length sv_nodes sv_many sv_directories sv_runsFrom sv_runs sv_read sv_wrong sv_isNamed sv_goes sv_goesSize sv_goesAt sv_targetParts sv_isRoot)), ((ma 16), .inl (cJ, 46080, .inr (.inl F))), ((ma 1), .inl (cI, 40, .inl fK)), ((ma 9), .inl (cI, 40, .inl fNS)), ((ma 10), .inl (cB, 8000, .inl fT)), ((ma 11), .inl (cI, 40, .inl fTS))]) [0, 1, 2, 3, 4, 5] (by decide +kernel) rfl
        have hq9 : True := trivial
        exact W.iret (v := 0) hx hb hr (fun t ht hW => ⟨⟨0, F, rfl, ⟨(by (try dsimp only); unfold psF; split <;> (try split) <;> (try split) <;> (try split) <;> (try split) <;> omega), (by (try dsimp only); first | assumption | omega | trivial)⟩, by rw [ht]; exact hP9, hD9⟩, hS.F ht⟩) hS.2.2 d_DiscMakerModel_partSize_33
    · skip
      have g21_5 : x.toInt = 1 := (i_eq rfl (by decide)).mp h_9
      refine lv_bipush (v := 36) hx hb d_DiscMakerModel_partSize_24 (by decide) ?_
      have hP9 := hP.sub (ws' := [(h0, .inr (11, MO ma sv_thrown sv_length sv_nodes sv_many sv_directories sv_runsFrom sv_runs sv_read sv_wrong sv_isNamed sv_goes sv_goesSize sv_goesAt sv_targetParts sv_isRoot)), ((ma 16), .inl (cJ, 46080, .inr (.inl F))), ((ma 1), .inl (cI, 40, .inl fK)), ((ma 9), .inl (cI, 40, .inl fNS)), ((ma 10), .inl (cB, 8000, .inl fT)), ((ma 11), .inl (cI, 40, .inl fTS))]) [0, 1, 2, 3, 4, 5] rfl
      have hD9 := hD.sub (ws' := [(h0, .inr (11, MO ma sv_thrown sv_length sv_nodes sv_many sv_directories sv_runsFrom sv_runs sv_read sv_wrong sv_isNamed sv_goes sv_goesSize sv_goesAt sv_targetParts sv_isRoot)), ((ma 16), .inl (cJ, 46080, .inr (.inl F))), ((ma 1), .inl (cI, 40, .inl fK)), ((ma 9), .inl (cI, 40, .inl fNS)), ((ma 10), .inl (cB, 8000, .inl fT)), ((ma 11), .inl (cI, 40, .inl fTS))]) [0, 1, 2, 3, 4, 5] (by decide +kernel) rfl
      have hq9 : True := trivial
      exact W.iret (v := 36) hx hb hr (fun t ht hW => ⟨⟨36, F, rfl, ⟨(by (try dsimp only); unfold psF; split <;> (try split) <;> (try split) <;> (try split) <;> (try split) <;> omega), (by (try dsimp only); first | assumption | omega | trivial)⟩, by rw [ht]; exact hP9, hD9⟩, hS.F ht⟩) hS.2.2 d_DiscMakerModel_partSize_26
  · skip
    have g1_2 : x.toInt = 0 := (i_eq rfl (by decide)).mp h_9
    refine lv_iload_n hx hb d_DiscMakerModel_partSize_4 rfl (lv_at hl 2 rfl) ?_
    refine lv_if_ne (tgt := 17) hx hb d_DiscMakerModel_partSize_5 (by decide) (fun h_9 => ?_) (fun h_9 => ?_)
    · skip
      have g5_41 : ¬ y.toInt = 0 := fun h8 => h_9 ((i_eq rfl (by decide)).mpr h8)
      refine lv_iconst (v := 0) hx hb d_DiscMakerModel_partSize_17 (by decide) ?_
      have hP9 := hP.sub (ws' := [(h0, .inr (11, MO ma sv_thrown sv_length sv_nodes sv_many sv_directories sv_runsFrom sv_runs sv_read sv_wrong sv_isNamed sv_goes sv_goesSize sv_goesAt sv_targetParts sv_isRoot)), ((ma 16), .inl (cJ, 46080, .inr (.inl F))), ((ma 1), .inl (cI, 40, .inl fK)), ((ma 9), .inl (cI, 40, .inl fNS)), ((ma 10), .inl (cB, 8000, .inl fT)), ((ma 11), .inl (cI, 40, .inl fTS))]) [0, 1, 2, 3, 4, 5] rfl
      have hD9 := hD.sub (ws' := [(h0, .inr (11, MO ma sv_thrown sv_length sv_nodes sv_many sv_directories sv_runsFrom sv_runs sv_read sv_wrong sv_isNamed sv_goes sv_goesSize sv_goesAt sv_targetParts sv_isRoot)), ((ma 16), .inl (cJ, 46080, .inr (.inl F))), ((ma 1), .inl (cI, 40, .inl fK)), ((ma 9), .inl (cI, 40, .inl fNS)), ((ma 10), .inl (cB, 8000, .inl fT)), ((ma 11), .inl (cI, 40, .inl fTS))]) [0, 1, 2, 3, 4, 5] (by decide +kernel) rfl
      have hq9 : True := trivial
      exact W.iret (v := 0) hx hb hr (fun t ht hW => ⟨⟨0, F, rfl, ⟨(by (try dsimp only); unfold psF; split <;> (try split) <;> (try split) <;> (try split) <;> (try split) <;> omega), (by (try dsimp only); first | assumption | omega | trivial)⟩, by rw [ht]; exact hP9, hD9⟩, hS.F ht⟩) hS.2.2 d_DiscMakerModel_partSize_18
    · skip
      have g5_41 : y.toInt = 0 := (i_eq rfl (by decide)).mp h_9
      refine lv_iload_n hx hb d_DiscMakerModel_partSize_8 rfl (lv_at hl 3 rfl) ?_
      refine lv_if_ne (tgt := 17) hx hb d_DiscMakerModel_partSize_9 (by decide) (fun h_9 => ?_) (fun h_9 => ?_)
      · skip
        have g9_45 : ¬ z.toInt = 0 := fun h8 => h_9 ((i_eq rfl (by decide)).mpr h8)
        refine lv_iconst (v := 0) hx hb d_DiscMakerModel_partSize_17 (by decide) ?_
        have hP9 := hP.sub (ws' := [(h0, .inr (11, MO ma sv_thrown sv_length sv_nodes sv_many sv_directories sv_runsFrom sv_runs sv_read sv_wrong sv_isNamed sv_goes sv_goesSize sv_goesAt sv_targetParts sv_isRoot)), ((ma 16), .inl (cJ, 46080, .inr (.inl F))), ((ma 1), .inl (cI, 40, .inl fK)), ((ma 9), .inl (cI, 40, .inl fNS)), ((ma 10), .inl (cB, 8000, .inl fT)), ((ma 11), .inl (cI, 40, .inl fTS))]) [0, 1, 2, 3, 4, 5] rfl
        have hD9 := hD.sub (ws' := [(h0, .inr (11, MO ma sv_thrown sv_length sv_nodes sv_many sv_directories sv_runsFrom sv_runs sv_read sv_wrong sv_isNamed sv_goes sv_goesSize sv_goesAt sv_targetParts sv_isRoot)), ((ma 16), .inl (cJ, 46080, .inr (.inl F))), ((ma 1), .inl (cI, 40, .inl fK)), ((ma 9), .inl (cI, 40, .inl fNS)), ((ma 10), .inl (cB, 8000, .inl fT)), ((ma 11), .inl (cI, 40, .inl fTS))]) [0, 1, 2, 3, 4, 5] (by decide +kernel) rfl
        have hq9 : True := trivial
        exact W.iret (v := 0) hx hb hr (fun t ht hW => ⟨⟨0, F, rfl, ⟨(by (try dsimp only); unfold psF; split <;> (try split) <;> (try split) <;> (try split) <;> (try split) <;> omega), (by (try dsimp only); first | assumption | omega | trivial)⟩, by rw [ht]; exact hP9, hD9⟩, hS.F ht⟩) hS.2.2 d_DiscMakerModel_partSize_18
      · skip
        have g9_45 : z.toInt = 0 := (i_eq rfl (by decide)).mp h_9
        refine lv_bipush (v := 7) hx hb d_DiscMakerModel_partSize_12 (by decide) ?_
        refine lv_goto (tgt := 18) hx hb d_DiscMakerModel_partSize_14 (by decide) ?_
        have hP9 := hP.sub (ws' := [(h0, .inr (11, MO ma sv_thrown sv_length sv_nodes sv_many sv_directories sv_runsFrom sv_runs sv_read sv_wrong sv_isNamed sv_goes sv_goesSize sv_goesAt sv_targetParts sv_isRoot)), ((ma 16), .inl (cJ, 46080, .inr (.inl F))), ((ma 1), .inl (cI, 40, .inl fK)), ((ma 9), .inl (cI, 40, .inl fNS)), ((ma 10), .inl (cB, 8000, .inl fT)), ((ma 11), .inl (cI, 40, .inl fTS))]) [0, 1, 2, 3, 4, 5] rfl
        have hD9 := hD.sub (ws' := [(h0, .inr (11, MO ma sv_thrown sv_length sv_nodes sv_many sv_directories sv_runsFrom sv_runs sv_read sv_wrong sv_isNamed sv_goes sv_goesSize sv_goesAt sv_targetParts sv_isRoot)), ((ma 16), .inl (cJ, 46080, .inr (.inl F))), ((ma 1), .inl (cI, 40, .inl fK)), ((ma 9), .inl (cI, 40, .inl fNS)), ((ma 10), .inl (cB, 8000, .inl fT)), ((ma 11), .inl (cI, 40, .inl fTS))]) [0, 1, 2, 3, 4, 5] (by decide +kernel) rfl
        have hq9 : True := trivial
        exact W.iret (v := 7) hx hb hr (fun t ht hW => ⟨⟨7, F, rfl, ⟨(by (try dsimp only); unfold psF; split <;> (try split) <;> (try split) <;> (try split) <;> (try split) <;> omega), (by (try dsimp only); first | assumption | omega | trivial)⟩, by rw [ht]; exact hP9, hD9⟩, hS.F ht⟩) hS.2.2 d_DiscMakerModel_partSize_18

theorem d_DiscMakerModel_idSize_0 : decode b_DiscMakerModel_idSize 0 = .ok (.iload_n 2, 1) := by decide +kernel
theorem d_DiscMakerModel_idSize_1 : decode b_DiscMakerModel_idSize 1 = .ok (.iconst 2, 1) := by decide +kernel
theorem d_DiscMakerModel_idSize_2 : decode b_DiscMakerModel_idSize 2 = .ok (.if_icmp .ge 5, 3) := by decide +kernel
theorem d_DiscMakerModel_idSize_5 : decode b_DiscMakerModel_idSize 5 = .ok (.iconst 1, 1) := by decide +kernel
theorem d_DiscMakerModel_idSize_6 : decode b_DiscMakerModel_idSize 6 = .ok (.ireturn, 1) := by decide +kernel
theorem d_DiscMakerModel_idSize_7 : decode b_DiscMakerModel_idSize 7 = .ok (.iload_n 1, 1) := by decide +kernel
theorem d_DiscMakerModel_idSize_8 : decode b_DiscMakerModel_idSize 8 = .ok (.iconst 1, 1) := by decide +kernel
theorem d_DiscMakerModel_idSize_9 : decode b_DiscMakerModel_idSize 9 = .ok (.if_icmp .ne 12, 3) := by decide +kernel
theorem d_DiscMakerModel_idSize_12 : decode b_DiscMakerModel_idSize 12 = .ok (.iconst 2, 1) := by decide +kernel
theorem d_DiscMakerModel_idSize_13 : decode b_DiscMakerModel_idSize 13 = .ok (.aload_n 0, 1) := by decide +kernel
theorem d_DiscMakerModel_idSize_14 : decode b_DiscMakerModel_idSize 14 = .ok (.getfield 38, 3) := by decide +kernel
theorem d_DiscMakerModel_idSize_17 : decode b_DiscMakerModel_idSize 17 = .ok (.iload_n 3, 1) := by decide +kernel
theorem d_DiscMakerModel_idSize_18 : decode b_DiscMakerModel_idSize 18 = .ok (.iaload, 1) := by decide +kernel
theorem d_DiscMakerModel_idSize_19 : decode b_DiscMakerModel_idSize 19 = .ok (.imul, 1) := by decide +kernel
theorem d_DiscMakerModel_idSize_20 : decode b_DiscMakerModel_idSize 20 = .ok (.ireturn, 1) := by decide +kernel
theorem d_DiscMakerModel_idSize_21 : decode b_DiscMakerModel_idSize 21 = .ok (.aload_n 0, 1) := by decide +kernel
theorem d_DiscMakerModel_idSize_22 : decode b_DiscMakerModel_idSize 22 = .ok (.getfield 13, 3) := by decide +kernel
theorem d_DiscMakerModel_idSize_25 : decode b_DiscMakerModel_idSize 25 = .ok (.iload_n 3, 1) := by decide +kernel
theorem d_DiscMakerModel_idSize_26 : decode b_DiscMakerModel_idSize 26 = .ok (.iaload, 1) := by decide +kernel
theorem d_DiscMakerModel_idSize_27 : decode b_DiscMakerModel_idSize 27 = .ok (.ifCond .ne 12, 3) := by decide +kernel
theorem d_DiscMakerModel_idSize_30 : decode b_DiscMakerModel_idSize 30 = .ok (.aload_n 0, 1) := by decide +kernel
theorem d_DiscMakerModel_idSize_31 : decode b_DiscMakerModel_idSize 31 = .ok (.getfield 50, 3) := by decide +kernel
theorem d_DiscMakerModel_idSize_34 : decode b_DiscMakerModel_idSize 34 = .ok (.iload_n 3, 1) := by decide +kernel
theorem d_DiscMakerModel_idSize_35 : decode b_DiscMakerModel_idSize 35 = .ok (.iaload, 1) := by decide +kernel
theorem d_DiscMakerModel_idSize_36 : decode b_DiscMakerModel_idSize 36 = .ok (.goto 18, 3) := by decide +kernel
theorem d_DiscMakerModel_idSize_39 : decode b_DiscMakerModel_idSize 39 = .ok (.aload_n 0, 1) := by decide +kernel
theorem d_DiscMakerModel_idSize_40 : decode b_DiscMakerModel_idSize 40 = .ok (.getfield 50, 3) := by decide +kernel
theorem d_DiscMakerModel_idSize_43 : decode b_DiscMakerModel_idSize 43 = .ok (.iload_n 3, 1) := by decide +kernel
theorem d_DiscMakerModel_idSize_44 : decode b_DiscMakerModel_idSize 44 = .ok (.iaload, 1) := by decide +kernel
theorem d_DiscMakerModel_idSize_45 : decode b_DiscMakerModel_idSize 45 = .ok (.aload_n 0, 1) := by decide +kernel
theorem d_DiscMakerModel_idSize_46 : decode b_DiscMakerModel_idSize 46 = .ok (.getfield 56, 3) := by decide +kernel
theorem d_DiscMakerModel_idSize_49 : decode b_DiscMakerModel_idSize 49 = .ok (.iload_n 3, 1) := by decide +kernel
theorem d_DiscMakerModel_idSize_50 : decode b_DiscMakerModel_idSize 50 = .ok (.iaload, 1) := by decide +kernel
theorem d_DiscMakerModel_idSize_51 : decode b_DiscMakerModel_idSize 51 = .ok (.iadd, 1) := by decide +kernel
theorem d_DiscMakerModel_idSize_52 : decode b_DiscMakerModel_idSize 52 = .ok (.iconst 3, 1) := by decide +kernel
theorem d_DiscMakerModel_idSize_53 : decode b_DiscMakerModel_idSize 53 = .ok (.iadd, 1) := by decide +kernel
theorem d_DiscMakerModel_idSize_54 : decode b_DiscMakerModel_idSize 54 = .ok (.ireturn, 1) := by decide +kernel
set_option maxHeartbeats 4000000 in
set_option maxRecDepth 100000 in
theorem m_idSize (l : Launch) (D : va_G) (cB cI cJ cZ cN cF : ClassId) (sz : Nat) (h0 : Nat) (ma : Nat → Nat) (sv_thrown sv_length sv_nodes sv_many sv_directories sv_runsFrom sv_runs sv_read sv_wrong sv_isNamed sv_goes sv_goesSize sv_goesAt sv_targetParts sv_isRoot : Int32) (fK : Nat → Int32) (fNS : Nat → Int32) (fBs : Nat → Int32) (fEs : Nat → Int32) (x : Int32) (y : Int32) (z : Int32) (hz0 : 0 ≤ z.toInt ∧ z.toInt < 40) (hKi : Rg 0 2 40 fK) (hNS : Rg 0 30 40 fNS) (hBs : Rg 0 8 40 fBs) (hEs : Rg 0 3 40 fEs) : Met l y_DiscMakerModel_idSize w_DiscMakerModel_idSize ({ frames := 0, cells := 0, slots := 0, locals := 0 }) (va_Pc [.ref h0, .int x, .int y, .int z] (fun U => U.heap.size = sz ∧ va_P D CL [(h0, .inr (11, MO ma sv_thrown sv_length sv_nodes sv_many sv_directories sv_runsFrom sv_runs sv_read sv_wrong sv_isNamed sv_goes sv_goesSize sv_goesAt sv_targetParts sv_isRoot)), ((ma 1), .inl (cI, 40, .inl fK)), ((ma 9), .inl (cI, 40, .inl fNS)), ((ma 13), .inl (cI, 40, .inl fBs)), ((ma 15), .inl (cI, 40, .inl fEs))] U.heap ∧ va_K D CL (TY cB cI cJ cZ cN cF) U ∧ NN U ∧ va_D (fun _ => True) [(h0, .inr (11, MO ma sv_thrown sv_length sv_nodes sv_many sv_directories sv_runsFrom sv_runs sv_read sv_wrong sv_isNamed sv_goes sv_goesSize sv_goesAt sv_targetParts sv_isRoot)), ((ma 1), .inl (cI, 40, .inl fK)), ((ma 9), .inl (cI, 40, .inl fNS)), ((ma 13), .inl (cI, 40, .inl fBs)), ((ma 15), .inl (cI, 40, .inl fEs))])) (va_Qi (fun (r : Int32) (u : Unit) => (r.toInt = idF fK fNS fBs fEs x.toInt y.toInt z.toNatClampNeg) ∧ (0 ≤ r.toInt ∧ r.toInt ≤ 60 ∧ (x.toInt = 0 → r.toInt ≤ 14))) (fun (u : Unit) (t : State) => match u with | () => va_P D CL [(h0, .inr (11, MO ma sv_thrown sv_length sv_nodes sv_many sv_directories sv_runsFrom sv_runs sv_read sv_wrong sv_isNamed sv_goes sv_goesSize sv_goesAt sv_targetParts sv_isRoot)), ((ma 1), .inl (cI, 40, .inl fK)), ((ma 9), .inl (cI, 40, .inl fNS)), ((ma 13), .inl (cI, 40, .inl fBs)), ((ma 15), .inl (cI, 40, .inl fEs))] t.heap ∧ va_D (va_A [(h0, .inr (11, MO ma sv_thrown sv_length sv_nodes sv_many sv_directories sv_runsFrom sv_runs sv_read sv_wrong sv_isNamed sv_goes sv_goesSize sv_goesAt sv_targetParts sv_isRoot)), ((ma 1), .inl (cI, 40, .inl fK)), ((ma 9), .inl (cI, 40, .inl fNS)), ((ma 13), .inl (cI, 40, .inl fBs)), ((ma 15), .inl (cI, 40, .inl fEs))] sz) [(h0, .inr (11, MO ma sv_thrown sv_length sv_nodes sv_many sv_directories sv_runsFrom sv_runs sv_read sv_wrong sv_isNamed sv_goes sv_goesSize sv_goesAt sv_targetParts sv_isRoot)), ((ma 1), .inl (cI, 40, .inl fK)), ((ma 9), .inl (cI, 40, .inl fNS)), ((ma 13), .inl (cI, 40, .inl fBs)), ((ma 15), .inl (cI, 40, .inl fEs))]) (va_A [(h0, .inr (11, MO ma sv_thrown sv_length sv_nodes sv_many sv_directories sv_runsFrom sv_runs sv_read sv_wrong sv_isNamed sv_goes sv_goesSize sv_goesAt sv_targetParts sv_isRoot)), ((ma 1), .inl (cI, 40, .inl fK)), ((ma 9), .inl (cI, 40, .inl fNS)), ((ma 13), .inl (cI, 40, .inl fBs)), ((ma 15), .inl (cI, 40, .inl fEs))] sz)) 0 0 (va_A [(h0, .inr (11, MO ma sv_thrown sv_length sv_nodes sv_many sv_directories sv_runsFrom sv_runs sv_read sv_wrong sv_isNamed sv_goes sv_goesSize sv_goesAt sv_targetParts sv_isRoot)), ((ma 1), .inl (cI, 40, .inl fK)), ((ma 9), .inl (cI, 40, .inl fNS)), ((ma 13), .inl (cI, 40, .inl fBs)), ((ma 15), .inl (cI, 40, .inl fEs))] sz) := by
  refine Met.ofW (cc := b_DiscMakerModel_idSize) (maxL := 4) (ret := some .int) (by decide) rfl ?_
  intro p e s m args below meth c s₁ B hml hv
  obtain ⟨rfl, hsz, hP, hK, hN, hD0⟩ := hv
  have hx := B.exec
  have hb := B.bytes
  have hr := B.returns
  have hts := atoms_spec (ws := w_DiscMakerModel_idSize) B.pre
  have ht9 := fun (w : Cond) (h : w ∈ lw_g) => hts w (List.mem_cons_of_mem _ h)
  have hown : s.vm.findClass "DiscMakerModel" = some m.cls := findClass_of_methodNamed B.named
  have hlocks := B.notSynchronized
  subst hsz
  have hD := hD0.self (sz := s.heap.size)
  generalize hAe : va_A [(h0, .inr (11, MO ma sv_thrown sv_length sv_nodes sv_many sv_directories sv_runsFrom sv_runs sv_read sv_wrong sv_isNamed sv_goes sv_goesSize sv_goesAt sv_targetParts sv_isRoot)), ((ma 1), .inl (cI, 40, .inl fK)), ((ma 9), .inl (cI, 40, .inl fNS)), ((ma 13), .inl (cI, 40, .inl fBs)), ((ma 15), .inl (cI, 40, .inl fEs))] s.heap.size = A at hD ⊢
  have hA : ∀ q : Nat, s.heap.size ≤ q → A q := fun q h => by rw [← hAe]; exact Or.inr h
  have hS : va_S A s.heap s.heap [] := va_S.rf
  have hP : va_P D CL [(h0, .inr (11, MO ma sv_thrown sv_length sv_nodes sv_many sv_directories sv_runsFrom sv_runs sv_read sv_wrong sv_isNamed sv_goes sv_goesSize sv_goesAt sv_targetParts sv_isRoot)), ((ma 1), .inl (cI, 40, .inl fK)), ((ma 9), .inl (cI, 40, .inl fNS)), ((ma 13), .inl (cI, 40, .inl fBs)), ((ma 15), .inl (cI, 40, .inl fEs))] s.heap := hP
  have hl := lv_entry [.ref h0, .int x, .int y, .int z] (n := 4) (Nat.le_of_ble_eq_true rfl)
  rw [lg_entry_eq]
  generalize (lg_sl [.ref h0, .int x, .int y, .int z] ++ List.replicate (4 - (lg_sl [.ref h0, .int x, .int y, .int z]).length) Slot.unset).toArray = ls at hl ⊢
  have hl : lv_has ls 4 [(0, .ref h0), (1, .int x), (2, .int y), (3, .int z)] := hl
  have L_m1 : ((-1) : Int32).toInt = (-1) := by decide
  have L_0 : (0 : Int32).toInt = 0 := by decide
  have L_1 : (1 : Int32).toInt = 1 := by decide
  have L_2 : (2 : Int32).toInt = 2 := by decide
  have L_3 : (3 : Int32).toInt = 3 := by decide
  have hzc := i_cl (a := z) (by omega)
  have hil := idF_le (fK := fK) x.toInt y.toInt (hNS z.toNatClampNeg (by omega)) (hBs z.toNatClampNeg (by omega)) (hEs z.toNatClampNeg (by omega))
  refine lv_iload_n hx hb d_DiscMakerModel_idSize_0 rfl (lv_at hl 2 rfl) ?_
  refine lv_iconst (v := 2) hx hb d_DiscMakerModel_idSize_1 (by decide) ?_
  refine lv_icmp_ge (tgt := 7) hx hb d_DiscMakerModel_idSize_2 (by decide) (fun h_9 => ?_) (fun h_9 => ?_)
  · skip
    have g2_3 : 2 ≤ y.toInt := (i_le (by decide) rfl).mp h_9
    refine lv_iload_n hx hb d_DiscMakerModel_idSize_7 rfl (lv_at hl 1 rfl) ?_
    refine lv_iconst (v := 1) hx hb d_DiscMakerModel_idSize_8 (by decide) ?_
    refine lv_icmp_ne (tgt := 21) hx hb d_DiscMakerModel_idSize_9 (by decide) (fun h_9 => ?_) (fun h_9 => ?_)
    · skip
      have g9_6 : ¬ x.toInt = 1 := fun h8 => h_9 ((i_eq rfl (by decide)).mpr h8)
      refine lv_aload_n hx hb d_DiscMakerModel_idSize_21 rfl (lv_at hl 0 rfl) ?_
      refine va_get (D := D) (ci := 11) (v := .ref (ma 1)) (C := "DiscMakerModel") (T := F_DiscMakerModel) (N := 48) hx hb ht9 in_DiscMakerModel hown hK hP 0 rfl rfl 4 (by decide) (ht9 _ k1435) (fun _ h9 => h9) rfl d_DiscMakerModel_idSize_22 ?_
      refine lv_iload_n hx hb d_DiscMakerModel_idSize_25 rfl (lv_at hl 3 rfl) ?_
      refine va_iald hx hb hK hP 1 1 rfl rfl (vp_in_iff.mpr ⟨by omega, by omega⟩) d_DiscMakerModel_idSize_26 ?_
      refine lv_topi (fun v1 e_v1 => ?_)
      have t_v1 : 0 ≤ v1.toInt ∧ v1.toInt ≤ 2 := by
        rw [e_v1]; exact hKi _ (by have := i_cl (a := z) (by omega); omega)
      refine lv_if_ne (tgt := 39) hx hb d_DiscMakerModel_idSize_27 (by decide) (fun h_9 => ?_) (fun h_9 => ?_)
      · skip
        have g27_11 : ¬ v1.toInt = 0 := fun h8 => h_9 ((i_eq rfl (by decide)).mpr h8)
        refine lv_aload_n hx hb d_DiscMakerModel_idSize_39 rfl (lv_at hl 0 rfl) ?_
        refine va_get (D := D) (ci := 11) (v := .ref (ma 13)) (C := "DiscMakerModel") (T := F_DiscMakerModel) (N := 48) hx hb ht9 in_DiscMakerModel hown hK hP 0 rfl rfl 16 (by decide) (ht9 _ k1447) (fun _ h9 => h9) rfl d_DiscMakerModel_idSize_40 ?_
        refine lv_iload_n hx hb d_DiscMakerModel_idSize_43 rfl (lv_at hl 3 rfl) ?_
        refine va_iald hx hb hK hP 3 1 rfl rfl (vp_in_iff.mpr ⟨by omega, by omega⟩) d_DiscMakerModel_idSize_44 ?_
        refine lv_topi (fun v2 e_v2 => ?_)
        have t_v2 : 0 ≤ v2.toInt ∧ v2.toInt ≤ 8 := by
          rw [e_v2]; exact hBs _ (by have := i_cl (a := z) (by omega); omega)
        refine lv_aload_n hx hb d_DiscMakerModel_idSize_45 rfl (lv_at hl 0 rfl) ?_
        refine va_get (D := D) (ci := 11) (v := .ref (ma 15)) (C := "DiscMakerModel") (T := F_DiscMakerModel) (N := 48) hx hb ht9 in_DiscMakerModel hown hK hP 0 rfl rfl 18 (by decide) (ht9 _ k1449) (fun _ h9 => h9) rfl d_DiscMakerModel_idSize_46 ?_
        refine lv_iload_n hx hb d_DiscMakerModel_idSize_49 rfl (lv_at hl 3 rfl) ?_
        refine va_iald hx hb hK hP 4 1 rfl rfl (vp_in_iff.mpr ⟨by omega, by omega⟩) d_DiscMakerModel_idSize_50 ?_
        refine lv_topi (fun v3 e_v3 => ?_)
        have t_v3 : 0 ≤ v3.toInt ∧ v3.toInt ≤ 3 := by
          rw [e_v3]; exact hEs _ (by have := i_cl (a := z) (by omega); omega)
        refine lv_iadd hx hb d_DiscMakerModel_idSize_51 ?_
        refine lv_topi (fun v4 e_v4 => ?_)
        have t_v4 : v4.toInt = v2.toInt + v3.toInt := by rw [e_v4]; exact i_add rfl rfl (by omega) (by omega)
        refine lv_iconst (v := 3) hx hb d_DiscMakerModel_idSize_52 (by decide) ?_
        refine lv_iadd hx hb d_DiscMakerModel_idSize_53 ?_
        refine lv_topi (fun v5 e_v5 => ?_)
        have t_v5 : v5.toInt = v4.toInt + 3 := by rw [e_v5]; exact i_add rfl (by decide) (by omega) (by omega)
        have hP9 := hP.sub (ws' := [(h0, .inr (11, MO ma sv_thrown sv_length sv_nodes sv_many sv_directories sv_runsFrom sv_runs sv_read sv_wrong sv_isNamed sv_goes sv_goesSize sv_goesAt sv_targetParts sv_isRoot)), ((ma 1), .inl (cI, 40, .inl fK)), ((ma 9), .inl (cI, 40, .inl fNS)), ((ma 13), .inl (cI, 40, .inl fBs)), ((ma 15), .inl (cI, 40, .inl fEs))]) [0, 1, 2, 3, 4] rfl
        have hD9 := hD.sub (ws' := [(h0, .inr (11, MO ma sv_thrown sv_length sv_nodes sv_many sv_directories sv_runsFrom sv_runs sv_read sv_wrong sv_isNamed sv_goes sv_goesSize sv_goesAt sv_targetParts sv_isRoot)), ((ma 1), .inl (cI, 40, .inl fK)), ((ma 9), .inl (cI, 40, .inl fNS)), ((ma 13), .inl (cI, 40, .inl fBs)), ((ma 15), .inl (cI, 40, .inl fEs))]) [0, 1, 2, 3, 4] (by decide +kernel) rfl
        have qq_v1 : v1.toInt = (fK z.toNatClampNeg).toInt := by rw [e_v1]
        have qq_v2 : v2.toInt = (fBs z.toNatClampNeg).toInt := by rw [e_v2]
        have qq_v3 : v3.toInt = (fEs z.toNatClampNeg).toInt := by rw [e_v3]
        have hv9 : v5.toInt = idF fK fNS fBs fEs x.toInt y.toInt z.toNatClampNeg := by unfold idF; split <;> (try split) <;> (try split) <;> omega
        exact W.iret (v := v5) hx hb hr (fun t ht hW => ⟨⟨v5, (), rfl, ⟨hv9, (by (try dsimp only); rw [hv9]; exact hil)⟩, by rw [ht]; exact hP9, hD9⟩, hS.F ht⟩) hS.2.2 d_DiscMakerModel_idSize_54
      · skip
        have g27_11 : v1.toInt = 0 := (i_eq rfl (by decide)).mp h_9
        refine lv_aload_n hx hb d_DiscMakerModel_idSize_30 rfl (lv_at hl 0 rfl) ?_
        refine va_get (D := D) (ci := 11) (v := .ref (ma 13)) (C := "DiscMakerModel") (T := F_DiscMakerModel) (N := 48) hx hb ht9 in_DiscMakerModel hown hK hP 0 rfl rfl 16 (by decide) (ht9 _ k1447) (fun _ h9 => h9) rfl d_DiscMakerModel_idSize_31 ?_
        refine lv_iload_n hx hb d_DiscMakerModel_idSize_34 rfl (lv_at hl 3 rfl) ?_
        refine va_iald hx hb hK hP 3 1 rfl rfl (vp_in_iff.mpr ⟨by omega, by omega⟩) d_DiscMakerModel_idSize_35 ?_
        refine lv_topi (fun v6 e_v6 => ?_)
        have t_v6 : 0 ≤ v6.toInt ∧ v6.toInt ≤ 8 := by
          rw [e_v6]; exact hBs _ (by have := i_cl (a := z) (by omega); omega)
        refine lv_goto (tgt := 54) hx hb d_DiscMakerModel_idSize_36 (by decide) ?_
        have hP9 := hP.sub (ws' := [(h0, .inr (11, MO ma sv_thrown sv_length sv_nodes sv_many sv_directories sv_runsFrom sv_runs sv_read sv_wrong sv_isNamed sv_goes sv_goesSize sv_goesAt sv_targetParts sv_isRoot)), ((ma 1), .inl (cI, 40, .inl fK)), ((ma 9), .inl (cI, 40, .inl fNS)), ((ma 13), .inl (cI, 40, .inl fBs)), ((ma 15), .inl (cI, 40, .inl fEs))]) [0, 1, 2, 3, 4] rfl
        have hD9 := hD.sub (ws' := [(h0, .inr (11, MO ma sv_thrown sv_length sv_nodes sv_many sv_directories sv_runsFrom sv_runs sv_read sv_wrong sv_isNamed sv_goes sv_goesSize sv_goesAt sv_targetParts sv_isRoot)), ((ma 1), .inl (cI, 40, .inl fK)), ((ma 9), .inl (cI, 40, .inl fNS)), ((ma 13), .inl (cI, 40, .inl fBs)), ((ma 15), .inl (cI, 40, .inl fEs))]) [0, 1, 2, 3, 4] (by decide +kernel) rfl
        have qq_v1 : v1.toInt = (fK z.toNatClampNeg).toInt := by rw [e_v1]
        have qq_v6 : v6.toInt = (fBs z.toNatClampNeg).toInt := by rw [e_v6]
        have hv9 : v6.toInt = idF fK fNS fBs fEs x.toInt y.toInt z.toNatClampNeg := by unfold idF; split <;> (try split) <;> (try split) <;> omega
        exact W.iret (v := v6) hx hb hr (fun t ht hW => ⟨⟨v6, (), rfl, ⟨hv9, (by (try dsimp only); rw [hv9]; exact hil)⟩, by rw [ht]; exact hP9, hD9⟩, hS.F ht⟩) hS.2.2 d_DiscMakerModel_idSize_54
    · skip
      have g9_6 : x.toInt = 1 := (i_eq rfl (by decide)).mp h_9
      refine lv_iconst (v := 2) hx hb d_DiscMakerModel_idSize_12 (by decide) ?_
      refine lv_aload_n hx hb d_DiscMakerModel_idSize_13 rfl (lv_at hl 0 rfl) ?_
      refine va_get (D := D) (ci := 11) (v := .ref (ma 9)) (C := "DiscMakerModel") (T := F_DiscMakerModel) (N := 48) hx hb ht9 in_DiscMakerModel hown hK hP 0 rfl rfl 12 (by decide) (ht9 _ k1443) (fun _ h9 => h9) rfl d_DiscMakerModel_idSize_14 ?_
      refine lv_iload_n hx hb d_DiscMakerModel_idSize_17 rfl (lv_at hl 3 rfl) ?_
      refine va_iald hx hb hK hP 2 1 rfl rfl (vp_in_iff.mpr ⟨by omega, by omega⟩) d_DiscMakerModel_idSize_18 ?_
      refine lv_topi (fun v7 e_v7 => ?_)
      have t_v7 : 0 ≤ v7.toInt ∧ v7.toInt ≤ 30 := by
        rw [e_v7]; exact hNS _ (by have := i_cl (a := z) (by omega); omega)
      refine lv_imul hx hb d_DiscMakerModel_idSize_19 ?_
      refine lv_topi (fun v8 e_v8 => ?_)
      have t_v8 : v8.toInt = 2 * v7.toInt := by rw [e_v8]; exact i_mul (by decide) rfl (by omega) (by omega)
      have hP9 := hP.sub (ws' := [(h0, .inr (11, MO ma sv_thrown sv_length sv_nodes sv_many sv_directories sv_runsFrom sv_runs sv_read sv_wrong sv_isNamed sv_goes sv_goesSize sv_goesAt sv_targetParts sv_isRoot)), ((ma 1), .inl (cI, 40, .inl fK)), ((ma 9), .inl (cI, 40, .inl fNS)), ((ma 13), .inl (cI, 40, .inl fBs)), ((ma 15), .inl (cI, 40, .inl fEs))]) [0, 1, 2, 3, 4] rfl
      have hD9 := hD.sub (ws' := [(h0, .inr (11, MO ma sv_thrown sv_length sv_nodes sv_many sv_directories sv_runsFrom sv_runs sv_read sv_wrong sv_isNamed sv_goes sv_goesSize sv_goesAt sv_targetParts sv_isRoot)), ((ma 1), .inl (cI, 40, .inl fK)), ((ma 9), .inl (cI, 40, .inl fNS)), ((ma 13), .inl (cI, 40, .inl fBs)), ((ma 15), .inl (cI, 40, .inl fEs))]) [0, 1, 2, 3, 4] (by decide +kernel) rfl
      have qq_v7 : v7.toInt = (fNS z.toNatClampNeg).toInt := by rw [e_v7]
      have hv9 : v8.toInt = idF fK fNS fBs fEs x.toInt y.toInt z.toNatClampNeg := by unfold idF; split <;> (try split) <;> (try split) <;> omega
      exact W.iret (v := v8) hx hb hr (fun t ht hW => ⟨⟨v8, (), rfl, ⟨hv9, (by (try dsimp only); rw [hv9]; exact hil)⟩, by rw [ht]; exact hP9, hD9⟩, hS.F ht⟩) hS.2.2 d_DiscMakerModel_idSize_20
  · skip
    have g2_3 : ¬ 2 ≤ y.toInt := fun h8 => h_9 ((i_le (by decide) rfl).mpr h8)
    refine lv_iconst (v := 1) hx hb d_DiscMakerModel_idSize_5 (by decide) ?_
    have hP9 := hP.sub (ws' := [(h0, .inr (11, MO ma sv_thrown sv_length sv_nodes sv_many sv_directories sv_runsFrom sv_runs sv_read sv_wrong sv_isNamed sv_goes sv_goesSize sv_goesAt sv_targetParts sv_isRoot)), ((ma 1), .inl (cI, 40, .inl fK)), ((ma 9), .inl (cI, 40, .inl fNS)), ((ma 13), .inl (cI, 40, .inl fBs)), ((ma 15), .inl (cI, 40, .inl fEs))]) [0, 1, 2, 3, 4] rfl
    have hD9 := hD.sub (ws' := [(h0, .inr (11, MO ma sv_thrown sv_length sv_nodes sv_many sv_directories sv_runsFrom sv_runs sv_read sv_wrong sv_isNamed sv_goes sv_goesSize sv_goesAt sv_targetParts sv_isRoot)), ((ma 1), .inl (cI, 40, .inl fK)), ((ma 9), .inl (cI, 40, .inl fNS)), ((ma 13), .inl (cI, 40, .inl fBs)), ((ma 15), .inl (cI, 40, .inl fEs))]) [0, 1, 2, 3, 4] (by decide +kernel) rfl
    have hv9 : (1 : Int32).toInt = idF fK fNS fBs fEs x.toInt y.toInt z.toNatClampNeg := by unfold idF; split <;> (try split) <;> (try split) <;> omega
    exact W.iret (v := 1) hx hb hr (fun t ht hW => ⟨⟨1, (), rfl, ⟨hv9, (by (try dsimp only); rw [hv9]; exact hil)⟩, by rw [ht]; exact hP9, hD9⟩, hS.F ht⟩) hS.2.2 d_DiscMakerModel_idSize_6

theorem d_DiscMakerModel_headSize_0 : decode b_DiscMakerModel_headSize 0 = .ok (.bipush 33, 2) := by decide +kernel
theorem d_DiscMakerModel_headSize_2 : decode b_DiscMakerModel_headSize 2 = .ok (.aload_n 0, 1) := by decide +kernel
theorem d_DiscMakerModel_headSize_3 : decode b_DiscMakerModel_headSize 3 = .ok (.iload_n 1, 1) := by decide +kernel
theorem d_DiscMakerModel_headSize_4 : decode b_DiscMakerModel_headSize 4 = .ok (.iload_n 2, 1) := by decide +kernel
theorem d_DiscMakerModel_headSize_5 : decode b_DiscMakerModel_headSize 5 = .ok (.iload_n 3, 1) := by decide +kernel
theorem d_DiscMakerModel_headSize_6 : decode b_DiscMakerModel_headSize 6 = .ok (.invokevirtual 210, 3) := by decide +kernel
theorem d_DiscMakerModel_headSize_9 : decode b_DiscMakerModel_headSize 9 = .ok (.iadd, 1) := by decide +kernel
theorem d_DiscMakerModel_headSize_10 : decode b_DiscMakerModel_headSize 10 = .ok (.istore 4, 2) := by decide +kernel
theorem d_DiscMakerModel_headSize_12 : decode b_DiscMakerModel_headSize 12 = .ok (.iload 4, 2) := by decide +kernel
theorem d_DiscMakerModel_headSize_14 : decode b_DiscMakerModel_headSize 14 = .ok (.iload 4, 2) := by decide +kernel
theorem d_DiscMakerModel_headSize_16 : decode b_DiscMakerModel_headSize 16 = .ok (.iconst 2, 1) := by decide +kernel
theorem d_DiscMakerModel_headSize_17 : decode b_DiscMakerModel_headSize 17 = .ok (.irem, 1) := by decide +kernel
theorem d_DiscMakerModel_headSize_18 : decode b_DiscMakerModel_headSize 18 = .ok (.iadd, 1) := by decide +kernel
theorem d_DiscMakerModel_headSize_19 : decode b_DiscMakerModel_headSize 19 = .ok (.ireturn, 1) := by decide +kernel
set_option maxHeartbeats 4000000 in
set_option maxRecDepth 100000 in
theorem m_headSize (l : Launch) (D : va_G) (cB cI cJ cZ cN cF : ClassId) (sz : Nat) (h0 : Nat) (ma : Nat → Nat) (sv_thrown sv_length sv_nodes sv_many sv_directories sv_runsFrom sv_runs sv_read sv_wrong sv_isNamed sv_goes sv_goesSize sv_goesAt sv_targetParts sv_isRoot : Int32) (fK : Nat → Int32) (fNS : Nat → Int32) (fBs : Nat → Int32) (fEs : Nat → Int32) (x : Int32) (y : Int32) (z : Int32) (hz0 : 0 ≤ z.toInt ∧ z.toInt < 40) (hKi : Rg 0 2 40 fK) (hNS : Rg 0 30 40 fNS) (hBs : Rg 0 8 40 fBs) (hEs : Rg 0 3 40 fEs) : Met l y_DiscMakerModel_headSize w_DiscMakerModel_headSize ({ frames := 1, cells := 0, slots := 0, locals := 23 }) (va_Pc [.ref h0, .int x, .int y, .int z] (fun U => U.heap.size = sz ∧ va_P D CL [(h0, .inr (11, MO ma sv_thrown sv_length sv_nodes sv_many sv_directories sv_runsFrom sv_runs sv_read sv_wrong sv_isNamed sv_goes sv_goesSize sv_goesAt sv_targetParts sv_isRoot)), ((ma 1), .inl (cI, 40, .inl fK)), ((ma 9), .inl (cI, 40, .inl fNS)), ((ma 13), .inl (cI, 40, .inl fBs)), ((ma 15), .inl (cI, 40, .inl fEs))] U.heap ∧ va_K D CL (TY cB cI cJ cZ cN cF) U ∧ NN U ∧ va_D (fun _ => True) [(h0, .inr (11, MO ma sv_thrown sv_length sv_nodes sv_many sv_directories sv_runsFrom sv_runs sv_read sv_wrong sv_isNamed sv_goes sv_goesSize sv_goesAt sv_targetParts sv_isRoot)), ((ma 1), .inl (cI, 40, .inl fK)), ((ma 9), .inl (cI, 40, .inl fNS)), ((ma 13), .inl (cI, 40, .inl fBs)), ((ma 15), .inl (cI, 40, .inl fEs))])) (va_Qi (fun (r : Int32) (u : Unit) => (r.toInt = (33 + idF fK fNS fBs fEs x.toInt y.toInt z.toNatClampNeg + (33 + idF fK fNS fBs fEs x.toInt y.toInt z.toNatClampNeg) % 2)) ∧ (33 ≤ r.toInt ∧ r.toInt ≤ 94 ∧ r.toInt % 2 = 0 ∧ (x.toInt = 0 → r.toInt ≤ 48))) (fun (u : Unit) (t : State) => match u with | () => va_P D CL [(h0, .inr (11, MO ma sv_thrown sv_length sv_nodes sv_many sv_directories sv_runsFrom sv_runs sv_read sv_wrong sv_isNamed sv_goes sv_goesSize sv_goesAt sv_targetParts sv_isRoot)), ((ma 1), .inl (cI, 40, .inl fK)), ((ma 9), .inl (cI, 40, .inl fNS)), ((ma 13), .inl (cI, 40, .inl fBs)), ((ma 15), .inl (cI, 40, .inl fEs))] t.heap ∧ va_D (va_A [(h0, .inr (11, MO ma sv_thrown sv_length sv_nodes sv_many sv_directories sv_runsFrom sv_runs sv_read sv_wrong sv_isNamed sv_goes sv_goesSize sv_goesAt sv_targetParts sv_isRoot)), ((ma 1), .inl (cI, 40, .inl fK)), ((ma 9), .inl (cI, 40, .inl fNS)), ((ma 13), .inl (cI, 40, .inl fBs)), ((ma 15), .inl (cI, 40, .inl fEs))] sz) [(h0, .inr (11, MO ma sv_thrown sv_length sv_nodes sv_many sv_directories sv_runsFrom sv_runs sv_read sv_wrong sv_isNamed sv_goes sv_goesSize sv_goesAt sv_targetParts sv_isRoot)), ((ma 1), .inl (cI, 40, .inl fK)), ((ma 9), .inl (cI, 40, .inl fNS)), ((ma 13), .inl (cI, 40, .inl fBs)), ((ma 15), .inl (cI, 40, .inl fEs))]) (va_A [(h0, .inr (11, MO ma sv_thrown sv_length sv_nodes sv_many sv_directories sv_runsFrom sv_runs sv_read sv_wrong sv_isNamed sv_goes sv_goesSize sv_goesAt sv_targetParts sv_isRoot)), ((ma 1), .inl (cI, 40, .inl fK)), ((ma 9), .inl (cI, 40, .inl fNS)), ((ma 13), .inl (cI, 40, .inl fBs)), ((ma 15), .inl (cI, 40, .inl fEs))] sz)) 0 0 (va_A [(h0, .inr (11, MO ma sv_thrown sv_length sv_nodes sv_many sv_directories sv_runsFrom sv_runs sv_read sv_wrong sv_isNamed sv_goes sv_goesSize sv_goesAt sv_targetParts sv_isRoot)), ((ma 1), .inl (cI, 40, .inl fK)), ((ma 9), .inl (cI, 40, .inl fNS)), ((ma 13), .inl (cI, 40, .inl fBs)), ((ma 15), .inl (cI, 40, .inl fEs))] sz) := by
  refine Met.ofW (cc := b_DiscMakerModel_headSize) (maxL := 5) (ret := some .int) (by decide) rfl ?_
  intro p e s m args below meth c s₁ B hml hv
  obtain ⟨rfl, hsz, hP, hK, hN, hD0⟩ := hv
  have hx := B.exec
  have hb := B.bytes
  have hr := B.returns
  have hts := atoms_spec (ws := w_DiscMakerModel_headSize) B.pre
  have ht9 := fun (w : Cond) (h : w ∈ lw_g) => hts w (List.mem_cons_of_mem _ h)
  have hown : s.vm.findClass "DiscMakerModel" = some m.cls := findClass_of_methodNamed B.named
  have hlocks := B.notSynchronized
  subst hsz
  have hD := hD0.self (sz := s.heap.size)
  generalize hAe : va_A [(h0, .inr (11, MO ma sv_thrown sv_length sv_nodes sv_many sv_directories sv_runsFrom sv_runs sv_read sv_wrong sv_isNamed sv_goes sv_goesSize sv_goesAt sv_targetParts sv_isRoot)), ((ma 1), .inl (cI, 40, .inl fK)), ((ma 9), .inl (cI, 40, .inl fNS)), ((ma 13), .inl (cI, 40, .inl fBs)), ((ma 15), .inl (cI, 40, .inl fEs))] s.heap.size = A at hD ⊢
  have hA : ∀ q : Nat, s.heap.size ≤ q → A q := fun q h => by rw [← hAe]; exact Or.inr h
  have hS : va_S A s.heap s.heap [] := va_S.rf
  have hP : va_P D CL [(h0, .inr (11, MO ma sv_thrown sv_length sv_nodes sv_many sv_directories sv_runsFrom sv_runs sv_read sv_wrong sv_isNamed sv_goes sv_goesSize sv_goesAt sv_targetParts sv_isRoot)), ((ma 1), .inl (cI, 40, .inl fK)), ((ma 9), .inl (cI, 40, .inl fNS)), ((ma 13), .inl (cI, 40, .inl fBs)), ((ma 15), .inl (cI, 40, .inl fEs))] s.heap := hP
  have hl := lv_entry [.ref h0, .int x, .int y, .int z] (n := 5) (Nat.le_of_ble_eq_true rfl)
  rw [lg_entry_eq]
  generalize (lg_sl [.ref h0, .int x, .int y, .int z] ++ List.replicate (5 - (lg_sl [.ref h0, .int x, .int y, .int z]).length) Slot.unset).toArray = ls at hl ⊢
  have hl : lv_has ls 5 [(0, .ref h0), (1, .int x), (2, .int y), (3, .int z)] := hl
  have L_m1 : ((-1) : Int32).toInt = (-1) := by decide
  have L_0 : (0 : Int32).toInt = 0 := by decide
  have L_1 : (1 : Int32).toInt = 1 := by decide
  have L_2 : (2 : Int32).toInt = 2 := by decide
  have L_33 : (33 : Int32).toInt = 33 := by decide
  refine lv_bipush (v := 33) hx hb d_DiscMakerModel_headSize_0 (by decide) ?_
  refine lv_aload_n hx hb d_DiscMakerModel_headSize_2 rfl (lv_at hl 0 rfl) ?_
  refine lv_iload_n hx hb d_DiscMakerModel_headSize_3 rfl (lv_at hl 1 rfl) ?_
  refine lv_iload_n hx hb d_DiscMakerModel_headSize_4 rfl (lv_at hl 2 rfl) ?_
  refine lv_iload_n hx hb d_DiscMakerModel_headSize_5 rfl (lv_at hl 3 rfl) ?_
  have hPc := hP.sub (ws' := [(h0, .inr (11, MO ma sv_thrown sv_length sv_nodes sv_many sv_directories sv_runsFrom sv_runs sv_read sv_wrong sv_isNamed sv_goes sv_goesSize sv_goesAt sv_targetParts sv_isRoot)), ((ma 1), .inl (cI, 40, .inl fK)), ((ma 9), .inl (cI, 40, .inl fNS)), ((ma 13), .inl (cI, 40, .inl fBs)), ((ma 15), .inl (cI, 40, .inl fEs))]) [0, 1, 2, 3, 4] rfl
  have hDc := hD.sub (ws' := [(h0, .inr (11, MO ma sv_thrown sv_length sv_nodes sv_many sv_directories sv_runsFrom sv_runs sv_read sv_wrong sv_isNamed sv_goes sv_goesSize sv_goesAt sv_targetParts sv_isRoot)), ((ma 1), .inl (cI, 40, .inl fK)), ((ma 9), .inl (cI, 40, .inl fNS)), ((ma 13), .inl (cI, 40, .inl fBs)), ((ma 15), .inl (cI, 40, .inl fEs))]) [0, 1, 2, 3, 4] (by decide +kernel) rfl
  have hFc := va_free (wc := [(h0, .inr (11, MO ma sv_thrown sv_length sv_nodes sv_many sv_directories sv_runsFrom sv_runs sv_read sv_wrong sv_isNamed sv_goes sv_goesSize sv_goesAt sv_targetParts sv_isRoot)), ((ma 1), .inl (cI, 40, .inl fK)), ((ma 9), .inl (cI, 40, .inl fNS)), ((ma 13), .inl (cI, 40, .inl fBs)), ((ma 15), .inl (cI, 40, .inl fEs))]) hD hS hA [0, 1, 2, 3, 4] rfl
  have hkc : 0 ≤ 0 := by decide
  have hks : 0 ≤ 0 := by decide
  refine va_calli (va_runV (C := "DiscMakerModel") (As := [.int x, .int y, .int z]) (rest := [.int 33]) ⟨hx, hb, hml, hown, hts⟩ (m_idSize l D cB cI cJ cZ cN cF s.heap.size h0 ma sv_thrown sv_length sv_nodes sv_many sv_directories sv_runsFrom sv_runs sv_read sv_wrong sv_isNamed sv_goes sv_goesSize sv_goesAt sv_targetParts sv_isRoot fK fNS fBs fEs x y z (by (try dsimp only); first | assumption | omega | trivial) (by (try dsimp only); first | assumption | omega | trivial) (by (try dsimp only); first | assumption | omega | trivial) (by (try dsimp only); first | assumption | omega | trivial) (by (try dsimp only); first | assumption | omega | trivial)) (cwV 3 hts (lg_goodV k1699 k1701 k72 k125 kc_DiscMakerModel_idSize) rfl rfl rfl (by decide +kernel) ⟨Nat.le_of_ble_eq_true rfl, Nat.le_of_ble_eq_true rfl⟩) ⟨fun a U g mk q => by obtain ⟨q0, q1, qP, qK, qN, qD⟩ := q; exact ⟨q0, q1, qP, va_K.moved (u := U) (U := U.calling g mk a) (Vm.Alike.refl U.vm) qK, qN.calling, qD⟩, va_recv hK hP (ci := 11) (q0 := 0) rfl rfl, fun U hU hW => ⟨rfl, by rw [hU], by rw [hU]; exact hPc, va_K.moved hW.alike hK, NN.warm hW hN, hDc.weaken (fun _ _ _ _ => trivial)⟩⟩ rfl rfl hl.1 rfl (lv_room (Nat.le_of_ble_eq_true rfl)) d_DiscMakerModel_headSize_6 ⟨hkc, hks⟩) hS (fun q _ h => hFc q h) hFc (fun r1 u t H1 locs ht hvm hp_r1 hB hz1 hk1 hS => ?_)
  obtain ⟨hP1, hD1⟩ := hB
  rw [ht] at hP1
  obtain ⟨hP, hD⟩ := va_join (wr := []) (w1 := [(h0, .inr (11, MO ma sv_thrown sv_length sv_nodes sv_many sv_directories sv_runsFrom sv_runs sv_read sv_wrong sv_isNamed sv_goes sv_goesSize sv_goesAt sv_targetParts sv_isRoot)), ((ma 1), .inl (cI, 40, .inl fK)), ((ma 9), .inl (cI, 40, .inl fNS)), ((ma 13), .inl (cI, 40, .inl fBs)), ((ma 15), .inl (cI, 40, .inl fEs))]) hP hD [0, 1, 2, 3, 4] [] rfl rfl (by decide +kernel) (by decide +kernel) hk1 hFc hP1 hD1
  clear hPc hDc hFc hP1 hD1 hk1 hz1 hkc hks
  generalize H1 = H at hP hS ⊢
  have hP : va_P D CL [(h0, .inr (11, MO ma sv_thrown sv_length sv_nodes sv_many sv_directories sv_runsFrom sv_runs sv_read sv_wrong sv_isNamed sv_goes sv_goesSize sv_goesAt sv_targetParts sv_isRoot)), ((ma 1), .inl (cI, 40, .inl fK)), ((ma 9), .inl (cI, 40, .inl fNS)), ((ma 13), .inl (cI, 40, .inl fBs)), ((ma 15), .inl (cI, 40, .inl fEs))] H := hP
  have hD : va_D A [(h0, .inr (11, MO ma sv_thrown sv_length sv_nodes sv_many sv_directories sv_runsFrom sv_runs sv_read sv_wrong sv_isNamed sv_goes sv_goesSize sv_goesAt sv_targetParts sv_isRoot)), ((ma 1), .inl (cI, 40, .inl fK)), ((ma 9), .inl (cI, 40, .inl fNS)), ((ma 13), .inl (cI, 40, .inl fBs)), ((ma 15), .inl (cI, 40, .inl fEs))] := hD
  try dsimp only at hp_r1
  obtain ⟨hv_2, hr_3⟩ := hp_r1
  refine lv_iadd hx hb d_DiscMakerModel_headSize_9 ?_
  refine lv_topi (fun v4 e_v4 => ?_)
  have t_v4 : v4.toInt = 33 + r1.toInt := by rw [e_v4]; exact i_add (by decide) rfl (by omega) (by omega)
  refine lv_istore hx hb d_DiscMakerModel_headSize_10 hl (by decide) rfl (fun ls hl => ?_)
  have hl : lv_has ls 5 [(4, .int v4), (0, .ref h0), (1, .int x), (2, .int y), (3, .int z)] := hl
  refine lv_iload hx hb d_DiscMakerModel_headSize_12 (lv_at hl 0 rfl) ?_
  refine lv_iload hx hb d_DiscMakerModel_headSize_14 (lv_at hl 0 rfl) ?_
  refine lv_iconst (v := 2) hx hb d_DiscMakerModel_headSize_16 (by decide) ?_
  refine lv_irem hx hb d_DiscMakerModel_headSize_17 (by decide) ?_
  refine lv_topi (fun v5 e_v5 => ?_)
  have t_v5 : v5.toInt = v4.toInt % 2 := by rw [e_v5]; exact i_rem rfl (by decide) (by omega) (by omega)
  refine lv_iadd hx hb d_DiscMakerModel_headSize_18 ?_
  refine lv_topi (fun v6 e_v6 => ?_)
  have t_v6 : v6.toInt = v4.toInt + v5.toInt := by rw [e_v6]; exact i_add rfl rfl (by omega) (by omega)
  have hP9 := hP.sub (ws' := [(h0, .inr (11, MO ma sv_thrown sv_length sv_nodes sv_many sv_directories sv_runsFrom sv_runs sv_read sv_wrong sv_isNamed sv_goes sv_goesSize sv_goesAt sv_targetParts sv_isRoot)), ((ma 1), .inl (cI, 40, .inl fK)), ((ma 9), .inl (cI, 40, .inl fNS)), ((ma 13), .inl (cI, 40, .inl fBs)), ((ma 15), .inl (cI, 40, .inl fEs))]) [0, 1, 2, 3, 4] rfl
  have hD9 := hD.sub (ws' := [(h0, .inr (11, MO ma sv_thrown sv_length sv_nodes sv_many sv_directories sv_runsFrom sv_runs sv_read sv_wrong sv_isNamed sv_goes sv_goesSize sv_goesAt sv_targetParts sv_isRoot)), ((ma 1), .inl (cI, 40, .inl fK)), ((ma 9), .inl (cI, 40, .inl fNS)), ((ma 13), .inl (cI, 40, .inl fBs)), ((ma 15), .inl (cI, 40, .inl fEs))]) [0, 1, 2, 3, 4] (by decide +kernel) rfl
  exact W.iret (v := v6) hx hb hr (fun t ht hW => ⟨⟨v6, (), rfl, ⟨(by (try dsimp only); first | assumption | omega | trivial), (by (try dsimp only); first | assumption | omega | trivial)⟩, by rw [ht]; exact hP9, hD9⟩, hS.F ht⟩) hS.2.2 d_DiscMakerModel_headSize_19

theorem d_DiscMakerModel_allParts_0 : decode b_DiscMakerModel_allParts 0 = .ok (.iconst 0, 1) := by decide +kernel
theorem d_DiscMakerModel_allParts_1 : decode b_DiscMakerModel_allParts 1 = .ok (.istore_n 3, 1) := by decide +kernel
theorem d_DiscMakerModel_allParts_2 : decode b_DiscMakerModel_allParts 2 = .ok (.iconst 0, 1) := by decide +kernel
theorem d_DiscMakerModel_allParts_3 : decode b_DiscMakerModel_allParts 3 = .ok (.istore 4, 2) := by decide +kernel
theorem d_DiscMakerModel_allParts_5 : decode b_DiscMakerModel_allParts 5 = .ok (.iload 4, 2) := by decide +kernel
theorem d_DiscMakerModel_allParts_7 : decode b_DiscMakerModel_allParts 7 = .ok (.iconst 4, 1) := by decide +kernel
theorem d_DiscMakerModel_allParts_8 : decode b_DiscMakerModel_allParts 8 = .ok (.if_icmp .ge 20, 3) := by decide +kernel
theorem d_DiscMakerModel_allParts_11 : decode b_DiscMakerModel_allParts 11 = .ok (.iload_n 3, 1) := by decide +kernel
theorem d_DiscMakerModel_allParts_12 : decode b_DiscMakerModel_allParts 12 = .ok (.aload_n 0, 1) := by decide +kernel
theorem d_DiscMakerModel_allParts_13 : decode b_DiscMakerModel_allParts 13 = .ok (.iload 4, 2) := by decide +kernel
theorem d_DiscMakerModel_allParts_15 : decode b_DiscMakerModel_allParts 15 = .ok (.iload_n 1, 1) := by decide +kernel
theorem d_DiscMakerModel_allParts_16 : decode b_DiscMakerModel_allParts 16 = .ok (.iload_n 2, 1) := by decide +kernel
theorem d_DiscMakerModel_allParts_17 : decode b_DiscMakerModel_allParts 17 = .ok (.invokevirtual 213, 3) := by decide +kernel
theorem d_DiscMakerModel_allParts_20 : decode b_DiscMakerModel_allParts 20 = .ok (.iadd, 1) := by decide +kernel
theorem d_DiscMakerModel_allParts_21 : decode b_DiscMakerModel_allParts 21 = .ok (.istore_n 3, 1) := by decide +kernel
theorem d_DiscMakerModel_allParts_22 : decode b_DiscMakerModel_allParts 22 = .ok (.iinc 4 1, 3) := by decide +kernel
theorem d_DiscMakerModel_allParts_25 : decode b_DiscMakerModel_allParts 25 = .ok (.goto (-20), 3) := by decide +kernel
theorem d_DiscMakerModel_allParts_28 : decode b_DiscMakerModel_allParts 28 = .ok (.iload_n 3, 1) := by decide +kernel
theorem d_DiscMakerModel_allParts_29 : decode b_DiscMakerModel_allParts 29 = .ok (.ireturn, 1) := by decide +kernel
set_option maxHeartbeats 4000000 in
set_option maxRecDepth 100000 in
theorem m_allParts (l : Launch) (D : va_G) (cB cI cJ cZ cN cF : ClassId) (sz : Nat) (h0 : Nat) (ma : Nat → Nat) (sv_thrown sv_length sv_nodes sv_many sv_directories sv_runsFrom sv_runs sv_read sv_wrong sv_isNamed sv_goes sv_goesSize sv_goesAt sv_targetParts sv_isRoot : Int32) (F : Nat → Int64) (fK : Nat → Int32) (fNS : Nat → Int32) (fT : Nat → Int32) (fTS : Nat → Int32) (x : Int32) (y : Int32) (hy0 : 0 ≤ y.toInt ∧ y.toInt < 40) (hKi : Rg 0 2 40 fK) (hNS : Rg 0 30 40 fNS) (hTS : Rg 0 200 40 fTS) : Met l y_DiscMakerModel_allParts w_DiscMakerModel_allParts ({ frames := 4, cells := 0, slots := 0, locals := 99 }) (va_Pc [.ref h0, .int x, .int y] (fun U => U.heap.size = sz ∧ va_P D CL [(h0, .inr (11, MO ma sv_thrown sv_length sv_nodes sv_many sv_directories sv_runsFrom sv_runs sv_read sv_wrong sv_isNamed sv_goes sv_goesSize sv_goesAt sv_targetParts sv_isRoot)), ((ma 16), .inl (cJ, 46080, .inr (.inl F))), ((ma 1), .inl (cI, 40, .inl fK)), ((ma 9), .inl (cI, 40, .inl fNS)), ((ma 10), .inl (cB, 8000, .inl fT)), ((ma 11), .inl (cI, 40, .inl fTS))] U.heap ∧ va_K D CL (TY cB cI cJ cZ cN cF) U ∧ NN U ∧ va_D (fun _ => True) [(h0, .inr (11, MO ma sv_thrown sv_length sv_nodes sv_many sv_directories sv_runsFrom sv_runs sv_read sv_wrong sv_isNamed sv_goes sv_goesSize sv_goesAt sv_targetParts sv_isRoot)), ((ma 16), .inl (cJ, 46080, .inr (.inl F))), ((ma 1), .inl (cI, 40, .inl fK)), ((ma 9), .inl (cI, 40, .inl fNS)), ((ma 10), .inl (cB, 8000, .inl fT)), ((ma 11), .inl (cI, 40, .inl fTS))])) (va_Qi (fun (r : Int32) (u : (Nat → Int64)) => match u with | G => (r.toInt = psF fK fNS fT fTS 0 x.toInt y.toNatClampNeg + psF fK fNS fT fTS 1 x.toInt y.toNatClampNeg + psF fK fNS fT fTS 2 x.toInt y.toNatClampNeg + psF fK fNS fT fTS 3 x.toInt y.toNatClampNeg) ∧ (0 ≤ r.toInt ∧ r.toInt ≤ 1232)) (fun (u : (Nat → Int64)) (t : State) => match u with | G => va_P D CL [(h0, .inr (11, MO ma sv_thrown sv_length sv_nodes sv_many sv_directories sv_runsFrom sv_runs sv_read sv_wrong sv_isNamed sv_goes sv_goesSize sv_goesAt sv_targetParts sv_isRoot)), ((ma 16), .inl (cJ, 46080, .inr (.inl G))), ((ma 1), .inl (cI, 40, .inl fK)), ((ma 9), .inl (cI, 40, .inl fNS)), ((ma 10), .inl (cB, 8000, .inl fT)), ((ma 11), .inl (cI, 40, .inl fTS))] t.heap ∧ va_D (va_A [(h0, .inr (11, MO ma sv_thrown sv_length sv_nodes sv_many sv_directories sv_runsFrom sv_runs sv_read sv_wrong sv_isNamed sv_goes sv_goesSize sv_goesAt sv_targetParts sv_isRoot)), ((ma 16), .inl (cJ, 46080, .inr (.inl F))), ((ma 1), .inl (cI, 40, .inl fK)), ((ma 9), .inl (cI, 40, .inl fNS)), ((ma 10), .inl (cB, 8000, .inl fT)), ((ma 11), .inl (cI, 40, .inl fTS))] sz) [(h0, .inr (11, MO ma sv_thrown sv_length sv_nodes sv_many sv_directories sv_runsFrom sv_runs sv_read sv_wrong sv_isNamed sv_goes sv_goesSize sv_goesAt sv_targetParts sv_isRoot)), ((ma 16), .inl (cJ, 46080, .inr (.inl G))), ((ma 1), .inl (cI, 40, .inl fK)), ((ma 9), .inl (cI, 40, .inl fNS)), ((ma 10), .inl (cB, 8000, .inl fT)), ((ma 11), .inl (cI, 40, .inl fTS))]) (va_A [(h0, .inr (11, MO ma sv_thrown sv_length sv_nodes sv_many sv_directories sv_runsFrom sv_runs sv_read sv_wrong sv_isNamed sv_goes sv_goesSize sv_goesAt sv_targetParts sv_isRoot)), ((ma 16), .inl (cJ, 46080, .inr (.inl F))), ((ma 1), .inl (cI, 40, .inl fK)), ((ma 9), .inl (cI, 40, .inl fNS)), ((ma 10), .inl (cB, 8000, .inl fT)), ((ma 11), .inl (cI, 40, .inl fTS))] sz)) 0 0 (va_A [(h0, .inr (11, MO ma sv_thrown sv_length sv_nodes sv_many sv_directories sv_runsFrom sv_runs sv_read sv_wrong sv_isNamed sv_goes sv_goesSize sv_goesAt sv_targetParts sv_isRoot)), ((ma 16), .inl (cJ, 46080, .inr (.inl F))), ((ma 1), .inl (cI, 40, .inl fK)), ((ma 9), .inl (cI, 40, .inl fNS)), ((ma 10), .inl (cB, 8000, .inl fT)), ((ma 11), .inl (cI, 40, .inl fTS))] sz) := by
  refine Met.ofW (cc := b_DiscMakerModel_allParts) (maxL := 5) (ret := some .int) (by decide) rfl ?_
  intro p e s m args below meth c s₁ B hml hv
  obtain ⟨rfl, hsz, hP, hK, hN, hD0⟩ := hv
  have hx := B.exec
  have hb := B.bytes
  have hr := B.returns
  have hts := atoms_spec (ws := w_DiscMakerModel_allParts) B.pre
  have ht9 := fun (w : Cond) (h : w ∈ lw_g) => hts w (List.mem_cons_of_mem _ h)
  have hown : s.vm.findClass "DiscMakerModel" = some m.cls := findClass_of_methodNamed B.named
  have hlocks := B.notSynchronized
  subst hsz
  have hD := hD0.self (sz := s.heap.size)
  generalize hAe : va_A [(h0, .inr (11, MO ma sv_thrown sv_length sv_nodes sv_many sv_directories sv_runsFrom sv_runs sv_read sv_wrong sv_isNamed sv_goes sv_goesSize sv_goesAt sv_targetParts sv_isRoot)), ((ma 16), .inl (cJ, 46080, .inr (.inl F))), ((ma 1), .inl (cI, 40, .inl fK)), ((ma 9), .inl (cI, 40, .inl fNS)), ((ma 10), .inl (cB, 8000, .inl fT)), ((ma 11), .inl (cI, 40, .inl fTS))] s.heap.size = A at hD ⊢
  have hA : ∀ q : Nat, s.heap.size ≤ q → A q := fun q h => by rw [← hAe]; exact Or.inr h
  have hS : va_S A s.heap s.heap [] := va_S.rf
  have hP : va_P D CL [(h0, .inr (11, MO ma sv_thrown sv_length sv_nodes sv_many sv_directories sv_runsFrom sv_runs sv_read sv_wrong sv_isNamed sv_goes sv_goesSize sv_goesAt sv_targetParts sv_isRoot)), ((ma 16), .inl (cJ, 46080, .inr (.inl F))), ((ma 1), .inl (cI, 40, .inl fK)), ((ma 9), .inl (cI, 40, .inl fNS)), ((ma 10), .inl (cB, 8000, .inl fT)), ((ma 11), .inl (cI, 40, .inl fTS))] s.heap := hP
  have hl := lv_entry [.ref h0, .int x, .int y] (n := 5) (Nat.le_of_ble_eq_true rfl)
  rw [lg_entry_eq]
  generalize (lg_sl [.ref h0, .int x, .int y] ++ List.replicate (5 - (lg_sl [.ref h0, .int x, .int y]).length) Slot.unset).toArray = ls at hl ⊢
  have hl : lv_has ls 5 [(0, .ref h0), (1, .int x), (2, .int y)] := hl
  have L_m1 : ((-1) : Int32).toInt = (-1) := by decide
  have L_0 : (0 : Int32).toInt = 0 := by decide
  have L_1 : (1 : Int32).toInt = 1 := by decide
  have L_4 : (4 : Int32).toInt = 4 := by decide
  refine lv_iconst (v := 0) hx hb d_DiscMakerModel_allParts_0 (by decide) ?_
  refine lv_istore_n hx hb d_DiscMakerModel_allParts_1 rfl hl (by decide) rfl (fun ls hl => ?_)
  have hl : lv_has ls 5 [(3, .int 0), (0, .ref h0), (1, .int x), (2, .int y)] := hl
  refine lv_iconst (v := 0) hx hb d_DiscMakerModel_allParts_2 (by decide) ?_
  refine lv_istore hx hb d_DiscMakerModel_allParts_3 hl (by decide) rfl (fun ls hl => ?_)
  have hl : lv_has ls 5 [(4, .int 0), (3, .int 0), (0, .ref h0), (1, .int x), (2, .int y)] := hl
  refine lv_iload hx hb d_DiscMakerModel_allParts_5 (lv_at hl 0 rfl) ?_
  refine lv_iconst (v := 4) hx hb d_DiscMakerModel_allParts_7 (by decide) ?_
  refine lv_icmp_ge (tgt := 28) hx hb d_DiscMakerModel_allParts_8 (by decide) (fun h_9 => absurd h_9 (by decide)) (fun _ => ?_)
  refine lv_iload_n hx hb d_DiscMakerModel_allParts_11 rfl (lv_at hl 1 rfl) ?_
  refine lv_aload_n hx hb d_DiscMakerModel_allParts_12 rfl (lv_at hl 2 rfl) ?_
  refine lv_iload hx hb d_DiscMakerModel_allParts_13 (lv_at hl 0 rfl) ?_
  refine lv_iload_n hx hb d_DiscMakerModel_allParts_15 rfl (lv_at hl 3 rfl) ?_
  refine lv_iload_n hx hb d_DiscMakerModel_allParts_16 rfl (lv_at hl 4 rfl) ?_
  have hPc := hP.sub (ws' := [(h0, .inr (11, MO ma sv_thrown sv_length sv_nodes sv_many sv_directories sv_runsFrom sv_runs sv_read sv_wrong sv_isNamed sv_goes sv_goesSize sv_goesAt sv_targetParts sv_isRoot)), ((ma 16), .inl (cJ, 46080, .inr (.inl F))), ((ma 1), .inl (cI, 40, .inl fK)), ((ma 9), .inl (cI, 40, .inl fNS)), ((ma 10), .inl (cB, 8000, .inl fT)), ((ma 11), .inl (cI, 40, .inl fTS))]) [0, 1, 2, 3, 4, 5] rfl
  have hDc := hD.sub (ws' := [(h0, .inr (11, MO ma sv_thrown sv_length sv_nodes sv_many sv_directories sv_runsFrom sv_runs sv_read sv_wrong sv_isNamed sv_goes sv_goesSize sv_goesAt sv_targetParts sv_isRoot)), ((ma 16), .inl (cJ, 46080, .inr (.inl F))), ((ma 1), .inl (cI, 40, .inl fK)), ((ma 9), .inl (cI, 40, .inl fNS)), ((ma 10), .inl (cB, 8000, .inl fT)), ((ma 11), .inl (cI, 40, .inl fTS))]) [0, 1, 2, 3, 4, 5] (by decide +kernel) rfl
  have hFc := va_free (wc := [(h0, .inr (11, MO ma sv_thrown sv_length sv_nodes sv_many sv_directories sv_runsFrom sv_runs sv_read sv_wrong sv_isNamed sv_goes sv_goesSize sv_goesAt sv_targetParts sv_isRoot)), ((ma 16), .inl (cJ, 46080, .inr (.inl F))), ((ma 1), .inl (cI, 40, .inl fK)), ((ma 9), .inl (cI, 40, .inl fNS)), ((ma 10), .inl (cB, 8000, .inl fT)), ((ma 11), .inl (cI, 40, .inl fTS))]) hD hS hA [0, 1, 2, 3, 4, 5] rfl
  have hkc : 0 ≤ 0 := by decide
  have hks : 0 ≤ 0 := by decide
  refine va_calli (va_runV (C := "DiscMakerModel") (As := [.int 0, .int x, .int y]) (rest := [.int 0]) ⟨hx, hb, hml, hown, hts⟩ (m_partSize l D cB cI cJ cZ cN cF s.heap.size h0 ma sv_thrown sv_length sv_nodes sv_many sv_directories sv_runsFrom sv_runs sv_read sv_wrong sv_isNamed sv_goes sv_goesSize sv_goesAt sv_targetParts sv_isRoot F fK fNS fT fTS 0 x y (by (try dsimp only); first | assumption | omega | trivial) (by (try dsimp only); first | assumption | omega | trivial) (by (try dsimp only); first | assumption | omega | trivial) (by (try dsimp only); first | assumption | omega | trivial) (by (try dsimp only); first | assumption | omega | trivial)) (cwV 3 hts (lg_goodV k1715 k1717 k76 k125 kc_DiscMakerModel_partSize) rfl rfl rfl (by decide +kernel) ⟨Nat.le_of_ble_eq_true rfl, Nat.le_of_ble_eq_true rfl⟩) ⟨fun a U g mk q => by obtain ⟨q0, q1, qP, qK, qN, qD⟩ := q; exact ⟨q0, q1, qP, va_K.moved (u := U) (U := U.calling g mk a) (Vm.Alike.refl U.vm) qK, qN.calling, qD⟩, va_recv hK hP (ci := 11) (q0 := 0) rfl rfl, fun U hU hW => ⟨rfl, by rw [hU], by rw [hU]; exact hPc, va_K.moved hW.alike hK, NN.warm hW hN, hDc.weaken (fun _ _ _ _ => trivial)⟩⟩ rfl rfl hl.1 rfl (lv_room (Nat.le_of_ble_eq_true rfl)) d_DiscMakerModel_allParts_17 ⟨hkc, hks⟩) hS (fun q _ h => hFc q h) hFc (fun r1 u t H1 locs ht hvm hp_r1 hB hz1 hk1 hS => ?_)
  obtain ⟨G_2, rfl⟩ : ∃ z, z = u := ⟨_, rfl⟩
  obtain ⟨hP1, hD1⟩ := hB
  rw [ht] at hP1
  obtain ⟨hP, hD⟩ := va_join (wr := []) (w1 := [(h0, .inr (11, MO ma sv_thrown sv_length sv_nodes sv_many sv_directories sv_runsFrom sv_runs sv_read sv_wrong sv_isNamed sv_goes sv_goesSize sv_goesAt sv_targetParts sv_isRoot)), ((ma 16), .inl (cJ, 46080, .inr (.inl G_2))), ((ma 1), .inl (cI, 40, .inl fK)), ((ma 9), .inl (cI, 40, .inl fNS)), ((ma 10), .inl (cB, 8000, .inl fT)), ((ma 11), .inl (cI, 40, .inl fTS))]) hP hD [0, 1, 2, 3, 4, 5] [] rfl rfl (by decide +kernel) (by decide +kernel) hk1 hFc hP1 hD1
  clear hPc hDc hFc hP1 hD1 hk1 hz1 hkc hks
  generalize H1 = H at hP hS ⊢
  have hP : va_P D CL [(h0, .inr (11, MO ma sv_thrown sv_length sv_nodes sv_many sv_directories sv_runsFrom sv_runs sv_read sv_wrong sv_isNamed sv_goes sv_goesSize sv_goesAt sv_targetParts sv_isRoot)), ((ma 16), .inl (cJ, 46080, .inr (.inl G_2))), ((ma 1), .inl (cI, 40, .inl fK)), ((ma 9), .inl (cI, 40, .inl fNS)), ((ma 10), .inl (cB, 8000, .inl fT)), ((ma 11), .inl (cI, 40, .inl fTS))] H := hP
  have hD : va_D A [(h0, .inr (11, MO ma sv_thrown sv_length sv_nodes sv_many sv_directories sv_runsFrom sv_runs sv_read sv_wrong sv_isNamed sv_goes sv_goesSize sv_goesAt sv_targetParts sv_isRoot)), ((ma 16), .inl (cJ, 46080, .inr (.inl G_2))), ((ma 1), .inl (cI, 40, .inl fK)), ((ma 9), .inl (cI, 40, .inl fNS)), ((ma 10), .inl (cB, 8000, .inl fT)), ((ma 11), .inl (cI, 40, .inl fTS))] := hD
  try dsimp only at hp_r1
  obtain ⟨hv_3, hr_4⟩ := hp_r1
  try rw [L_0] at hv_3
  refine lv_iadd hx hb d_DiscMakerModel_allParts_20 ?_
  refine lv_topi (fun v5 e_v5 => ?_)
  have t_v5 : v5.toInt = 0 + r1.toInt := by rw [e_v5]; exact i_add (by decide) rfl (by omega) (by omega)
  refine lv_istore_n hx hb d_DiscMakerModel_allParts_21 rfl hl (by decide) rfl (fun ls hl => ?_)
  have hl : lv_has ls 5 [(3, .int v5), (4, .int 0), (0, .ref h0), (1, .int x), (2, .int y)] := hl
  refine lv_iinc (v := 1) hx hb d_DiscMakerModel_allParts_22 hl (k := 1) rfl (by decide) (by decide +kernel) rfl (fun ls hl => ?_)
  have hl : lv_has ls 5 [(4, .int 1), (3, .int v5), (0, .ref h0), (1, .int x), (2, .int y)] := hl
  refine lv_goto (tgt := 5) hx hb d_DiscMakerModel_allParts_25 (by decide) ?_
  refine lv_iload hx hb d_DiscMakerModel_allParts_5 (lv_at hl 0 rfl) ?_
  refine lv_iconst (v := 4) hx hb d_DiscMakerModel_allParts_7 (by decide) ?_
  refine lv_icmp_ge (tgt := 28) hx hb d_DiscMakerModel_allParts_8 (by decide) (fun h_9 => absurd h_9 (by decide)) (fun _ => ?_)
  refine lv_iload_n hx hb d_DiscMakerModel_allParts_11 rfl (lv_at hl 1 rfl) ?_
  refine lv_aload_n hx hb d_DiscMakerModel_allParts_12 rfl (lv_at hl 2 rfl) ?_
  refine lv_iload hx hb d_DiscMakerModel_allParts_13 (lv_at hl 0 rfl) ?_
  refine lv_iload_n hx hb d_DiscMakerModel_allParts_15 rfl (lv_at hl 3 rfl) ?_
  refine lv_iload_n hx hb d_DiscMakerModel_allParts_16 rfl (lv_at hl 4 rfl) ?_
  have hPc := hP.sub (ws' := [(h0, .inr (11, MO ma sv_thrown sv_length sv_nodes sv_many sv_directories sv_runsFrom sv_runs sv_read sv_wrong sv_isNamed sv_goes sv_goesSize sv_goesAt sv_targetParts sv_isRoot)), ((ma 16), .inl (cJ, 46080, .inr (.inl G_2))), ((ma 1), .inl (cI, 40, .inl fK)), ((ma 9), .inl (cI, 40, .inl fNS)), ((ma 10), .inl (cB, 8000, .inl fT)), ((ma 11), .inl (cI, 40, .inl fTS))]) [0, 1, 2, 3, 4, 5] rfl
  have hDc := hD.sub (ws' := [(h0, .inr (11, MO ma sv_thrown sv_length sv_nodes sv_many sv_directories sv_runsFrom sv_runs sv_read sv_wrong sv_isNamed sv_goes sv_goesSize sv_goesAt sv_targetParts sv_isRoot)), ((ma 16), .inl (cJ, 46080, .inr (.inl G_2))), ((ma 1), .inl (cI, 40, .inl fK)), ((ma 9), .inl (cI, 40, .inl fNS)), ((ma 10), .inl (cB, 8000, .inl fT)), ((ma 11), .inl (cI, 40, .inl fTS))]) [0, 1, 2, 3, 4, 5] (by decide +kernel) rfl
  have hFc := va_free (wc := [(h0, .inr (11, MO ma sv_thrown sv_length sv_nodes sv_many sv_directories sv_runsFrom sv_runs sv_read sv_wrong sv_isNamed sv_goes sv_goesSize sv_goesAt sv_targetParts sv_isRoot)), ((ma 16), .inl (cJ, 46080, .inr (.inl G_2))), ((ma 1), .inl (cI, 40, .inl fK)), ((ma 9), .inl (cI, 40, .inl fNS)), ((ma 10), .inl (cB, 8000, .inl fT)), ((ma 11), .inl (cI, 40, .inl fTS))]) hD hS hA [0, 1, 2, 3, 4, 5] rfl
  have hkc : 0 ≤ 0 := by decide
  have hks : 0 ≤ 0 := by decide
  refine va_calli (va_runV (C := "DiscMakerModel") (As := [.int 1, .int x, .int y]) (rest := [.int v5]) ⟨hx, hb, hml, hown, hts⟩ (m_partSize l D cB cI cJ cZ cN cF H.size h0 ma sv_thrown sv_length sv_nodes sv_many sv_directories sv_runsFrom sv_runs sv_read sv_wrong sv_isNamed sv_goes sv_goesSize sv_goesAt sv_targetParts sv_isRoot G_2 fK fNS fT fTS 1 x y (by (try dsimp only); first | assumption | omega | trivial) (by (try dsimp only); first | assumption | omega | trivial) (by (try dsimp only); first | assumption | omega | trivial) (by (try dsimp only); first | assumption | omega | trivial) (by (try dsimp only); first | assumption | omega | trivial)) (cwV 3 hts (lg_goodV k1715 k1717 k76 k125 kc_DiscMakerModel_partSize) rfl rfl rfl (by decide +kernel) ⟨Nat.le_of_ble_eq_true rfl, Nat.le_of_ble_eq_true rfl⟩) ⟨fun a U g mk q => by obtain ⟨q0, q1, qP, qK, qN, qD⟩ := q; exact ⟨q0, q1, qP, va_K.moved (u := U) (U := U.calling g mk a) (Vm.Alike.refl U.vm) qK, qN.calling, qD⟩, va_recv hK hP (ci := 11) (q0 := 0) rfl rfl, fun U hU hW => ⟨rfl, by rw [hU], by rw [hU]; exact hPc, va_K.moved hW.alike hK, NN.warm hW hN, hDc.weaken (fun _ _ _ _ => trivial)⟩⟩ rfl rfl hl.1 rfl (lv_room (Nat.le_of_ble_eq_true rfl)) d_DiscMakerModel_allParts_17 ⟨hkc, hks⟩) hS (fun q _ h => hFc q h) hFc (fun r6 u t H1 locs ht hvm hp_r6 hB hz1 hk1 hS => ?_)
  obtain ⟨G_7, rfl⟩ : ∃ z, z = u := ⟨_, rfl⟩
  obtain ⟨hP1, hD1⟩ := hB
  rw [ht] at hP1
  obtain ⟨hP, hD⟩ := va_join (wr := []) (w1 := [(h0, .inr (11, MO ma sv_thrown sv_length sv_nodes sv_many sv_directories sv_runsFrom sv_runs sv_read sv_wrong sv_isNamed sv_goes sv_goesSize sv_goesAt sv_targetParts sv_isRoot)), ((ma 16), .inl (cJ, 46080, .inr (.inl G_7))), ((ma 1), .inl (cI, 40, .inl fK)), ((ma 9), .inl (cI, 40, .inl fNS)), ((ma 10), .inl (cB, 8000, .inl fT)), ((ma 11), .inl (cI, 40, .inl fTS))]) hP hD [0, 1, 2, 3, 4, 5] [] rfl rfl (by decide +kernel) (by decide +kernel) hk1 hFc hP1 hD1
  clear hPc hDc hFc hP1 hD1 hk1 hz1 hkc hks
  generalize H1 = H at hP hS ⊢
  have hP : va_P D CL [(h0, .inr (11, MO ma sv_thrown sv_length sv_nodes sv_many sv_directories sv_runsFrom sv_runs sv_read sv_wrong sv_isNamed sv_goes sv_goesSize sv_goesAt sv_targetParts sv_isRoot)), ((ma 16), .inl (cJ, 46080, .inr (.inl G_7))), ((ma 1), .inl (cI, 40, .inl fK)), ((ma 9), .inl (cI, 40, .inl fNS)), ((ma 10), .inl (cB, 8000, .inl fT)), ((ma 11), .inl (cI, 40, .inl fTS))] H := hP
  have hD : va_D A [(h0, .inr (11, MO ma sv_thrown sv_length sv_nodes sv_many sv_directories sv_runsFrom sv_runs sv_read sv_wrong sv_isNamed sv_goes sv_goesSize sv_goesAt sv_targetParts sv_isRoot)), ((ma 16), .inl (cJ, 46080, .inr (.inl G_7))), ((ma 1), .inl (cI, 40, .inl fK)), ((ma 9), .inl (cI, 40, .inl fNS)), ((ma 10), .inl (cB, 8000, .inl fT)), ((ma 11), .inl (cI, 40, .inl fTS))] := hD
  try dsimp only at hp_r6
  obtain ⟨hv_8, hr_9⟩ := hp_r6
  try rw [L_1] at hv_8
  refine lv_iadd hx hb d_DiscMakerModel_allParts_20 ?_
  refine lv_topi (fun v10 e_v10 => ?_)
  have t_v10 : v10.toInt = v5.toInt + r6.toInt := by rw [e_v10]; exact i_add rfl rfl (by omega) (by omega)
  refine lv_istore_n hx hb d_DiscMakerModel_allParts_21 rfl hl (by decide) rfl (fun ls hl => ?_)
  have hl : lv_has ls 5 [(3, .int v10), (4, .int 1), (0, .ref h0), (1, .int x), (2, .int y)] := hl
  refine lv_iinc (v := 2) hx hb d_DiscMakerModel_allParts_22 hl (k := 1) rfl (by decide) (by decide +kernel) rfl (fun ls hl => ?_)
  have L_2 : (2 : Int32).toInt = 2 := by decide
  have hl : lv_has ls 5 [(4, .int 2), (3, .int v10), (0, .ref h0), (1, .int x), (2, .int y)] := hl
  refine lv_goto (tgt := 5) hx hb d_DiscMakerModel_allParts_25 (by decide) ?_
  refine lv_iload hx hb d_DiscMakerModel_allParts_5 (lv_at hl 0 rfl) ?_
  refine lv_iconst (v := 4) hx hb d_DiscMakerModel_allParts_7 (by decide) ?_
  refine lv_icmp_ge (tgt := 28) hx hb d_DiscMakerModel_allParts_8 (by decide) (fun h_9 => absurd h_9 (by decide)) (fun _ => ?_)
  refine lv_iload_n hx hb d_DiscMakerModel_allParts_11 rfl (lv_at hl 1 rfl) ?_
  refine lv_aload_n hx hb d_DiscMakerModel_allParts_12 rfl (lv_at hl 2 rfl) ?_
  refine lv_iload hx hb d_DiscMakerModel_allParts_13 (lv_at hl 0 rfl) ?_
  refine lv_iload_n hx hb d_DiscMakerModel_allParts_15 rfl (lv_at hl 3 rfl) ?_
  refine lv_iload_n hx hb d_DiscMakerModel_allParts_16 rfl (lv_at hl 4 rfl) ?_
  have hPc := hP.sub (ws' := [(h0, .inr (11, MO ma sv_thrown sv_length sv_nodes sv_many sv_directories sv_runsFrom sv_runs sv_read sv_wrong sv_isNamed sv_goes sv_goesSize sv_goesAt sv_targetParts sv_isRoot)), ((ma 16), .inl (cJ, 46080, .inr (.inl G_7))), ((ma 1), .inl (cI, 40, .inl fK)), ((ma 9), .inl (cI, 40, .inl fNS)), ((ma 10), .inl (cB, 8000, .inl fT)), ((ma 11), .inl (cI, 40, .inl fTS))]) [0, 1, 2, 3, 4, 5] rfl
  have hDc := hD.sub (ws' := [(h0, .inr (11, MO ma sv_thrown sv_length sv_nodes sv_many sv_directories sv_runsFrom sv_runs sv_read sv_wrong sv_isNamed sv_goes sv_goesSize sv_goesAt sv_targetParts sv_isRoot)), ((ma 16), .inl (cJ, 46080, .inr (.inl G_7))), ((ma 1), .inl (cI, 40, .inl fK)), ((ma 9), .inl (cI, 40, .inl fNS)), ((ma 10), .inl (cB, 8000, .inl fT)), ((ma 11), .inl (cI, 40, .inl fTS))]) [0, 1, 2, 3, 4, 5] (by decide +kernel) rfl
  have hFc := va_free (wc := [(h0, .inr (11, MO ma sv_thrown sv_length sv_nodes sv_many sv_directories sv_runsFrom sv_runs sv_read sv_wrong sv_isNamed sv_goes sv_goesSize sv_goesAt sv_targetParts sv_isRoot)), ((ma 16), .inl (cJ, 46080, .inr (.inl G_7))), ((ma 1), .inl (cI, 40, .inl fK)), ((ma 9), .inl (cI, 40, .inl fNS)), ((ma 10), .inl (cB, 8000, .inl fT)), ((ma 11), .inl (cI, 40, .inl fTS))]) hD hS hA [0, 1, 2, 3, 4, 5] rfl
  have hkc : 0 ≤ 0 := by decide
  have hks : 0 ≤ 0 := by decide
  refine va_calli (va_runV (C := "DiscMakerModel") (As := [.int 2, .int x, .int y]) (rest := [.int v10]) ⟨hx, hb, hml, hown, hts⟩ (m_partSize l D cB cI cJ cZ cN cF H.size h0 ma sv_thrown sv_length sv_nodes sv_many sv_directories sv_runsFrom sv_runs sv_read sv_wrong sv_isNamed sv_goes sv_goesSize sv_goesAt sv_targetParts sv_isRoot G_7 fK fNS fT fTS 2 x y (by (try dsimp only); first | assumption | omega | trivial) (by (try dsimp only); first | assumption | omega | trivial) (by (try dsimp only); first | assumption | omega | trivial) (by (try dsimp only); first | assumption | omega | trivial) (by (try dsimp only); first | assumption | omega | trivial)) (cwV 3 hts (lg_goodV k1715 k1717 k76 k125 kc_DiscMakerModel_partSize) rfl rfl rfl (by decide +kernel) ⟨Nat.le_of_ble_eq_true rfl, Nat.le_of_ble_eq_true rfl⟩) ⟨fun a U g mk q => by obtain ⟨q0, q1, qP, qK, qN, qD⟩ := q; exact ⟨q0, q1, qP, va_K.moved (u := U) (U := U.calling g mk a) (Vm.Alike.refl U.vm) qK, qN.calling, qD⟩, va_recv hK hP (ci := 11) (q0 := 0) rfl rfl, fun U hU hW => ⟨rfl, by rw [hU], by rw [hU]; exact hPc, va_K.moved hW.alike hK, NN.warm hW hN, hDc.weaken (fun _ _ _ _ => trivial)⟩⟩ rfl rfl hl.1 rfl (lv_room (Nat.le_of_ble_eq_true rfl)) d_DiscMakerModel_allParts_17 ⟨hkc, hks⟩) hS (fun q _ h => hFc q h) hFc (fun r11 u t H1 locs ht hvm hp_r11 hB hz1 hk1 hS => ?_)
  obtain ⟨G_12, rfl⟩ : ∃ z, z = u := ⟨_, rfl⟩
  obtain ⟨hP1, hD1⟩ := hB
  rw [ht] at hP1
  obtain ⟨hP, hD⟩ := va_join (wr := []) (w1 := [(h0, .inr (11, MO ma sv_thrown sv_length sv_nodes sv_many sv_directories sv_runsFrom sv_runs sv_read sv_wrong sv_isNamed sv_goes sv_goesSize sv_goesAt sv_targetParts sv_isRoot)), ((ma 16), .inl (cJ, 46080, .inr (.inl G_12))), ((ma 1), .inl (cI, 40, .inl fK)), ((ma 9), .inl (cI, 40, .inl fNS)), ((ma 10), .inl (cB, 8000, .inl fT)), ((ma 11), .inl (cI, 40, .inl fTS))]) hP hD [0, 1, 2, 3, 4, 5] [] rfl rfl (by decide +kernel) (by decide +kernel) hk1 hFc hP1 hD1
  clear hPc hDc hFc hP1 hD1 hk1 hz1 hkc hks
  generalize H1 = H at hP hS ⊢
  have hP : va_P D CL [(h0, .inr (11, MO ma sv_thrown sv_length sv_nodes sv_many sv_directories sv_runsFrom sv_runs sv_read sv_wrong sv_isNamed sv_goes sv_goesSize sv_goesAt sv_targetParts sv_isRoot)), ((ma 16), .inl (cJ, 46080, .inr (.inl G_12))), ((ma 1), .inl (cI, 40, .inl fK)), ((ma 9), .inl (cI, 40, .inl fNS)), ((ma 10), .inl (cB, 8000, .inl fT)), ((ma 11), .inl (cI, 40, .inl fTS))] H := hP
  have hD : va_D A [(h0, .inr (11, MO ma sv_thrown sv_length sv_nodes sv_many sv_directories sv_runsFrom sv_runs sv_read sv_wrong sv_isNamed sv_goes sv_goesSize sv_goesAt sv_targetParts sv_isRoot)), ((ma 16), .inl (cJ, 46080, .inr (.inl G_12))), ((ma 1), .inl (cI, 40, .inl fK)), ((ma 9), .inl (cI, 40, .inl fNS)), ((ma 10), .inl (cB, 8000, .inl fT)), ((ma 11), .inl (cI, 40, .inl fTS))] := hD
  try dsimp only at hp_r11
  obtain ⟨hv_13, hr_14⟩ := hp_r11
  try rw [L_2] at hv_13
  refine lv_iadd hx hb d_DiscMakerModel_allParts_20 ?_
  refine lv_topi (fun v15 e_v15 => ?_)
  have t_v15 : v15.toInt = v10.toInt + r11.toInt := by rw [e_v15]; exact i_add rfl rfl (by omega) (by omega)
  refine lv_istore_n hx hb d_DiscMakerModel_allParts_21 rfl hl (by decide) rfl (fun ls hl => ?_)
  have hl : lv_has ls 5 [(3, .int v15), (4, .int 2), (0, .ref h0), (1, .int x), (2, .int y)] := hl
  refine lv_iinc (v := 3) hx hb d_DiscMakerModel_allParts_22 hl (k := 1) rfl (by decide) (by decide +kernel) rfl (fun ls hl => ?_)
  have L_3 : (3 : Int32).toInt = 3 := by decide
  have hl : lv_has ls 5 [(4, .int 3), (3, .int v15), (0, .ref h0), (1, .int x), (2, .int y)] := hl
  refine lv_goto (tgt := 5) hx hb d_DiscMakerModel_allParts_25 (by decide) ?_
  refine lv_iload hx hb d_DiscMakerModel_allParts_5 (lv_at hl 0 rfl) ?_
  refine lv_iconst (v := 4) hx hb d_DiscMakerModel_allParts_7 (by decide) ?_
  refine lv_icmp_ge (tgt := 28) hx hb d_DiscMakerModel_allParts_8 (by decide) (fun h_9 => absurd h_9 (by decide)) (fun _ => ?_)
  refine lv_iload_n hx hb d_DiscMakerModel_allParts_11 rfl (lv_at hl 1 rfl) ?_
  refine lv_aload_n hx hb d_DiscMakerModel_allParts_12 rfl (lv_at hl 2 rfl) ?_
  refine lv_iload hx hb d_DiscMakerModel_allParts_13 (lv_at hl 0 rfl) ?_
  refine lv_iload_n hx hb d_DiscMakerModel_allParts_15 rfl (lv_at hl 3 rfl) ?_
  refine lv_iload_n hx hb d_DiscMakerModel_allParts_16 rfl (lv_at hl 4 rfl) ?_
  have hPc := hP.sub (ws' := [(h0, .inr (11, MO ma sv_thrown sv_length sv_nodes sv_many sv_directories sv_runsFrom sv_runs sv_read sv_wrong sv_isNamed sv_goes sv_goesSize sv_goesAt sv_targetParts sv_isRoot)), ((ma 16), .inl (cJ, 46080, .inr (.inl G_12))), ((ma 1), .inl (cI, 40, .inl fK)), ((ma 9), .inl (cI, 40, .inl fNS)), ((ma 10), .inl (cB, 8000, .inl fT)), ((ma 11), .inl (cI, 40, .inl fTS))]) [0, 1, 2, 3, 4, 5] rfl
  have hDc := hD.sub (ws' := [(h0, .inr (11, MO ma sv_thrown sv_length sv_nodes sv_many sv_directories sv_runsFrom sv_runs sv_read sv_wrong sv_isNamed sv_goes sv_goesSize sv_goesAt sv_targetParts sv_isRoot)), ((ma 16), .inl (cJ, 46080, .inr (.inl G_12))), ((ma 1), .inl (cI, 40, .inl fK)), ((ma 9), .inl (cI, 40, .inl fNS)), ((ma 10), .inl (cB, 8000, .inl fT)), ((ma 11), .inl (cI, 40, .inl fTS))]) [0, 1, 2, 3, 4, 5] (by decide +kernel) rfl
  have hFc := va_free (wc := [(h0, .inr (11, MO ma sv_thrown sv_length sv_nodes sv_many sv_directories sv_runsFrom sv_runs sv_read sv_wrong sv_isNamed sv_goes sv_goesSize sv_goesAt sv_targetParts sv_isRoot)), ((ma 16), .inl (cJ, 46080, .inr (.inl G_12))), ((ma 1), .inl (cI, 40, .inl fK)), ((ma 9), .inl (cI, 40, .inl fNS)), ((ma 10), .inl (cB, 8000, .inl fT)), ((ma 11), .inl (cI, 40, .inl fTS))]) hD hS hA [0, 1, 2, 3, 4, 5] rfl
  have hkc : 0 ≤ 0 := by decide
  have hks : 0 ≤ 0 := by decide
  refine va_calli (va_runV (C := "DiscMakerModel") (As := [.int 3, .int x, .int y]) (rest := [.int v15]) ⟨hx, hb, hml, hown, hts⟩ (m_partSize l D cB cI cJ cZ cN cF H.size h0 ma sv_thrown sv_length sv_nodes sv_many sv_directories sv_runsFrom sv_runs sv_read sv_wrong sv_isNamed sv_goes sv_goesSize sv_goesAt sv_targetParts sv_isRoot G_12 fK fNS fT fTS 3 x y (by (try dsimp only); first | assumption | omega | trivial) (by (try dsimp only); first | assumption | omega | trivial) (by (try dsimp only); first | assumption | omega | trivial) (by (try dsimp only); first | assumption | omega | trivial) (by (try dsimp only); first | assumption | omega | trivial)) (cwV 3 hts (lg_goodV k1715 k1717 k76 k125 kc_DiscMakerModel_partSize) rfl rfl rfl (by decide +kernel) ⟨Nat.le_of_ble_eq_true rfl, Nat.le_of_ble_eq_true rfl⟩) ⟨fun a U g mk q => by obtain ⟨q0, q1, qP, qK, qN, qD⟩ := q; exact ⟨q0, q1, qP, va_K.moved (u := U) (U := U.calling g mk a) (Vm.Alike.refl U.vm) qK, qN.calling, qD⟩, va_recv hK hP (ci := 11) (q0 := 0) rfl rfl, fun U hU hW => ⟨rfl, by rw [hU], by rw [hU]; exact hPc, va_K.moved hW.alike hK, NN.warm hW hN, hDc.weaken (fun _ _ _ _ => trivial)⟩⟩ rfl rfl hl.1 rfl (lv_room (Nat.le_of_ble_eq_true rfl)) d_DiscMakerModel_allParts_17 ⟨hkc, hks⟩) hS (fun q _ h => hFc q h) hFc (fun r16 u t H1 locs ht hvm hp_r16 hB hz1 hk1 hS => ?_)
  obtain ⟨G_17, rfl⟩ : ∃ z, z = u := ⟨_, rfl⟩
  obtain ⟨hP1, hD1⟩ := hB
  rw [ht] at hP1
  obtain ⟨hP, hD⟩ := va_join (wr := []) (w1 := [(h0, .inr (11, MO ma sv_thrown sv_length sv_nodes sv_many sv_directories sv_runsFrom sv_runs sv_read sv_wrong sv_isNamed sv_goes sv_goesSize sv_goesAt sv_targetParts sv_isRoot)), ((ma 16), .inl (cJ, 46080, .inr (.inl G_17))), ((ma 1), .inl (cI, 40, .inl fK)), ((ma 9), .inl (cI, 40, .inl fNS)), ((ma 10), .inl (cB, 8000, .inl fT)), ((ma 11), .inl (cI, 40, .inl fTS))]) hP hD [0, 1, 2, 3, 4, 5] [] rfl rfl (by decide +kernel) (by decide +kernel) hk1 hFc hP1 hD1
  clear hPc hDc hFc hP1 hD1 hk1 hz1 hkc hks
  generalize H1 = H at hP hS ⊢
  have hP : va_P D CL [(h0, .inr (11, MO ma sv_thrown sv_length sv_nodes sv_many sv_directories sv_runsFrom sv_runs sv_read sv_wrong sv_isNamed sv_goes sv_goesSize sv_goesAt sv_targetParts sv_isRoot)), ((ma 16), .inl (cJ, 46080, .inr (.inl G_17))), ((ma 1), .inl (cI, 40, .inl fK)), ((ma 9), .inl (cI, 40, .inl fNS)), ((ma 10), .inl (cB, 8000, .inl fT)), ((ma 11), .inl (cI, 40, .inl fTS))] H := hP
  have hD : va_D A [(h0, .inr (11, MO ma sv_thrown sv_length sv_nodes sv_many sv_directories sv_runsFrom sv_runs sv_read sv_wrong sv_isNamed sv_goes sv_goesSize sv_goesAt sv_targetParts sv_isRoot)), ((ma 16), .inl (cJ, 46080, .inr (.inl G_17))), ((ma 1), .inl (cI, 40, .inl fK)), ((ma 9), .inl (cI, 40, .inl fNS)), ((ma 10), .inl (cB, 8000, .inl fT)), ((ma 11), .inl (cI, 40, .inl fTS))] := hD
  try dsimp only at hp_r16
  obtain ⟨hv_18, hr_19⟩ := hp_r16
  try rw [L_3] at hv_18
  refine lv_iadd hx hb d_DiscMakerModel_allParts_20 ?_
  refine lv_topi (fun v20 e_v20 => ?_)
  have t_v20 : v20.toInt = v15.toInt + r16.toInt := by rw [e_v20]; exact i_add rfl rfl (by omega) (by omega)
  refine lv_istore_n hx hb d_DiscMakerModel_allParts_21 rfl hl (by decide) rfl (fun ls hl => ?_)
  have hl : lv_has ls 5 [(3, .int v20), (4, .int 3), (0, .ref h0), (1, .int x), (2, .int y)] := hl
  refine lv_iinc (v := 4) hx hb d_DiscMakerModel_allParts_22 hl (k := 1) rfl (by decide) (by decide +kernel) rfl (fun ls hl => ?_)
  have hl : lv_has ls 5 [(4, .int 4), (3, .int v20), (0, .ref h0), (1, .int x), (2, .int y)] := hl
  refine lv_goto (tgt := 5) hx hb d_DiscMakerModel_allParts_25 (by decide) ?_
  refine lv_iload hx hb d_DiscMakerModel_allParts_5 (lv_at hl 0 rfl) ?_
  refine lv_iconst (v := 4) hx hb d_DiscMakerModel_allParts_7 (by decide) ?_
  refine lv_icmp_ge (tgt := 28) hx hb d_DiscMakerModel_allParts_8 (by decide) (fun _ => ?_) (fun h_9 => absurd (by decide) h_9)
  refine lv_iload_n hx hb d_DiscMakerModel_allParts_28 rfl (lv_at hl 1 rfl) ?_
  have hP9 := hP.sub (ws' := [(h0, .inr (11, MO ma sv_thrown sv_length sv_nodes sv_many sv_directories sv_runsFrom sv_runs sv_read sv_wrong sv_isNamed sv_goes sv_goesSize sv_goesAt sv_targetParts sv_isRoot)), ((ma 16), .inl (cJ, 46080, .inr (.inl G_17))), ((ma 1), .inl (cI, 40, .inl fK)), ((ma 9), .inl (cI, 40, .inl fNS)), ((ma 10), .inl (cB, 8000, .inl fT)), ((ma 11), .inl (cI, 40, .inl fTS))]) [0, 1, 2, 3, 4, 5] rfl
  have hD9 := hD.sub (ws' := [(h0, .inr (11, MO ma sv_thrown sv_length sv_nodes sv_many sv_directories sv_runsFrom sv_runs sv_read sv_wrong sv_isNamed sv_goes sv_goesSize sv_goesAt sv_targetParts sv_isRoot)), ((ma 16), .inl (cJ, 46080, .inr (.inl G_17))), ((ma 1), .inl (cI, 40, .inl fK)), ((ma 9), .inl (cI, 40, .inl fNS)), ((ma 10), .inl (cB, 8000, .inl fT)), ((ma 11), .inl (cI, 40, .inl fTS))]) [0, 1, 2, 3, 4, 5] (by decide +kernel) rfl
  exact W.iret (v := v20) hx hb hr (fun t ht hW => ⟨⟨v20, G_17, rfl, ⟨(by (try dsimp only); first | assumption | omega | trivial), (by (try dsimp only); first | assumption | omega | trivial)⟩, by rw [ht]; exact hP9, hD9⟩, hS.F ht⟩) hS.2.2 d_DiscMakerModel_allParts_29
