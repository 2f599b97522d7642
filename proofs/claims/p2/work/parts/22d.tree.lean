theorem d_DiscMakerModel_link_0 : decode b_DiscMakerModel_link 0 = .ok (.aload_n 0, 1) := by decide +kernel
theorem d_DiscMakerModel_link_1 : decode b_DiscMakerModel_link 1 = .ok (.iconst 0, 1) := by decide +kernel
theorem d_DiscMakerModel_link_2 : decode b_DiscMakerModel_link 2 = .ok (.putfield 118, 3) := by decide +kernel
theorem d_DiscMakerModel_link_5 : decode b_DiscMakerModel_link 5 = .ok (.iconst 0, 1) := by decide +kernel
theorem d_DiscMakerModel_link_6 : decode b_DiscMakerModel_link 6 = .ok (.istore_n 2, 1) := by decide +kernel
theorem d_DiscMakerModel_link_7 : decode b_DiscMakerModel_link 7 = .ok (.iload_n 2, 1) := by decide +kernel
theorem d_DiscMakerModel_link_8 : decode b_DiscMakerModel_link 8 = .ok (.aload_n 0, 1) := by decide +kernel
theorem d_DiscMakerModel_link_9 : decode b_DiscMakerModel_link 9 = .ok (.getfield 121, 3) := by decide +kernel
theorem d_DiscMakerModel_link_12 : decode b_DiscMakerModel_link 12 = .ok (.if_icmp .ge 18, 3) := by decide +kernel
theorem d_DiscMakerModel_link_15 : decode b_DiscMakerModel_link 15 = .ok (.aload_n 0, 1) := by decide +kernel
theorem d_DiscMakerModel_link_16 : decode b_DiscMakerModel_link 16 = .ok (.getfield 7, 3) := by decide +kernel
theorem d_DiscMakerModel_link_19 : decode b_DiscMakerModel_link 19 = .ok (.iload_n 2, 1) := by decide +kernel
theorem d_DiscMakerModel_link_20 : decode b_DiscMakerModel_link 20 = .ok (.baload, 1) := by decide +kernel
theorem d_DiscMakerModel_link_21 : decode b_DiscMakerModel_link 21 = .ok (.ifCond .eq 9, 3) := by decide +kernel
theorem d_DiscMakerModel_link_24 : decode b_DiscMakerModel_link 24 = .ok (.iinc 2 1, 3) := by decide +kernel
theorem d_DiscMakerModel_link_27 : decode b_DiscMakerModel_link 27 = .ok (.goto (-20), 3) := by decide +kernel
theorem d_DiscMakerModel_link_30 : decode b_DiscMakerModel_link 30 = .ok (.aload_n 0, 1) := by decide +kernel
theorem d_DiscMakerModel_link_31 : decode b_DiscMakerModel_link 31 = .ok (.getfield 121, 3) := by decide +kernel
theorem d_DiscMakerModel_link_34 : decode b_DiscMakerModel_link 34 = .ok (.iload_n 2, 1) := by decide +kernel
theorem d_DiscMakerModel_link_35 : decode b_DiscMakerModel_link 35 = .ok (.isub, 1) := by decide +kernel
theorem d_DiscMakerModel_link_36 : decode b_DiscMakerModel_link 36 = .ok (.iconst 1, 1) := by decide +kernel
theorem d_DiscMakerModel_link_37 : decode b_DiscMakerModel_link 37 = .ok (.isub, 1) := by decide +kernel
theorem d_DiscMakerModel_link_38 : decode b_DiscMakerModel_link 38 = .ok (.istore_n 3, 1) := by decide +kernel
theorem d_DiscMakerModel_link_39 : decode b_DiscMakerModel_link 39 = .ok (.iload_n 3, 1) := by decide +kernel
theorem d_DiscMakerModel_link_40 : decode b_DiscMakerModel_link 40 = .ok (.iconst 1, 1) := by decide +kernel
theorem d_DiscMakerModel_link_41 : decode b_DiscMakerModel_link 41 = .ok (.if_icmp .lt 14, 3) := by decide +kernel
theorem d_DiscMakerModel_link_44 : decode b_DiscMakerModel_link 44 = .ok (.iload_n 3, 1) := by decide +kernel
theorem d_DiscMakerModel_link_45 : decode b_DiscMakerModel_link 45 = .ok (.sipush 200, 3) := by decide +kernel
theorem d_DiscMakerModel_link_48 : decode b_DiscMakerModel_link 48 = .ok (.if_icmp .gt 7, 3) := by decide +kernel
theorem d_DiscMakerModel_link_51 : decode b_DiscMakerModel_link 51 = .ok (.iconst 1, 1) := by decide +kernel
theorem d_DiscMakerModel_link_52 : decode b_DiscMakerModel_link 52 = .ok (.goto 4, 3) := by decide +kernel
theorem d_DiscMakerModel_link_55 : decode b_DiscMakerModel_link 55 = .ok (.iconst 0, 1) := by decide +kernel
theorem d_DiscMakerModel_link_56 : decode b_DiscMakerModel_link 56 = .ok (.istore 4, 2) := by decide +kernel
theorem d_DiscMakerModel_link_58 : decode b_DiscMakerModel_link 58 = .ok (.iload_n 2, 1) := by decide +kernel
theorem d_DiscMakerModel_link_59 : decode b_DiscMakerModel_link 59 = .ok (.iconst 1, 1) := by decide +kernel
theorem d_DiscMakerModel_link_60 : decode b_DiscMakerModel_link 60 = .ok (.iadd, 1) := by decide +kernel
theorem d_DiscMakerModel_link_61 : decode b_DiscMakerModel_link 61 = .ok (.istore 5, 2) := by decide +kernel
theorem d_DiscMakerModel_link_63 : decode b_DiscMakerModel_link 63 = .ok (.iload 5, 2) := by decide +kernel
theorem d_DiscMakerModel_link_65 : decode b_DiscMakerModel_link 65 = .ok (.aload_n 0, 1) := by decide +kernel
theorem d_DiscMakerModel_link_66 : decode b_DiscMakerModel_link 66 = .ok (.getfield 121, 3) := by decide +kernel
theorem d_DiscMakerModel_link_69 : decode b_DiscMakerModel_link 69 = .ok (.if_icmp .ge 45, 3) := by decide +kernel
theorem d_DiscMakerModel_link_72 : decode b_DiscMakerModel_link 72 = .ok (.iload 4, 2) := by decide +kernel
theorem d_DiscMakerModel_link_74 : decode b_DiscMakerModel_link 74 = .ok (.ifCond .eq 40, 3) := by decide +kernel
theorem d_DiscMakerModel_link_77 : decode b_DiscMakerModel_link 77 = .ok (.aload_n 0, 1) := by decide +kernel
theorem d_DiscMakerModel_link_78 : decode b_DiscMakerModel_link 78 = .ok (.getfield 7, 3) := by decide +kernel
theorem d_DiscMakerModel_link_81 : decode b_DiscMakerModel_link 81 = .ok (.iload 5, 2) := by decide +kernel
theorem d_DiscMakerModel_link_83 : decode b_DiscMakerModel_link 83 = .ok (.baload, 1) := by decide +kernel
theorem d_DiscMakerModel_link_84 : decode b_DiscMakerModel_link 84 = .ok (.bipush 33, 2) := by decide +kernel
theorem d_DiscMakerModel_link_86 : decode b_DiscMakerModel_link 86 = .ok (.if_icmp .lt 19, 3) := by decide +kernel
theorem d_DiscMakerModel_link_89 : decode b_DiscMakerModel_link 89 = .ok (.aload_n 0, 1) := by decide +kernel
theorem d_DiscMakerModel_link_90 : decode b_DiscMakerModel_link 90 = .ok (.getfield 7, 3) := by decide +kernel
theorem d_DiscMakerModel_link_93 : decode b_DiscMakerModel_link 93 = .ok (.iload 5, 2) := by decide +kernel
theorem d_DiscMakerModel_link_95 : decode b_DiscMakerModel_link 95 = .ok (.baload, 1) := by decide +kernel
theorem d_DiscMakerModel_link_96 : decode b_DiscMakerModel_link 96 = .ok (.bipush 126, 2) := by decide +kernel
theorem d_DiscMakerModel_link_98 : decode b_DiscMakerModel_link 98 = .ok (.if_icmp .gt 7, 3) := by decide +kernel
theorem d_DiscMakerModel_link_101 : decode b_DiscMakerModel_link 101 = .ok (.iconst 1, 1) := by decide +kernel
theorem d_DiscMakerModel_link_102 : decode b_DiscMakerModel_link 102 = .ok (.goto 4, 3) := by decide +kernel
theorem d_DiscMakerModel_link_105 : decode b_DiscMakerModel_link 105 = .ok (.iconst 0, 1) := by decide +kernel
theorem d_DiscMakerModel_link_106 : decode b_DiscMakerModel_link 106 = .ok (.istore 4, 2) := by decide +kernel
theorem d_DiscMakerModel_link_108 : decode b_DiscMakerModel_link 108 = .ok (.iinc 5 1, 3) := by decide +kernel
theorem d_DiscMakerModel_link_111 : decode b_DiscMakerModel_link 111 = .ok (.goto (-48), 3) := by decide +kernel
theorem d_DiscMakerModel_link_114 : decode b_DiscMakerModel_link 114 = .ok (.aload_n 0, 1) := by decide +kernel
theorem d_DiscMakerModel_link_115 : decode b_DiscMakerModel_link 115 = .ok (.iload_n 1, 1) := by decide +kernel
theorem d_DiscMakerModel_link_116 : decode b_DiscMakerModel_link 116 = .ok (.iconst 2, 1) := by decide +kernel
theorem d_DiscMakerModel_link_117 : decode b_DiscMakerModel_link 117 = .ok (.iload_n 2, 1) := by decide +kernel
theorem d_DiscMakerModel_link_118 : decode b_DiscMakerModel_link 118 = .ok (.iload 4, 2) := by decide +kernel
theorem d_DiscMakerModel_link_120 : decode b_DiscMakerModel_link 120 = .ok (.ifCond .eq 21, 3) := by decide +kernel
theorem d_DiscMakerModel_link_123 : decode b_DiscMakerModel_link 123 = .ok (.aload_n 0, 1) := by decide +kernel
theorem d_DiscMakerModel_link_124 : decode b_DiscMakerModel_link 124 = .ok (.iload_n 3, 1) := by decide +kernel
theorem d_DiscMakerModel_link_125 : decode b_DiscMakerModel_link 125 = .ok (.iload_n 2, 1) := by decide +kernel
theorem d_DiscMakerModel_link_126 : decode b_DiscMakerModel_link 126 = .ok (.iconst 1, 1) := by decide +kernel
theorem d_DiscMakerModel_link_127 : decode b_DiscMakerModel_link 127 = .ok (.iadd, 1) := by decide +kernel
theorem d_DiscMakerModel_link_128 : decode b_DiscMakerModel_link 128 = .ok (.invokevirtual 160, 3) := by decide +kernel
theorem d_DiscMakerModel_link_131 : decode b_DiscMakerModel_link 131 = .ok (.sipush 245, 3) := by decide +kernel
theorem d_DiscMakerModel_link_134 : decode b_DiscMakerModel_link 134 = .ok (.if_icmp .gt 7, 3) := by decide +kernel
theorem d_DiscMakerModel_link_137 : decode b_DiscMakerModel_link 137 = .ok (.iconst 1, 1) := by decide +kernel
theorem d_DiscMakerModel_link_138 : decode b_DiscMakerModel_link 138 = .ok (.goto 4, 3) := by decide +kernel
theorem d_DiscMakerModel_link_141 : decode b_DiscMakerModel_link 141 = .ok (.iconst 0, 1) := by decide +kernel
theorem d_DiscMakerModel_link_142 : decode b_DiscMakerModel_link 142 = .ok (.invokevirtual 156, 3) := by decide +kernel
theorem d_DiscMakerModel_link_145 : decode b_DiscMakerModel_link 145 = .ok (.istore 5, 2) := by decide +kernel
theorem d_DiscMakerModel_link_147 : decode b_DiscMakerModel_link 147 = .ok (.iload 5, 2) := by decide +kernel
theorem d_DiscMakerModel_link_149 : decode b_DiscMakerModel_link 149 = .ok (.ifCond .lt 13, 3) := by decide +kernel
theorem d_DiscMakerModel_link_152 : decode b_DiscMakerModel_link 152 = .ok (.aload_n 0, 1) := by decide +kernel
theorem d_DiscMakerModel_link_153 : decode b_DiscMakerModel_link 153 = .ok (.getfield 20, 3) := by decide +kernel
theorem d_DiscMakerModel_link_156 : decode b_DiscMakerModel_link 156 = .ok (.iload 5, 2) := by decide +kernel
theorem d_DiscMakerModel_link_158 : decode b_DiscMakerModel_link 158 = .ok (.sipush 511, 3) := by decide +kernel
theorem d_DiscMakerModel_link_161 : decode b_DiscMakerModel_link 161 = .ok (.iastore, 1) := by decide +kernel
theorem d_DiscMakerModel_link_162 : decode b_DiscMakerModel_link 162 = .ok (.iload 5, 2) := by decide +kernel
theorem d_DiscMakerModel_link_164 : decode b_DiscMakerModel_link 164 = .ok (.ireturn, 1) := by decide +kernel
set_option maxHeartbeats 4000000 in
set_option maxRecDepth 100000 in
theorem m_link (l : Launch) (D : va_G) (cB cI cJ cZ cN cF : ClassId) (sz : Nat) (h0 : Nat) (ma : Nat → Nat) (sv_thrown sv_length sv_nodes sv_many sv_directories sv_runsFrom sv_runs sv_read sv_wrong sv_isNamed sv_goes sv_goesSize sv_goesAt sv_targetParts sv_isRoot : Int32) (fX : Nat → Int32) (fK : Nat → Int32) (fP : Nat → Int32) (fO : Nat → Int32) (fG : Nat → Int32) (fSz : Nat → Int32) (fSd : Nat → Int32) (fN : Nat → Int32) (fNS : Nat → Int32) (fT : Nat → Int32) (fTS : Nat → Int32) (fM : Nat → Int32) (x : Int32) (hln : 0 ≤ sv_length.toInt ∧ sv_length.toInt ≤ 400) (hT : TI sv_nodes.toInt fK fP fNS fSz fTS) (hU : TU sv_nodes.toInt fP fN fNS) : Met l y_DiscMakerModel_link w_DiscMakerModel_link ({ frames := 3, cells := 0, slots := 0, locals := 74 }) (va_Pc [.ref h0, .int x] (fun U => U.heap.size = sz ∧ va_P D CL [(h0, .inr (11, MO ma sv_thrown sv_length sv_nodes sv_many sv_directories sv_runsFrom sv_runs sv_read sv_wrong sv_isNamed sv_goes sv_goesSize sv_goesAt sv_targetParts sv_isRoot)), ((ma 0), .inl (cB, 400, .inl fX)), ((ma 1), .inl (cI, 40, .inl fK)), ((ma 2), .inl (cI, 40, .inl fP)), ((ma 4), .inl (cI, 40, .inl fO)), ((ma 5), .inl (cI, 40, .inl fG)), ((ma 6), .inl (cI, 40, .inl fSz)), ((ma 7), .inl (cI, 40, .inl fSd)), ((ma 8), .inl (cB, 1200, .inl fN)), ((ma 9), .inl (cI, 40, .inl fNS)), ((ma 10), .inl (cB, 8000, .inl fT)), ((ma 11), .inl (cI, 40, .inl fTS)), ((ma 3), .inl (cI, 40, .inl fM))] U.heap ∧ va_K D CL (TY cB cI cJ cZ cN cF) U ∧ NN U ∧ va_D (fun _ => True) [(h0, .inr (11, MO ma sv_thrown sv_length sv_nodes sv_many sv_directories sv_runsFrom sv_runs sv_read sv_wrong sv_isNamed sv_goes sv_goesSize sv_goesAt sv_targetParts sv_isRoot)), ((ma 0), .inl (cB, 400, .inl fX)), ((ma 1), .inl (cI, 40, .inl fK)), ((ma 2), .inl (cI, 40, .inl fP)), ((ma 4), .inl (cI, 40, .inl fO)), ((ma 5), .inl (cI, 40, .inl fG)), ((ma 6), .inl (cI, 40, .inl fSz)), ((ma 7), .inl (cI, 40, .inl fSd)), ((ma 8), .inl (cB, 1200, .inl fN)), ((ma 9), .inl (cI, 40, .inl fNS)), ((ma 10), .inl (cB, 8000, .inl fT)), ((ma 11), .inl (cI, 40, .inl fTS)), ((ma 3), .inl (cI, 40, .inl fM))])) (va_Qi (fun (r : Int32) (u : Int32 × Int32 × (Nat → Int32) × (Nat → Int32) × (Nat → Int32) × (Nat → Int32) × (Nat → Int32) × (Nat → Int32) × (Nat → Int32) × (Nat → Int32) × (Nat → Int32) × (Nat → Int32) × (Nat → Int32)) => match u with | (th, nd, gK, gP, gO, gG, gSz, gSd, gN, gNS, gT, gTS, gM) => (TI nd.toInt gK gP gNS gSz gTS) ∧ (TU nd.toInt gP gN gNS)) (fun (u : Int32 × Int32 × (Nat → Int32) × (Nat → Int32) × (Nat → Int32) × (Nat → Int32) × (Nat → Int32) × (Nat → Int32) × (Nat → Int32) × (Nat → Int32) × (Nat → Int32) × (Nat → Int32) × (Nat → Int32)) (t : State) => match u with | (th, nd, gK, gP, gO, gG, gSz, gSd, gN, gNS, gT, gTS, gM) => va_P D CL [(h0, .inr (11, MO ma th 0 nd sv_many sv_directories sv_runsFrom sv_runs sv_read sv_wrong sv_isNamed sv_goes sv_goesSize sv_goesAt sv_targetParts sv_isRoot)), ((ma 0), .inl (cB, 400, .inl fX)), ((ma 1), .inl (cI, 40, .inl gK)), ((ma 2), .inl (cI, 40, .inl gP)), ((ma 4), .inl (cI, 40, .inl gO)), ((ma 5), .inl (cI, 40, .inl gG)), ((ma 6), .inl (cI, 40, .inl gSz)), ((ma 7), .inl (cI, 40, .inl gSd)), ((ma 8), .inl (cB, 1200, .inl gN)), ((ma 9), .inl (cI, 40, .inl gNS)), ((ma 10), .inl (cB, 8000, .inl gT)), ((ma 11), .inl (cI, 40, .inl gTS)), ((ma 3), .inl (cI, 40, .inl gM))] t.heap ∧ va_D (va_A [(h0, .inr (11, MO ma sv_thrown sv_length sv_nodes sv_many sv_directories sv_runsFrom sv_runs sv_read sv_wrong sv_isNamed sv_goes sv_goesSize sv_goesAt sv_targetParts sv_isRoot)), ((ma 0), .inl (cB, 400, .inl fX)), ((ma 1), .inl (cI, 40, .inl fK)), ((ma 2), .inl (cI, 40, .inl fP)), ((ma 4), .inl (cI, 40, .inl fO)), ((ma 5), .inl (cI, 40, .inl fG)), ((ma 6), .inl (cI, 40, .inl fSz)), ((ma 7), .inl (cI, 40, .inl fSd)), ((ma 8), .inl (cB, 1200, .inl fN)), ((ma 9), .inl (cI, 40, .inl fNS)), ((ma 10), .inl (cB, 8000, .inl fT)), ((ma 11), .inl (cI, 40, .inl fTS)), ((ma 3), .inl (cI, 40, .inl fM))] sz) [(h0, .inr (11, MO ma th 0 nd sv_many sv_directories sv_runsFrom sv_runs sv_read sv_wrong sv_isNamed sv_goes sv_goesSize sv_goesAt sv_targetParts sv_isRoot)), ((ma 0), .inl (cB, 400, .inl fX)), ((ma 1), .inl (cI, 40, .inl gK)), ((ma 2), .inl (cI, 40, .inl gP)), ((ma 4), .inl (cI, 40, .inl gO)), ((ma 5), .inl (cI, 40, .inl gG)), ((ma 6), .inl (cI, 40, .inl gSz)), ((ma 7), .inl (cI, 40, .inl gSd)), ((ma 8), .inl (cB, 1200, .inl gN)), ((ma 9), .inl (cI, 40, .inl gNS)), ((ma 10), .inl (cB, 8000, .inl gT)), ((ma 11), .inl (cI, 40, .inl gTS)), ((ma 3), .inl (cI, 40, .inl gM))]) (va_A [(h0, .inr (11, MO ma sv_thrown sv_length sv_nodes sv_many sv_directories sv_runsFrom sv_runs sv_read sv_wrong sv_isNamed sv_goes sv_goesSize sv_goesAt sv_targetParts sv_isRoot)), ((ma 0), .inl (cB, 400, .inl fX)), ((ma 1), .inl (cI, 40, .inl fK)), ((ma 2), .inl (cI, 40, .inl fP)), ((ma 4), .inl (cI, 40, .inl fO)), ((ma 5), .inl (cI, 40, .inl fG)), ((ma 6), .inl (cI, 40, .inl fSz)), ((ma 7), .inl (cI, 40, .inl fSd)), ((ma 8), .inl (cB, 1200, .inl fN)), ((ma 9), .inl (cI, 40, .inl fNS)), ((ma 10), .inl (cB, 8000, .inl fT)), ((ma 11), .inl (cI, 40, .inl fTS)), ((ma 3), .inl (cI, 40, .inl fM))] sz)) 0 0 (va_A [(h0, .inr (11, MO ma sv_thrown sv_length sv_nodes sv_many sv_directories sv_runsFrom sv_runs sv_read sv_wrong sv_isNamed sv_goes sv_goesSize sv_goesAt sv_targetParts sv_isRoot)), ((ma 0), .inl (cB, 400, .inl fX)), ((ma 1), .inl (cI, 40, .inl fK)), ((ma 2), .inl (cI, 40, .inl fP)), ((ma 4), .inl (cI, 40, .inl fO)), ((ma 5), .inl (cI, 40, .inl fG)), ((ma 6), .inl (cI, 40, .inl fSz)), ((ma 7), .inl (cI, 40, .inl fSd)), ((ma 8), .inl (cB, 1200, .inl fN)), ((ma 9), .inl (cI, 40, .inl fNS)), ((ma 10), .inl (cB, 8000, .inl fT)), ((ma 11), .inl (cI, 40, .inl fTS)), ((ma 3), .inl (cI, 40, .inl fM))] sz) := by
  refine Met.ofW (cc := b_DiscMakerModel_link) (maxL := 6) (ret := some .int) (by decide) rfl ?_
  intro p e s m args below meth c s₁ B hml hv
  obtain ⟨rfl, hsz, hP, hK, hN, hD0⟩ := hv
  have hx := B.exec
  have hb := B.bytes
  have hr := B.returns
  have hts := atoms_spec (ws := w_DiscMakerModel_link) B.pre
  have ht9 := fun (w : Cond) (h : w ∈ lw_g) => hts w (List.mem_cons_of_mem _ h)
  have hown : s.vm.findClass "DiscMakerModel" = some m.cls := findClass_of_methodNamed B.named
  have hlocks := B.notSynchronized
  subst hsz
  have hD := hD0.self (sz := s.heap.size)
  generalize hAe : va_A [(h0, .inr (11, MO ma sv_thrown sv_length sv_nodes sv_many sv_directories sv_runsFrom sv_runs sv_read sv_wrong sv_isNamed sv_goes sv_goesSize sv_goesAt sv_targetParts sv_isRoot)), ((ma 0), .inl (cB, 400, .inl fX)), ((ma 1), .inl (cI, 40, .inl fK)), ((ma 2), .inl (cI, 40, .inl fP)), ((ma 4), .inl (cI, 40, .inl fO)), ((ma 5), .inl (cI, 40, .inl fG)), ((ma 6), .inl (cI, 40, .inl fSz)), ((ma 7), .inl (cI, 40, .inl fSd)), ((ma 8), .inl (cB, 1200, .inl fN)), ((ma 9), .inl (cI, 40, .inl fNS)), ((ma 10), .inl (cB, 8000, .inl fT)), ((ma 11), .inl (cI, 40, .inl fTS)), ((ma 3), .inl (cI, 40, .inl fM))] s.heap.size = A at hD ⊢
  have hA : ∀ q : Nat, s.heap.size ≤ q → A q := fun q h => by rw [← hAe]; exact Or.inr h
  have hS : va_S A s.heap s.heap [] := va_S.rf
  have hP : va_P D CL [(h0, .inr (11, MO ma sv_thrown sv_length sv_nodes sv_many sv_directories sv_runsFrom sv_runs sv_read sv_wrong sv_isNamed sv_goes sv_goesSize sv_goesAt sv_targetParts sv_isRoot)), ((ma 0), .inl (cB, 400, .inl fX)), ((ma 1), .inl (cI, 40, .inl fK)), ((ma 2), .inl (cI, 40, .inl fP)), ((ma 4), .inl (cI, 40, .inl fO)), ((ma 5), .inl (cI, 40, .inl fG)), ((ma 6), .inl (cI, 40, .inl fSz)), ((ma 7), .inl (cI, 40, .inl fSd)), ((ma 8), .inl (cB, 1200, .inl fN)), ((ma 9), .inl (cI, 40, .inl fNS)), ((ma 10), .inl (cB, 8000, .inl fT)), ((ma 11), .inl (cI, 40, .inl fTS)), ((ma 3), .inl (cI, 40, .inl fM))] s.heap := hP
  have hl := lv_entry [.ref h0, .int x] (n := 6) (Nat.le_of_ble_eq_true rfl)
  rw [lg_entry_eq]
  generalize (lg_sl [.ref h0, .int x] ++ List.replicate (6 - (lg_sl [.ref h0, .int x]).length) Slot.unset).toArray = ls at hl ⊢
  have hl : lv_has ls 6 [(0, .ref h0), (1, .int x)] := hl
  have L_m1 : ((-1) : Int32).toInt = (-1) := by decide
  have L_0 : (0 : Int32).toInt = 0 := by decide
  have L_1 : (1 : Int32).toInt = 1 := by decide
  have L_2 : (2 : Int32).toInt = 2 := by decide
  have L_33 : (33 : Int32).toInt = 33 := by decide
  have L_126 : (126 : Int32).toInt = 126 := by decide
  have L_200 : (200 : Int32).toInt = 200 := by decide
  have L_245 : (245 : Int32).toInt = 245 := by decide
  have L_511 : (511 : Int32).toInt = 511 := by decide
  refine lv_aload_n hx hb d_DiscMakerModel_link_0 rfl (lv_at hl 0 rfl) ?_
  refine lv_iconst (v := 0) hx hb d_DiscMakerModel_link_1 (by decide) ?_
  refine va_put (D := D) (ci := 11) (v := .int 0) (ty := .int) (C := "DiscMakerModel") (T := F_DiscMakerModel) (N := 48) hx hb ht9 in_DiscMakerModel t_DiscMakerModel t_DiscMakerModel_ok n_DiscMakerModel hown hK hP hD hS 0 rfl rfl 0 (by decide) (ht9 _ k1431) (fun _ h9 => h9) rfl (by decide +kernel) rfl rfl (Nat.le_of_ble_eq_true rfl) d_DiscMakerModel_link_2 (fun H locs hP hD hS => ?_)
  have hP : va_P D CL [(h0, .inr (11, MO ma 0 sv_length sv_nodes sv_many sv_directories sv_runsFrom sv_runs sv_read sv_wrong sv_isNamed sv_goes sv_goesSize sv_goesAt sv_targetParts sv_isRoot)), ((ma 0), .inl (cB, 400, .inl fX)), ((ma 1), .inl (cI, 40, .inl fK)), ((ma 2), .inl (cI, 40, .inl fP)), ((ma 4), .inl (cI, 40, .inl fO)), ((ma 5), .inl (cI, 40, .inl fG)), ((ma 6), .inl (cI, 40, .inl fSz)), ((ma 7), .inl (cI, 40, .inl fSd)), ((ma 8), .inl (cB, 1200, .inl fN)), ((ma 9), .inl (cI, 40, .inl fNS)), ((ma 10), .inl (cB, 8000, .inl fT)), ((ma 11), .inl (cI, 40, .inl fTS)), ((ma 3), .inl (cI, 40, .inl fM))] H := hP
  have hD : va_D A [(h0, .inr (11, MO ma 0 sv_length sv_nodes sv_many sv_directories sv_runsFrom sv_runs sv_read sv_wrong sv_isNamed sv_goes sv_goesSize sv_goesAt sv_targetParts sv_isRoot)), ((ma 0), .inl (cB, 400, .inl fX)), ((ma 1), .inl (cI, 40, .inl fK)), ((ma 2), .inl (cI, 40, .inl fP)), ((ma 4), .inl (cI, 40, .inl fO)), ((ma 5), .inl (cI, 40, .inl fG)), ((ma 6), .inl (cI, 40, .inl fSz)), ((ma 7), .inl (cI, 40, .inl fSd)), ((ma 8), .inl (cB, 1200, .inl fN)), ((ma 9), .inl (cI, 40, .inl fNS)), ((ma 10), .inl (cB, 8000, .inl fT)), ((ma 11), .inl (cI, 40, .inl fTS)), ((ma 3), .inl (cI, 40, .inl fM))] := hD
  refine lv_iconst (v := 0) hx hb d_DiscMakerModel_link_5 (by decide) ?_
  refine lv_istore_n hx hb d_DiscMakerModel_link_6 rfl hl (by decide) rfl (fun ls hl => ?_)
  have hl : lv_has ls 6 [(2, .int 0), (0, .ref h0), (1, .int x)] := hl
  refine zz_lab (P := fun (lk : Nat) (H : Heap) (locs : List Loc) (ls : Array Slot) (stk : List Value) => ∃ (nn : Int32) , lk = (400 - nn.toInt).toNat ∧ stk = [] ∧ (0 ≤ nn.toInt ∧ nn.toInt ≤ sv_length.toInt) ∧ va_P D CL [(h0, .inr (11, MO ma 0 sv_length sv_nodes sv_many sv_directories sv_runsFrom sv_runs sv_read sv_wrong sv_isNamed sv_goes sv_goesSize sv_goesAt sv_targetParts sv_isRoot)), ((ma 0), .inl (cB, 400, .inl fX)), ((ma 1), .inl (cI, 40, .inl fK)), ((ma 2), .inl (cI, 40, .inl fP)), ((ma 4), .inl (cI, 40, .inl fO)), ((ma 5), .inl (cI, 40, .inl fG)), ((ma 6), .inl (cI, 40, .inl fSz)), ((ma 7), .inl (cI, 40, .inl fSd)), ((ma 8), .inl (cB, 1200, .inl fN)), ((ma 9), .inl (cI, 40, .inl fNS)), ((ma 10), .inl (cB, 8000, .inl fT)), ((ma 11), .inl (cI, 40, .inl fTS)), ((ma 3), .inl (cI, 40, .inl fM))] H ∧ va_D A [(h0, .inr (11, MO ma 0 sv_length sv_nodes sv_many sv_directories sv_runsFrom sv_runs sv_read sv_wrong sv_isNamed sv_goes sv_goesSize sv_goesAt sv_targetParts sv_isRoot)), ((ma 0), .inl (cB, 400, .inl fX)), ((ma 1), .inl (cI, 40, .inl fK)), ((ma 2), .inl (cI, 40, .inl fP)), ((ma 4), .inl (cI, 40, .inl fO)), ((ma 5), .inl (cI, 40, .inl fG)), ((ma 6), .inl (cI, 40, .inl fSz)), ((ma 7), .inl (cI, 40, .inl fSd)), ((ma 8), .inl (cB, 1200, .inl fN)), ((ma 9), .inl (cI, 40, .inl fNS)), ((ma 10), .inl (cB, 8000, .inl fT)), ((ma 11), .inl (cI, 40, .inl fTS)), ((ma 3), .inl (cI, 40, .inl fM))] ∧ va_S A s.heap H locs ∧ lv_has ls 6 [(0, .ref h0), (1, .int x), (2, .int nn)]) 7 ?_ ?_
  · skip
    intro lk ih7 H locs ls stk hI
    obtain ⟨nn, hm7, rfl, f1, hP, hD, hS, hl⟩ := hI
    refine lv_iload_n hx hb d_DiscMakerModel_link_7 rfl (lv_at hl 2 rfl) ?_
    refine lv_aload_n hx hb d_DiscMakerModel_link_8 rfl (lv_at hl 0 rfl) ?_
    refine va_get (D := D) (ci := 11) (v := .int sv_length) (C := "DiscMakerModel") (T := F_DiscMakerModel) (N := 48) hx hb ht9 in_DiscMakerModel hown hK hP 0 rfl rfl 2 (by decide) (ht9 _ k1433) (fun _ h9 => h9) rfl d_DiscMakerModel_link_9 ?_
    refine lv_icmp_ge (tgt := 30) hx hb d_DiscMakerModel_link_12 (by decide) (fun h_9 => ?_) (fun h_9 => ?_)
    · skip
      have g12_9 : sv_length.toInt ≤ nn.toInt := (i_le rfl rfl).mp h_9
      refine lv_aload_n hx hb d_DiscMakerModel_link_30 rfl (lv_at hl 0 rfl) ?_
      refine va_get (D := D) (ci := 11) (v := .int sv_length) (C := "DiscMakerModel") (T := F_DiscMakerModel) (N := 48) hx hb ht9 in_DiscMakerModel hown hK hP 0 rfl rfl 2 (by decide) (ht9 _ k1433) (fun _ h9 => h9) rfl d_DiscMakerModel_link_31 ?_
      refine lv_iload_n hx hb d_DiscMakerModel_link_34 rfl (lv_at hl 2 rfl) ?_
      refine lv_isub hx hb d_DiscMakerModel_link_35 ?_
      refine lv_topi (fun v1 e_v1 => ?_)
      have t_v1 : v1.toInt = sv_length.toInt - nn.toInt := by rw [e_v1]; exact i_sub rfl rfl (by omega) (by omega)
      refine lv_iconst (v := 1) hx hb d_DiscMakerModel_link_36 (by decide) ?_
      refine lv_isub hx hb d_DiscMakerModel_link_37 ?_
      refine lv_topi (fun v2 e_v2 => ?_)
      have t_v2 : v2.toInt = v1.toInt - 1 := by rw [e_v2]; exact i_sub rfl (by decide) (by omega) (by omega)
      refine lv_istore_n hx hb d_DiscMakerModel_link_38 rfl hl (by decide) rfl (fun ls hl => ?_)
      have hl : lv_has ls 6 [(3, .int v2), (0, .ref h0), (1, .int x), (2, .int nn)] := hl
      refine zz_lab (P := fun (lk : Nat) (H : Heap) (locs : List Loc) (ls : Array Slot) (stk : List Value) => ∃ (rg : Int32) , lk = 0 ∧ stk = [.int rg] ∧ (0 ≤ rg.toInt ∧ rg.toInt ≤ 1) ∧ (rg.toInt = 0 ∨ (1 ≤ sv_length.toInt - nn.toInt - 1 ∧ sv_length.toInt - nn.toInt - 1 ≤ 200)) ∧ va_P D CL [(h0, .inr (11, MO ma 0 sv_length sv_nodes sv_many sv_directories sv_runsFrom sv_runs sv_read sv_wrong sv_isNamed sv_goes sv_goesSize sv_goesAt sv_targetParts sv_isRoot)), ((ma 0), .inl (cB, 400, .inl fX)), ((ma 1), .inl (cI, 40, .inl fK)), ((ma 2), .inl (cI, 40, .inl fP)), ((ma 4), .inl (cI, 40, .inl fO)), ((ma 5), .inl (cI, 40, .inl fG)), ((ma 6), .inl (cI, 40, .inl fSz)), ((ma 7), .inl (cI, 40, .inl fSd)), ((ma 8), .inl (cB, 1200, .inl fN)), ((ma 9), .inl (cI, 40, .inl fNS)), ((ma 10), .inl (cB, 8000, .inl fT)), ((ma 11), .inl (cI, 40, .inl fTS)), ((ma 3), .inl (cI, 40, .inl fM))] H ∧ va_D A [(h0, .inr (11, MO ma 0 sv_length sv_nodes sv_many sv_directories sv_runsFrom sv_runs sv_read sv_wrong sv_isNamed sv_goes sv_goesSize sv_goesAt sv_targetParts sv_isRoot)), ((ma 0), .inl (cB, 400, .inl fX)), ((ma 1), .inl (cI, 40, .inl fK)), ((ma 2), .inl (cI, 40, .inl fP)), ((ma 4), .inl (cI, 40, .inl fO)), ((ma 5), .inl (cI, 40, .inl fG)), ((ma 6), .inl (cI, 40, .inl fSz)), ((ma 7), .inl (cI, 40, .inl fSd)), ((ma 8), .inl (cB, 1200, .inl fN)), ((ma 9), .inl (cI, 40, .inl fNS)), ((ma 10), .inl (cB, 8000, .inl fT)), ((ma 11), .inl (cI, 40, .inl fTS)), ((ma 3), .inl (cI, 40, .inl fM))] ∧ va_S A s.heap H locs ∧ lv_has ls 6 [(0, .ref h0), (1, .int x), (2, .int nn), (3, .int v2)]) 56 ?_ ?_
      · skip
        intro lk ih56 H locs ls stk hI
        obtain ⟨rg, hm56, rfl, f2, f3, hP, hD, hS, hl⟩ := hI
        refine lv_istore hx hb d_DiscMakerModel_link_56 hl (by decide) rfl (fun ls hl => ?_)
        have hl : lv_has ls 6 [(4, .int rg), (0, .ref h0), (1, .int x), (2, .int nn), (3, .int v2)] := hl
        refine lv_iload_n hx hb d_DiscMakerModel_link_58 rfl (lv_at hl 3 rfl) ?_
        refine lv_iconst (v := 1) hx hb d_DiscMakerModel_link_59 (by decide) ?_
        refine lv_iadd hx hb d_DiscMakerModel_link_60 ?_
        refine lv_topi (fun v3 e_v3 => ?_)
        have t_v3 : v3.toInt = nn.toInt + 1 := by rw [e_v3]; exact i_add rfl (by decide) (by omega) (by omega)
        refine lv_istore hx hb d_DiscMakerModel_link_61 hl (by decide) rfl (fun ls hl => ?_)
        have hl : lv_has ls 6 [(5, .int v3), (4, .int rg), (0, .ref h0), (1, .int x), (2, .int nn), (3, .int v2)] := hl
        refine zz_lab (P := fun (lk : Nat) (H : Heap) (locs : List Loc) (ls : Array Slot) (stk : List Value) => ∃ (rh : Int32) (kx : Int32) , lk = (401 - kx.toInt).toNat ∧ stk = [] ∧ (0 ≤ rh.toInt ∧ rh.toInt ≤ 1) ∧ (rh.toInt = 0 ∨ (1 ≤ sv_length.toInt - nn.toInt - 1 ∧ sv_length.toInt - nn.toInt - 1 ≤ 200)) ∧ (1 ≤ kx.toInt ∧ kx.toInt ≤ 401) ∧ va_P D CL [(h0, .inr (11, MO ma 0 sv_length sv_nodes sv_many sv_directories sv_runsFrom sv_runs sv_read sv_wrong sv_isNamed sv_goes sv_goesSize sv_goesAt sv_targetParts sv_isRoot)), ((ma 0), .inl (cB, 400, .inl fX)), ((ma 1), .inl (cI, 40, .inl fK)), ((ma 2), .inl (cI, 40, .inl fP)), ((ma 4), .inl (cI, 40, .inl fO)), ((ma 5), .inl (cI, 40, .inl fG)), ((ma 6), .inl (cI, 40, .inl fSz)), ((ma 7), .inl (cI, 40, .inl fSd)), ((ma 8), .inl (cB, 1200, .inl fN)), ((ma 9), .inl (cI, 40, .inl fNS)), ((ma 10), .inl (cB, 8000, .inl fT)), ((ma 11), .inl (cI, 40, .inl fTS)), ((ma 3), .inl (cI, 40, .inl fM))] H ∧ va_D A [(h0, .inr (11, MO ma 0 sv_length sv_nodes sv_many sv_directories sv_runsFrom sv_runs sv_read sv_wrong sv_isNamed sv_goes sv_goesSize sv_goesAt sv_targetParts sv_isRoot)), ((ma 0), .inl (cB, 400, .inl fX)), ((ma 1), .inl (cI, 40, .inl fK)), ((ma 2), .inl (cI, 40, .inl fP)), ((ma 4), .inl (cI, 40, .inl fO)), ((ma 5), .inl (cI, 40, .inl fG)), ((ma 6), .inl (cI, 40, .inl fSz)), ((ma 7), .inl (cI, 40, .inl fSd)), ((ma 8), .inl (cB, 1200, .inl fN)), ((ma 9), .inl (cI, 40, .inl fNS)), ((ma 10), .inl (cB, 8000, .inl fT)), ((ma 11), .inl (cI, 40, .inl fTS)), ((ma 3), .inl (cI, 40, .inl fM))] ∧ va_S A s.heap H locs ∧ lv_has ls 6 [(0, .ref h0), (1, .int x), (2, .int nn), (3, .int v2), (4, .int rh), (5, .int kx)]) 63 ?_ ?_
        · skip
          intro lk ih63 H locs ls stk hI
          obtain ⟨rh, kx, hm63, rfl, f4, f5, f6, hP, hD, hS, hl⟩ := hI
          refine lv_iload hx hb d_DiscMakerModel_link_63 (lv_at hl 5 rfl) ?_
          refine lv_aload_n hx hb d_DiscMakerModel_link_65 rfl (lv_at hl 0 rfl) ?_
          refine va_get (D := D) (ci := 11) (v := .int sv_length) (C := "DiscMakerModel") (T := F_DiscMakerModel) (N := 48) hx hb ht9 in_DiscMakerModel hown hK hP 0 rfl rfl 2 (by decide) (ht9 _ k1433) (fun _ h9 => h9) rfl d_DiscMakerModel_link_66 ?_
          refine lv_icmp_ge (tgt := 114) hx hb d_DiscMakerModel_link_69 (by decide) (fun h_9 => ?_) (fun h_9 => ?_)
          · skip
            have g69_25 : sv_length.toInt ≤ kx.toInt := (i_le rfl rfl).mp h_9
            refine lv_aload_n hx hb d_DiscMakerModel_link_114 rfl (lv_at hl 0 rfl) ?_
            refine lv_iload_n hx hb d_DiscMakerModel_link_115 rfl (lv_at hl 1 rfl) ?_
            refine lv_iconst (v := 2) hx hb d_DiscMakerModel_link_116 (by decide) ?_
            refine lv_iload_n hx hb d_DiscMakerModel_link_117 rfl (lv_at hl 2 rfl) ?_
            refine zz_lab (P := fun (lk : Nat) (H : Heap) (locs : List Loc) (ls : Array Slot) (stk : List Value) => ∃ (jf : Int32) , lk = 0 ∧ stk = [.int jf, .int nn, .int 2, .int x, .ref h0] ∧ (0 ≤ jf.toInt ∧ jf.toInt ≤ 1) ∧ (jf.toInt = 0 ∨ (1 ≤ sv_length.toInt - nn.toInt - 1 ∧ sv_length.toInt - nn.toInt - 1 ≤ 200)) ∧ va_P D CL [(h0, .inr (11, MO ma 0 sv_length sv_nodes sv_many sv_directories sv_runsFrom sv_runs sv_read sv_wrong sv_isNamed sv_goes sv_goesSize sv_goesAt sv_targetParts sv_isRoot)), ((ma 0), .inl (cB, 400, .inl fX)), ((ma 1), .inl (cI, 40, .inl fK)), ((ma 2), .inl (cI, 40, .inl fP)), ((ma 4), .inl (cI, 40, .inl fO)), ((ma 5), .inl (cI, 40, .inl fG)), ((ma 6), .inl (cI, 40, .inl fSz)), ((ma 7), .inl (cI, 40, .inl fSd)), ((ma 8), .inl (cB, 1200, .inl fN)), ((ma 9), .inl (cI, 40, .inl fNS)), ((ma 10), .inl (cB, 8000, .inl fT)), ((ma 11), .inl (cI, 40, .inl fTS)), ((ma 3), .inl (cI, 40, .inl fM))] H ∧ va_D A [(h0, .inr (11, MO ma 0 sv_length sv_nodes sv_many sv_directories sv_runsFrom sv_runs sv_read sv_wrong sv_isNamed sv_goes sv_goesSize sv_goesAt sv_targetParts sv_isRoot)), ((ma 0), .inl (cB, 400, .inl fX)), ((ma 1), .inl (cI, 40, .inl fK)), ((ma 2), .inl (cI, 40, .inl fP)), ((ma 4), .inl (cI, 40, .inl fO)), ((ma 5), .inl (cI, 40, .inl fG)), ((ma 6), .inl (cI, 40, .inl fSz)), ((ma 7), .inl (cI, 40, .inl fSd)), ((ma 8), .inl (cB, 1200, .inl fN)), ((ma 9), .inl (cI, 40, .inl fNS)), ((ma 10), .inl (cB, 8000, .inl fT)), ((ma 11), .inl (cI, 40, .inl fTS)), ((ma 3), .inl (cI, 40, .inl fM))] ∧ va_S A s.heap H locs ∧ lv_has ls 6 [(0, .ref h0), (1, .int x), (2, .int nn), (3, .int v2), (4, .int rh), (5, .int kx)]) 142 ?_ ?_
            · skip
              intro lk ih142 H locs ls stk hI
              obtain ⟨jf, hm142, rfl, fj, fk, hP, hD, hS, hl⟩ := hI
              have hPc := hP.sub (ws' := [(h0, .inr (11, MO ma 0 sv_length sv_nodes sv_many sv_directories sv_runsFrom sv_runs sv_read sv_wrong sv_isNamed sv_goes sv_goesSize sv_goesAt sv_targetParts sv_isRoot)), ((ma 0), .inl (cB, 400, .inl fX)), ((ma 1), .inl (cI, 40, .inl fK)), ((ma 2), .inl (cI, 40, .inl fP)), ((ma 4), .inl (cI, 40, .inl fO)), ((ma 5), .inl (cI, 40, .inl fG)), ((ma 6), .inl (cI, 40, .inl fSz)), ((ma 7), .inl (cI, 40, .inl fSd)), ((ma 8), .inl (cB, 1200, .inl fN)), ((ma 9), .inl (cI, 40, .inl fNS)), ((ma 10), .inl (cB, 8000, .inl fT)), ((ma 11), .inl (cI, 40, .inl fTS))]) [0, 1, 2, 3, 4, 5, 6, 7, 8, 9, 10, 11] rfl
              have hDc := hD.sub (ws' := [(h0, .inr (11, MO ma 0 sv_length sv_nodes sv_many sv_directories sv_runsFrom sv_runs sv_read sv_wrong sv_isNamed sv_goes sv_goesSize sv_goesAt sv_targetParts sv_isRoot)), ((ma 0), .inl (cB, 400, .inl fX)), ((ma 1), .inl (cI, 40, .inl fK)), ((ma 2), .inl (cI, 40, .inl fP)), ((ma 4), .inl (cI, 40, .inl fO)), ((ma 5), .inl (cI, 40, .inl fG)), ((ma 6), .inl (cI, 40, .inl fSz)), ((ma 7), .inl (cI, 40, .inl fSd)), ((ma 8), .inl (cB, 1200, .inl fN)), ((ma 9), .inl (cI, 40, .inl fNS)), ((ma 10), .inl (cB, 8000, .inl fT)), ((ma 11), .inl (cI, 40, .inl fTS))]) [0, 1, 2, 3, 4, 5, 6, 7, 8, 9, 10, 11] (by decide) rfl
              have hFc := va_free (wc := [(h0, .inr (11, MO ma 0 sv_length sv_nodes sv_many sv_directories sv_runsFrom sv_runs sv_read sv_wrong sv_isNamed sv_goes sv_goesSize sv_goesAt sv_targetParts sv_isRoot)), ((ma 0), .inl (cB, 400, .inl fX)), ((ma 1), .inl (cI, 40, .inl fK)), ((ma 2), .inl (cI, 40, .inl fP)), ((ma 4), .inl (cI, 40, .inl fO)), ((ma 5), .inl (cI, 40, .inl fG)), ((ma 6), .inl (cI, 40, .inl fSz)), ((ma 7), .inl (cI, 40, .inl fSd)), ((ma 8), .inl (cB, 1200, .inl fN)), ((ma 9), .inl (cI, 40, .inl fNS)), ((ma 10), .inl (cB, 8000, .inl fT)), ((ma 11), .inl (cI, 40, .inl fTS))]) hD hS hA [0, 1, 2, 3, 4, 5, 6, 7, 8, 9, 10, 11] rfl
              have hkc : 0 ≤ 0 := by decide
              have hks : 0 ≤ 0 := by decide
              refine va_calli (va_runV (C := "DiscMakerModel") (As := [.int x, .int 2, .int nn, .int jf]) (rest := []) ⟨hx, hb, hml, hown, hts⟩ (m_add l D cB cI cJ cZ cN cF H.size h0 ma 0 sv_length sv_nodes sv_many sv_directories sv_runsFrom sv_runs sv_read sv_wrong sv_isNamed sv_goes sv_goesSize sv_goesAt sv_targetParts sv_isRoot fX fK fP fO fG fSz fSd fN fNS fT fTS x 2 nn jf (by (try dsimp only); first | assumption | omega | trivial) (by (try dsimp only); first | assumption | omega | trivial) (by (try dsimp only); first | assumption | omega | trivial) (by (try dsimp only); first | assumption | omega | trivial) (by (try dsimp only); first | assumption | omega | trivial) (by (try dsimp only); first | assumption | omega | trivial)) (cwV 4 hts (lg_goodV k1594 k1596 k52 k125 kc_DiscMakerModel_add) rfl rfl rfl (by decide +kernel) ⟨Nat.le_of_ble_eq_true rfl, Nat.le_of_ble_eq_true rfl⟩) ⟨fun a U g mk q => by obtain ⟨q0, q1, qP, qK, qN, qD⟩ := q; exact ⟨q0, q1, qP, va_K.moved (u := U) (U := U.calling g mk a) (Vm.Alike.refl U.vm) qK, qN.calling, qD⟩, va_recv hK hP (ci := 11) (q0 := 0) rfl rfl, fun U hU hW => ⟨rfl, by rw [hU], by rw [hU]; exact hPc, va_K.moved hW.alike hK, NN.warm hW hN, hDc.weaken (fun _ _ _ _ => trivial)⟩⟩ rfl rfl hl.1 rfl (lv_room (Nat.le_of_ble_eq_true rfl)) d_DiscMakerModel_link_142 ⟨hkc, hks⟩) hS (fun q _ h => hFc q h) hFc (fun r4 u t H1 locs ht hvm hp_r4 hB hz1 hk1 hS => ?_)
              obtain ⟨nd_5, gK_6, gP_7, gO_8, gG_9, gSz_10, gSd_11, gN_12, gNS_13, gT_14, gTS_15⟩ := u
              obtain ⟨hP1, hD1⟩ := hB
              rw [ht] at hP1
              obtain ⟨hP, hD⟩ := va_join (wr := [((ma 3), .inl (cI, 40, .inl fM))]) (w1 := [(h0, .inr (11, MO ma 0 0 nd_5 sv_many sv_directories sv_runsFrom sv_runs sv_read sv_wrong sv_isNamed sv_goes sv_goesSize sv_goesAt sv_targetParts sv_isRoot)), ((ma 0), .inl (cB, 400, .inl fX)), ((ma 1), .inl (cI, 40, .inl gK_6)), ((ma 2), .inl (cI, 40, .inl gP_7)), ((ma 4), .inl (cI, 40, .inl gO_8)), ((ma 5), .inl (cI, 40, .inl gG_9)), ((ma 6), .inl (cI, 40, .inl gSz_10)), ((ma 7), .inl (cI, 40, .inl gSd_11)), ((ma 8), .inl (cB, 1200, .inl gN_12)), ((ma 9), .inl (cI, 40, .inl gNS_13)), ((ma 10), .inl (cB, 8000, .inl gT_14)), ((ma 11), .inl (cI, 40, .inl gTS_15))]) hP hD [0, 1, 2, 3, 4, 5, 6, 7, 8, 9, 10, 11] [12] rfl rfl (by decide) (by decide) hk1 hFc hP1 hD1
              clear hPc hDc hFc hP1 hD1 hk1 hz1
              generalize H1 = H at hP hS ⊢
              have hP : va_P D CL [((ma 3), .inl (cI, 40, .inl fM)), (h0, .inr (11, MO ma 0 0 nd_5 sv_many sv_directories sv_runsFrom sv_runs sv_read sv_wrong sv_isNamed sv_goes sv_goesSize sv_goesAt sv_targetParts sv_isRoot)), ((ma 0), .inl (cB, 400, .inl fX)), ((ma 1), .inl (cI, 40, .inl gK_6)), ((ma 2), .inl (cI, 40, .inl gP_7)), ((ma 4), .inl (cI, 40, .inl gO_8)), ((ma 5), .inl (cI, 40, .inl gG_9)), ((ma 6), .inl (cI, 40, .inl gSz_10)), ((ma 7), .inl (cI, 40, .inl gSd_11)), ((ma 8), .inl (cB, 1200, .inl gN_12)), ((ma 9), .inl (cI, 40, .inl gNS_13)), ((ma 10), .inl (cB, 8000, .inl gT_14)), ((ma 11), .inl (cI, 40, .inl gTS_15))] H := hP
              have hD : va_D A [((ma 3), .inl (cI, 40, .inl fM)), (h0, .inr (11, MO ma 0 0 nd_5 sv_many sv_directories sv_runsFrom sv_runs sv_read sv_wrong sv_isNamed sv_goes sv_goesSize sv_goesAt sv_targetParts sv_isRoot)), ((ma 0), .inl (cB, 400, .inl fX)), ((ma 1), .inl (cI, 40, .inl gK_6)), ((ma 2), .inl (cI, 40, .inl gP_7)), ((ma 4), .inl (cI, 40, .inl gO_8)), ((ma 5), .inl (cI, 40, .inl gG_9)), ((ma 6), .inl (cI, 40, .inl gSz_10)), ((ma 7), .inl (cI, 40, .inl gSd_11)), ((ma 8), .inl (cB, 1200, .inl gN_12)), ((ma 9), .inl (cI, 40, .inl gNS_13)), ((ma 10), .inl (cB, 8000, .inl gT_14)), ((ma 11), .inl (cI, 40, .inl gTS_15))] := hD
              try dsimp only at hp_r4
              obtain ⟨hr_16, hw9_17, hT_18, hU_19⟩ := hp_r4
              have hn9 := hT_18.n1
              refine lv_istore hx hb d_DiscMakerModel_link_145 hl (by decide) rfl (fun ls hl => ?_)
              have hl : lv_has ls 6 [(5, .int r4), (0, .ref h0), (1, .int x), (2, .int nn), (3, .int v2), (4, .int rh)] := hl
              refine lv_iload hx hb d_DiscMakerModel_link_147 (lv_at hl 0 rfl) ?_
              refine lv_if_lt (tgt := 162) hx hb d_DiscMakerModel_link_149 (by decide) (fun h_9 => ?_) (fun h_9 => ?_)
              · skip
                have g149_33 : r4.toInt < 0 := (i_lt rfl (by decide)).mp h_9
                refine lv_iload hx hb d_DiscMakerModel_link_162 (lv_at hl 0 rfl) ?_
                have hP9 := hP.sub (ws' := [(h0, .inr (11, MO ma 0 0 nd_5 sv_many sv_directories sv_runsFrom sv_runs sv_read sv_wrong sv_isNamed sv_goes sv_goesSize sv_goesAt sv_targetParts sv_isRoot)), ((ma 0), .inl (cB, 400, .inl fX)), ((ma 1), .inl (cI, 40, .inl gK_6)), ((ma 2), .inl (cI, 40, .inl gP_7)), ((ma 4), .inl (cI, 40, .inl gO_8)), ((ma 5), .inl (cI, 40, .inl gG_9)), ((ma 6), .inl (cI, 40, .inl gSz_10)), ((ma 7), .inl (cI, 40, .inl gSd_11)), ((ma 8), .inl (cB, 1200, .inl gN_12)), ((ma 9), .inl (cI, 40, .inl gNS_13)), ((ma 10), .inl (cB, 8000, .inl gT_14)), ((ma 11), .inl (cI, 40, .inl gTS_15)), ((ma 3), .inl (cI, 40, .inl fM))]) [1, 2, 3, 4, 5, 6, 7, 8, 9, 10, 11, 12, 0] rfl
                have hD9 := hD.sub (ws' := [(h0, .inr (11, MO ma 0 0 nd_5 sv_many sv_directories sv_runsFrom sv_runs sv_read sv_wrong sv_isNamed sv_goes sv_goesSize sv_goesAt sv_targetParts sv_isRoot)), ((ma 0), .inl (cB, 400, .inl fX)), ((ma 1), .inl (cI, 40, .inl gK_6)), ((ma 2), .inl (cI, 40, .inl gP_7)), ((ma 4), .inl (cI, 40, .inl gO_8)), ((ma 5), .inl (cI, 40, .inl gG_9)), ((ma 6), .inl (cI, 40, .inl gSz_10)), ((ma 7), .inl (cI, 40, .inl gSd_11)), ((ma 8), .inl (cB, 1200, .inl gN_12)), ((ma 9), .inl (cI, 40, .inl gNS_13)), ((ma 10), .inl (cB, 8000, .inl gT_14)), ((ma 11), .inl (cI, 40, .inl gTS_15)), ((ma 3), .inl (cI, 40, .inl fM))]) [1, 2, 3, 4, 5, 6, 7, 8, 9, 10, 11, 12, 0] (by decide) rfl
                exact W.iret (v := r4) hx hb hr (fun t ht hW => ⟨⟨r4, (0, nd_5, gK_6, gP_7, gO_8, gG_9, gSz_10, gSd_11, gN_12, gNS_13, gT_14, gTS_15, fM), rfl, ⟨hT_18, hU_19⟩, by rw [ht]; exact hP9, hD9⟩, hS.F ht⟩) hS.2.2 d_DiscMakerModel_link_164
              · skip
                have g149_33 : ¬ r4.toInt < 0 := fun h8 => h_9 ((i_lt rfl (by decide)).mpr h8)
                refine lv_aload_n hx hb d_DiscMakerModel_link_152 rfl (lv_at hl 1 rfl) ?_
                refine va_get (D := D) (ci := 11) (v := .ref (ma 3)) (C := "DiscMakerModel") (T := F_DiscMakerModel) (N := 48) hx hb ht9 in_DiscMakerModel hown hK hP 1 rfl rfl 6 (by decide) (ht9 _ k1437) (fun _ h9 => h9) rfl d_DiscMakerModel_link_153 ?_
                refine lv_iload hx hb d_DiscMakerModel_link_156 (lv_at hl 0 rfl) ?_
                refine lv_sipush (v := 511) hx hb d_DiscMakerModel_link_158 (by decide) ?_
                refine zq_iast hx hb hK hP hD hS 0 1 rfl rfl (vp_in_iff.mpr ⟨by omega, by omega⟩) d_DiscMakerModel_link_161 (fun f20 e_f20 H locs hP hD hS => ?_)
                have hP : va_P D CL [((ma 3), .inl (cI, 40, .inl f20)), (h0, .inr (11, MO ma 0 0 nd_5 sv_many sv_directories sv_runsFrom sv_runs sv_read sv_wrong sv_isNamed sv_goes sv_goesSize sv_goesAt sv_targetParts sv_isRoot)), ((ma 0), .inl (cB, 400, .inl fX)), ((ma 1), .inl (cI, 40, .inl gK_6)), ((ma 2), .inl (cI, 40, .inl gP_7)), ((ma 4), .inl (cI, 40, .inl gO_8)), ((ma 5), .inl (cI, 40, .inl gG_9)), ((ma 6), .inl (cI, 40, .inl gSz_10)), ((ma 7), .inl (cI, 40, .inl gSd_11)), ((ma 8), .inl (cB, 1200, .inl gN_12)), ((ma 9), .inl (cI, 40, .inl gNS_13)), ((ma 10), .inl (cB, 8000, .inl gT_14)), ((ma 11), .inl (cI, 40, .inl gTS_15))] H := hP
                have hD : va_D A [((ma 3), .inl (cI, 40, .inl f20)), (h0, .inr (11, MO ma 0 0 nd_5 sv_many sv_directories sv_runsFrom sv_runs sv_read sv_wrong sv_isNamed sv_goes sv_goesSize sv_goesAt sv_targetParts sv_isRoot)), ((ma 0), .inl (cB, 400, .inl fX)), ((ma 1), .inl (cI, 40, .inl gK_6)), ((ma 2), .inl (cI, 40, .inl gP_7)), ((ma 4), .inl (cI, 40, .inl gO_8)), ((ma 5), .inl (cI, 40, .inl gG_9)), ((ma 6), .inl (cI, 40, .inl gSz_10)), ((ma 7), .inl (cI, 40, .inl gSd_11)), ((ma 8), .inl (cB, 1200, .inl gN_12)), ((ma 9), .inl (cI, 40, .inl gNS_13)), ((ma 10), .inl (cB, 8000, .inl gT_14)), ((ma 11), .inl (cI, 40, .inl gTS_15))] := hD
                have s_f20 : f20 r4.toNatClampNeg = 511 := by rw [e_f20]; unfold upd; rw [if_pos (by first | rfl | decide)]
                refine lv_iload hx hb d_DiscMakerModel_link_162 (lv_at hl 0 rfl) ?_
                have hP9 := hP.sub (ws' := [(h0, .inr (11, MO ma 0 0 nd_5 sv_many sv_directories sv_runsFrom sv_runs sv_read sv_wrong sv_isNamed sv_goes sv_goesSize sv_goesAt sv_targetParts sv_isRoot)), ((ma 0), .inl (cB, 400, .inl fX)), ((ma 1), .inl (cI, 40, .inl gK_6)), ((ma 2), .inl (cI, 40, .inl gP_7)), ((ma 4), .inl (cI, 40, .inl gO_8)), ((ma 5), .inl (cI, 40, .inl gG_9)), ((ma 6), .inl (cI, 40, .inl gSz_10)), ((ma 7), .inl (cI, 40, .inl gSd_11)), ((ma 8), .inl (cB, 1200, .inl gN_12)), ((ma 9), .inl (cI, 40, .inl gNS_13)), ((ma 10), .inl (cB, 8000, .inl gT_14)), ((ma 11), .inl (cI, 40, .inl gTS_15)), ((ma 3), .inl (cI, 40, .inl f20))]) [1, 2, 3, 4, 5, 6, 7, 8, 9, 10, 11, 12, 0] rfl
                have hD9 := hD.sub (ws' := [(h0, .inr (11, MO ma 0 0 nd_5 sv_many sv_directories sv_runsFrom sv_runs sv_read sv_wrong sv_isNamed sv_goes sv_goesSize sv_goesAt sv_targetParts sv_isRoot)), ((ma 0), .inl (cB, 400, .inl fX)), ((ma 1), .inl (cI, 40, .inl gK_6)), ((ma 2), .inl (cI, 40, .inl gP_7)), ((ma 4), .inl (cI, 40, .inl gO_8)), ((ma 5), .inl (cI, 40, .inl gG_9)), ((ma 6), .inl (cI, 40, .inl gSz_10)), ((ma 7), .inl (cI, 40, .inl gSd_11)), ((ma 8), .inl (cB, 1200, .inl gN_12)), ((ma 9), .inl (cI, 40, .inl gNS_13)), ((ma 10), .inl (cB, 8000, .inl gT_14)), ((ma 11), .inl (cI, 40, .inl gTS_15)), ((ma 3), .inl (cI, 40, .inl f20))]) [1, 2, 3, 4, 5, 6, 7, 8, 9, 10, 11, 12, 0] (by decide) rfl
                exact W.iret (v := r4) hx hb hr (fun t ht hW => ⟨⟨r4, (0, nd_5, gK_6, gP_7, gO_8, gG_9, gSz_10, gSd_11, gN_12, gNS_13, gT_14, gTS_15, f20), rfl, ⟨hT_18, hU_19⟩, by rw [ht]; exact hP9, hD9⟩, hS.F ht⟩) hS.2.2 d_DiscMakerModel_link_164
            · skip
              intro kk142
              refine lv_iload hx hb d_DiscMakerModel_link_118 (lv_at hl 4 rfl) ?_
              refine lv_if_eq (tgt := 141) hx hb d_DiscMakerModel_link_120 (by decide) (fun h_9 => ?_) (fun h_9 => ?_)
              · skip
                have g120_44 : rh.toInt = 0 := (i_eq rfl (by decide)).mp h_9
                refine lv_iconst (v := 0) hx hb d_DiscMakerModel_link_141 (by decide) ?_
                have hP := hP.sub (ws' := [(h0, .inr (11, MO ma 0 sv_length sv_nodes sv_many sv_directories sv_runsFrom sv_runs sv_read sv_wrong sv_isNamed sv_goes sv_goesSize sv_goesAt sv_targetParts sv_isRoot)), ((ma 0), .inl (cB, 400, .inl fX)), ((ma 1), .inl (cI, 40, .inl fK)), ((ma 2), .inl (cI, 40, .inl fP)), ((ma 4), .inl (cI, 40, .inl fO)), ((ma 5), .inl (cI, 40, .inl fG)), ((ma 6), .inl (cI, 40, .inl fSz)), ((ma 7), .inl (cI, 40, .inl fSd)), ((ma 8), .inl (cB, 1200, .inl fN)), ((ma 9), .inl (cI, 40, .inl fNS)), ((ma 10), .inl (cB, 8000, .inl fT)), ((ma 11), .inl (cI, 40, .inl fTS)), ((ma 3), .inl (cI, 40, .inl fM))]) [0, 1, 2, 3, 4, 5, 6, 7, 8, 9, 10, 11, 12] rfl
                have hD := hD.sub (ws' := [(h0, .inr (11, MO ma 0 sv_length sv_nodes sv_many sv_directories sv_runsFrom sv_runs sv_read sv_wrong sv_isNamed sv_goes sv_goesSize sv_goesAt sv_targetParts sv_isRoot)), ((ma 0), .inl (cB, 400, .inl fX)), ((ma 1), .inl (cI, 40, .inl fK)), ((ma 2), .inl (cI, 40, .inl fP)), ((ma 4), .inl (cI, 40, .inl fO)), ((ma 5), .inl (cI, 40, .inl fG)), ((ma 6), .inl (cI, 40, .inl fSz)), ((ma 7), .inl (cI, 40, .inl fSd)), ((ma 8), .inl (cB, 1200, .inl fN)), ((ma 9), .inl (cI, 40, .inl fNS)), ((ma 10), .inl (cB, 8000, .inl fT)), ((ma 11), .inl (cI, 40, .inl fTS)), ((ma 3), .inl (cI, 40, .inl fM))]) [0, 1, 2, 3, 4, 5, 6, 7, 8, 9, 10, 11, 12] (by decide) rfl
                have hl := lv_sub hl [0, 1, 2, 3, 4, 5] rfl
                exact kk142 _ _ _ _ _ ⟨0, rfl, rfl, (by (try dsimp only); first | assumption | omega | trivial), (by (try dsimp only); first | assumption | omega | trivial), hP, hD, hS, hl⟩
              · skip
                have g120_44 : ¬ rh.toInt = 0 := fun h8 => h_9 ((i_eq rfl (by decide)).mpr h8)
                refine lv_aload_n hx hb d_DiscMakerModel_link_123 rfl (lv_at hl 0 rfl) ?_
                refine lv_iload_n hx hb d_DiscMakerModel_link_124 rfl (lv_at hl 3 rfl) ?_
                refine lv_iload_n hx hb d_DiscMakerModel_link_125 rfl (lv_at hl 2 rfl) ?_
                refine lv_iconst (v := 1) hx hb d_DiscMakerModel_link_126 (by decide) ?_
                refine lv_iadd hx hb d_DiscMakerModel_link_127 ?_
                refine lv_topi (fun v21 e_v21 => ?_)
                have t_v21 : v21.toInt = nn.toInt + 1 := by rw [e_v21]; exact i_add rfl (by decide) (by omega) (by omega)
                have hPc := hP.sub (ws' := [(h0, .inr (11, MO ma 0 sv_length sv_nodes sv_many sv_directories sv_runsFrom sv_runs sv_read sv_wrong sv_isNamed sv_goes sv_goesSize sv_goesAt sv_targetParts sv_isRoot)), ((ma 0), .inl (cB, 400, .inl fX))]) [0, 1] rfl
                have hDc := hD.sub (ws' := [(h0, .inr (11, MO ma 0 sv_length sv_nodes sv_many sv_directories sv_runsFrom sv_runs sv_read sv_wrong sv_isNamed sv_goes sv_goesSize sv_goesAt sv_targetParts sv_isRoot)), ((ma 0), .inl (cB, 400, .inl fX))]) [0, 1] (by decide) rfl
                have hFc := va_free (wc := [(h0, .inr (11, MO ma 0 sv_length sv_nodes sv_many sv_directories sv_runsFrom sv_runs sv_read sv_wrong sv_isNamed sv_goes sv_goesSize sv_goesAt sv_targetParts sv_isRoot)), ((ma 0), .inl (cB, 400, .inl fX))]) hD hS hA [0, 1] rfl
                have hkc : 0 ≤ 0 := by decide
                have hks : 0 ≤ 0 := by decide
                refine va_calli (va_runV (C := "DiscMakerModel") (As := [.int v2, .int v21]) (rest := [.int nn, .int 2, .int x, .ref h0]) ⟨hx, hb, hml, hown, hts⟩ (m_componentsOf l D cB cI cJ cZ cN cF H.size h0 ma 0 sv_length sv_nodes sv_many sv_directories sv_runsFrom sv_runs sv_read sv_wrong sv_isNamed sv_goes sv_goesSize sv_goesAt sv_targetParts sv_isRoot fX v2 v21 (by (try dsimp only); first | assumption | omega | trivial) (by (try dsimp only); first | assumption | omega | trivial)) (cwV 2 hts (lg_goodV k1636 k1638 k59 k125 kc_DiscMakerModel_componentsOf) rfl rfl rfl (by decide +kernel) ⟨Nat.le_of_ble_eq_true rfl, Nat.le_of_ble_eq_true rfl⟩) ⟨fun a U g mk q => by obtain ⟨q0, q1, qP, qK, qN, qD⟩ := q; exact ⟨q0, q1, qP, va_K.moved (u := U) (U := U.calling g mk a) (Vm.Alike.refl U.vm) qK, qN.calling, qD⟩, va_recv hK hP (ci := 11) (q0 := 0) rfl rfl, fun U hU hW => ⟨rfl, by rw [hU], by rw [hU]; exact hPc, va_K.moved hW.alike hK, NN.warm hW hN, hDc.weaken (fun _ _ _ _ => trivial)⟩⟩ rfl rfl hl.1 rfl (lv_room (Nat.le_of_ble_eq_true rfl)) d_DiscMakerModel_link_128 ⟨hkc, hks⟩) hS (fun q _ h => hFc q h) hFc (fun r22 u t H1 locs ht hvm hp_r22 hB hz1 hk1 hS => ?_)
                obtain ⟨hP1, hD1⟩ := hB
                rw [ht] at hP1
                obtain ⟨hP, hD⟩ := va_join (wr := [((ma 1), .inl (cI, 40, .inl fK)), ((ma 2), .inl (cI, 40, .inl fP)), ((ma 4), .inl (cI, 40, .inl fO)), ((ma 5), .inl (cI, 40, .inl fG)), ((ma 6), .inl (cI, 40, .inl fSz)), ((ma 7), .inl (cI, 40, .inl fSd)), ((ma 8), .inl (cB, 1200, .inl fN)), ((ma 9), .inl (cI, 40, .inl fNS)), ((ma 10), .inl (cB, 8000, .inl fT)), ((ma 11), .inl (cI, 40, .inl fTS)), ((ma 3), .inl (cI, 40, .inl fM))]) (w1 := [(h0, .inr (11, MO ma 0 sv_length sv_nodes sv_many sv_directories sv_runsFrom sv_runs sv_read sv_wrong sv_isNamed sv_goes sv_goesSize sv_goesAt sv_targetParts sv_isRoot)), ((ma 0), .inl (cB, 400, .inl fX))]) hP hD [0, 1] [2, 3, 4, 5, 6, 7, 8, 9, 10, 11, 12] rfl rfl (by decide) (by decide) hk1 hFc hP1 hD1
                clear hPc hDc hFc hP1 hD1 hk1 hz1
                generalize H1 = H at hP hS ⊢
                have hP : va_P D CL [((ma 1), .inl (cI, 40, .inl fK)), ((ma 2), .inl (cI, 40, .inl fP)), ((ma 4), .inl (cI, 40, .inl fO)), ((ma 5), .inl (cI, 40, .inl fG)), ((ma 6), .inl (cI, 40, .inl fSz)), ((ma 7), .inl (cI, 40, .inl fSd)), ((ma 8), .inl (cB, 1200, .inl fN)), ((ma 9), .inl (cI, 40, .inl fNS)), ((ma 10), .inl (cB, 8000, .inl fT)), ((ma 11), .inl (cI, 40, .inl fTS)), ((ma 3), .inl (cI, 40, .inl fM)), (h0, .inr (11, MO ma 0 sv_length sv_nodes sv_many sv_directories sv_runsFrom sv_runs sv_read sv_wrong sv_isNamed sv_goes sv_goesSize sv_goesAt sv_targetParts sv_isRoot)), ((ma 0), .inl (cB, 400, .inl fX))] H := hP
                have hD : va_D A [((ma 1), .inl (cI, 40, .inl fK)), ((ma 2), .inl (cI, 40, .inl fP)), ((ma 4), .inl (cI, 40, .inl fO)), ((ma 5), .inl (cI, 40, .inl fG)), ((ma 6), .inl (cI, 40, .inl fSz)), ((ma 7), .inl (cI, 40, .inl fSd)), ((ma 8), .inl (cB, 1200, .inl fN)), ((ma 9), .inl (cI, 40, .inl fNS)), ((ma 10), .inl (cB, 8000, .inl fT)), ((ma 11), .inl (cI, 40, .inl fTS)), ((ma 3), .inl (cI, 40, .inl fM)), (h0, .inr (11, MO ma 0 sv_length sv_nodes sv_many sv_directories sv_runsFrom sv_runs sv_read sv_wrong sv_isNamed sv_goes sv_goesSize sv_goesAt sv_targetParts sv_isRoot)), ((ma 0), .inl (cB, 400, .inl fX))] := hD
                refine lv_sipush (v := 245) hx hb d_DiscMakerModel_link_131 (by decide) ?_
                refine lv_icmp_gt (tgt := 141) hx hb d_DiscMakerModel_link_134 (by decide) (fun h_9 => ?_) (fun h_9 => ?_)
                · skip
                  have g134_54 : 245 < r22.toInt := (i_lt (by decide) rfl).mp h_9
                  refine lv_iconst (v := 0) hx hb d_DiscMakerModel_link_141 (by decide) ?_
                  have hP := hP.sub (ws' := [(h0, .inr (11, MO ma 0 sv_length sv_nodes sv_many sv_directories sv_runsFrom sv_runs sv_read sv_wrong sv_isNamed sv_goes sv_goesSize sv_goesAt sv_targetParts sv_isRoot)), ((ma 0), .inl (cB, 400, .inl fX)), ((ma 1), .inl (cI, 40, .inl fK)), ((ma 2), .inl (cI, 40, .inl fP)), ((ma 4), .inl (cI, 40, .inl fO)), ((ma 5), .inl (cI, 40, .inl fG)), ((ma 6), .inl (cI, 40, .inl fSz)), ((ma 7), .inl (cI, 40, .inl fSd)), ((ma 8), .inl (cB, 1200, .inl fN)), ((ma 9), .inl (cI, 40, .inl fNS)), ((ma 10), .inl (cB, 8000, .inl fT)), ((ma 11), .inl (cI, 40, .inl fTS)), ((ma 3), .inl (cI, 40, .inl fM))]) [11, 12, 0, 1, 2, 3, 4, 5, 6, 7, 8, 9, 10] rfl
                  have hD := hD.sub (ws' := [(h0, .inr (11, MO ma 0 sv_length sv_nodes sv_many sv_directories sv_runsFrom sv_runs sv_read sv_wrong sv_isNamed sv_goes sv_goesSize sv_goesAt sv_targetParts sv_isRoot)), ((ma 0), .inl (cB, 400, .inl fX)), ((ma 1), .inl (cI, 40, .inl fK)), ((ma 2), .inl (cI, 40, .inl fP)), ((ma 4), .inl (cI, 40, .inl fO)), ((ma 5), .inl (cI, 40, .inl fG)), ((ma 6), .inl (cI, 40, .inl fSz)), ((ma 7), .inl (cI, 40, .inl fSd)), ((ma 8), .inl (cB, 1200, .inl fN)), ((ma 9), .inl (cI, 40, .inl fNS)), ((ma 10), .inl (cB, 8000, .inl fT)), ((ma 11), .inl (cI, 40, .inl fTS)), ((ma 3), .inl (cI, 40, .inl fM))]) [11, 12, 0, 1, 2, 3, 4, 5, 6, 7, 8, 9, 10] (by decide) rfl
                  have hl := lv_sub hl [0, 1, 2, 3, 4, 5] rfl
                  exact kk142 _ _ _ _ _ ⟨0, rfl, rfl, (by (try dsimp only); first | assumption | omega | trivial), (by (try dsimp only); first | assumption | omega | trivial), hP, hD, hS, hl⟩
                · skip
                  have g134_54 : ¬ 245 < r22.toInt := fun h8 => h_9 ((i_lt (by decide) rfl).mpr h8)
                  refine lv_iconst (v := 1) hx hb d_DiscMakerModel_link_137 (by decide) ?_
                  refine lv_goto (tgt := 142) hx hb d_DiscMakerModel_link_138 (by decide) ?_
                  have hP := hP.sub (ws' := [(h0, .inr (11, MO ma 0 sv_length sv_nodes sv_many sv_directories sv_runsFrom sv_runs sv_read sv_wrong sv_isNamed sv_goes sv_goesSize sv_goesAt sv_targetParts sv_isRoot)), ((ma 0), .inl (cB, 400, .inl fX)), ((ma 1), .inl (cI, 40, .inl fK)), ((ma 2), .inl (cI, 40, .inl fP)), ((ma 4), .inl (cI, 40, .inl fO)), ((ma 5), .inl (cI, 40, .inl fG)), ((ma 6), .inl (cI, 40, .inl fSz)), ((ma 7), .inl (cI, 40, .inl fSd)), ((ma 8), .inl (cB, 1200, .inl fN)), ((ma 9), .inl (cI, 40, .inl fNS)), ((ma 10), .inl (cB, 8000, .inl fT)), ((ma 11), .inl (cI, 40, .inl fTS)), ((ma 3), .inl (cI, 40, .inl fM))]) [11, 12, 0, 1, 2, 3, 4, 5, 6, 7, 8, 9, 10] rfl
                  have hD := hD.sub (ws' := [(h0, .inr (11, MO ma 0 sv_length sv_nodes sv_many sv_directories sv_runsFrom sv_runs sv_read sv_wrong sv_isNamed sv_goes sv_goesSize sv_goesAt sv_targetParts sv_isRoot)), ((ma 0), .inl (cB, 400, .inl fX)), ((ma 1), .inl (cI, 40, .inl fK)), ((ma 2), .inl (cI, 40, .inl fP)), ((ma 4), .inl (cI, 40, .inl fO)), ((ma 5), .inl (cI, 40, .inl fG)), ((ma 6), .inl (cI, 40, .inl fSz)), ((ma 7), .inl (cI, 40, .inl fSd)), ((ma 8), .inl (cB, 1200, .inl fN)), ((ma 9), .inl (cI, 40, .inl fNS)), ((ma 10), .inl (cB, 8000, .inl fT)), ((ma 11), .inl (cI, 40, .inl fTS)), ((ma 3), .inl (cI, 40, .inl fM))]) [11, 12, 0, 1, 2, 3, 4, 5, 6, 7, 8, 9, 10] (by decide) rfl
                  have hl := lv_sub hl [0, 1, 2, 3, 4, 5] rfl
                  exact kk142 _ _ _ _ _ ⟨1, rfl, rfl, (by (try dsimp only); first | assumption | omega | trivial), (by (try dsimp only); first | assumption | omega | trivial), hP, hD, hS, hl⟩
          · skip
            have g69_25 : ¬ sv_length.toInt ≤ kx.toInt := fun h8 => h_9 ((i_le rfl rfl).mpr h8)
            refine lv_iload hx hb d_DiscMakerModel_link_72 (lv_at hl 4 rfl) ?_
            refine lv_if_eq (tgt := 114) hx hb d_DiscMakerModel_link_74 (by decide) (fun h_9 => ?_) (fun h_9 => ?_)
            · skip
              have g74_61 : rh.toInt = 0 := (i_eq rfl (by decide)).mp h_9
              refine lv_aload_n hx hb d_DiscMakerModel_link_114 rfl (lv_at hl 0 rfl) ?_
              refine lv_iload_n hx hb d_DiscMakerModel_link_115 rfl (lv_at hl 1 rfl) ?_
              refine lv_iconst (v := 2) hx hb d_DiscMakerModel_link_116 (by decide) ?_
              refine lv_iload_n hx hb d_DiscMakerModel_link_117 rfl (lv_at hl 2 rfl) ?_
              refine zz_lab (P := fun (lk : Nat) (H : Heap) (locs : List Loc) (ls : Array Slot) (stk : List Value) => ∃ (jf : Int32) , lk = 0 ∧ stk = [.int jf, .int nn, .int 2, .int x, .ref h0] ∧ (0 ≤ jf.toInt ∧ jf.toInt ≤ 1) ∧ (jf.toInt = 0 ∨ (1 ≤ sv_length.toInt - nn.toInt - 1 ∧ sv_length.toInt - nn.toInt - 1 ≤ 200)) ∧ va_P D CL [(h0, .inr (11, MO ma 0 sv_length sv_nodes sv_many sv_directories sv_runsFrom sv_runs sv_read sv_wrong sv_isNamed sv_goes sv_goesSize sv_goesAt sv_targetParts sv_isRoot)), ((ma 0), .inl (cB, 400, .inl fX)), ((ma 1), .inl (cI, 40, .inl fK)), ((ma 2), .inl (cI, 40, .inl fP)), ((ma 4), .inl (cI, 40, .inl fO)), ((ma 5), .inl (cI, 40, .inl fG)), ((ma 6), .inl (cI, 40, .inl fSz)), ((ma 7), .inl (cI, 40, .inl fSd)), ((ma 8), .inl (cB, 1200, .inl fN)), ((ma 9), .inl (cI, 40, .inl fNS)), ((ma 10), .inl (cB, 8000, .inl fT)), ((ma 11), .inl (cI, 40, .inl fTS)), ((ma 3), .inl (cI, 40, .inl fM))] H ∧ va_D A [(h0, .inr (11, MO ma 0 sv_length sv_nodes sv_many sv_directories sv_runsFrom sv_runs sv_read sv_wrong sv_isNamed sv_goes sv_goesSize sv_goesAt sv_targetParts sv_isRoot)), ((ma 0), .inl (cB, 400, .inl fX)), ((ma 1), .inl (cI, 40, .inl fK)), ((ma 2), .inl (cI, 40, .inl fP)), ((ma 4), .inl (cI, 40, .inl fO)), ((ma 5), .inl (cI, 40, .inl fG)), ((ma 6), .inl (cI, 40, .inl fSz)), ((ma 7), .inl (cI, 40, .inl fSd)), ((ma 8), .inl (cB, 1200, .inl fN)), ((ma 9), .inl (cI, 40, .inl fNS)), ((ma 10), .inl (cB, 8000, .inl fT)), ((ma 11), .inl (cI, 40, .inl fTS)), ((ma 3), .inl (cI, 40, .inl fM))] ∧ va_S A s.heap H locs ∧ lv_has ls 6 [(0, .ref h0), (1, .int x), (2, .int nn), (3, .int v2), (4, .int rh), (5, .int kx)]) 142 ?_ ?_
              · skip
                intro lk ih142 H locs ls stk hI
                obtain ⟨jf, hm142, rfl, fj, fk, hP, hD, hS, hl⟩ := hI
                have hPc := hP.sub (ws' := [(h0, .inr (11, MO ma 0 sv_length sv_nodes sv_many sv_directories sv_runsFrom sv_runs sv_read sv_wrong sv_isNamed sv_goes sv_goesSize sv_goesAt sv_targetParts sv_isRoot)), ((ma 0), .inl (cB, 400, .inl fX)), ((ma 1), .inl (cI, 40, .inl fK)), ((ma 2), .inl (cI, 40, .inl fP)), ((ma 4), .inl (cI, 40, .inl fO)), ((ma 5), .inl (cI, 40, .inl fG)), ((ma 6), .inl (cI, 40, .inl fSz)), ((ma 7), .inl (cI, 40, .inl fSd)), ((ma 8), .inl (cB, 1200, .inl fN)), ((ma 9), .inl (cI, 40, .inl fNS)), ((ma 10), .inl (cB, 8000, .inl fT)), ((ma 11), .inl (cI, 40, .inl fTS))]) [0, 1, 2, 3, 4, 5, 6, 7, 8, 9, 10, 11] rfl
                have hDc := hD.sub (ws' := [(h0, .inr (11, MO ma 0 sv_length sv_nodes sv_many sv_directories sv_runsFrom sv_runs sv_read sv_wrong sv_isNamed sv_goes sv_goesSize sv_goesAt sv_targetParts sv_isRoot)), ((ma 0), .inl (cB, 400, .inl fX)), ((ma 1), .inl (cI, 40, .inl fK)), ((ma 2), .inl (cI, 40, .inl fP)), ((ma 4), .inl (cI, 40, .inl fO)), ((ma 5), .inl (cI, 40, .inl fG)), ((ma 6), .inl (cI, 40, .inl fSz)), ((ma 7), .inl (cI, 40, .inl fSd)), ((ma 8), .inl (cB, 1200, .inl fN)), ((ma 9), .inl (cI, 40, .inl fNS)), ((ma 10), .inl (cB, 8000, .inl fT)), ((ma 11), .inl (cI, 40, .inl fTS))]) [0, 1, 2, 3, 4, 5, 6, 7, 8, 9, 10, 11] (by decide) rfl
                have hFc := va_free (wc := [(h0, .inr (11, MO ma 0 sv_length sv_nodes sv_many sv_directories sv_runsFrom sv_runs sv_read sv_wrong sv_isNamed sv_goes sv_goesSize sv_goesAt sv_targetParts sv_isRoot)), ((ma 0), .inl (cB, 400, .inl fX)), ((ma 1), .inl (cI, 40, .inl fK)), ((ma 2), .inl (cI, 40, .inl fP)), ((ma 4), .inl (cI, 40, .inl fO)), ((ma 5), .inl (cI, 40, .inl fG)), ((ma 6), .inl (cI, 40, .inl fSz)), ((ma 7), .inl (cI, 40, .inl fSd)), ((ma 8), .inl (cB, 1200, .inl fN)), ((ma 9), .inl (cI, 40, .inl fNS)), ((ma 10), .inl (cB, 8000, .inl fT)), ((ma 11), .inl (cI, 40, .inl fTS))]) hD hS hA [0, 1, 2, 3, 4, 5, 6, 7, 8, 9, 10, 11] rfl
                have hkc : 0 ≤ 0 := by decide
                have hks : 0 ≤ 0 := by decide
                refine va_calli (va_runV (C := "DiscMakerModel") (As := [.int x, .int 2, .int nn, .int jf]) (rest := []) ⟨hx, hb, hml, hown, hts⟩ (m_add l D cB cI cJ cZ cN cF H.size h0 ma 0 sv_length sv_nodes sv_many sv_directories sv_runsFrom sv_runs sv_read sv_wrong sv_isNamed sv_goes sv_goesSize sv_goesAt sv_targetParts sv_isRoot fX fK fP fO fG fSz fSd fN fNS fT fTS x 2 nn jf (by (try dsimp only); first | assumption | omega | trivial) (by (try dsimp only); first | assumption | omega | trivial) (by (try dsimp only); first | assumption | omega | trivial) (by (try dsimp only); first | assumption | omega | trivial) (by (try dsimp only); first | assumption | omega | trivial) (by (try dsimp only); first | assumption | omega | trivial)) (cwV 4 hts (lg_goodV k1594 k1596 k52 k125 kc_DiscMakerModel_add) rfl rfl rfl (by decide +kernel) ⟨Nat.le_of_ble_eq_true rfl, Nat.le_of_ble_eq_true rfl⟩) ⟨fun a U g mk q => by obtain ⟨q0, q1, qP, qK, qN, qD⟩ := q; exact ⟨q0, q1, qP, va_K.moved (u := U) (U := U.calling g mk a) (Vm.Alike.refl U.vm) qK, qN.calling, qD⟩, va_recv hK hP (ci := 11) (q0 := 0) rfl rfl, fun U hU hW => ⟨rfl, by rw [hU], by rw [hU]; exact hPc, va_K.moved hW.alike hK, NN.warm hW hN, hDc.weaken (fun _ _ _ _ => trivial)⟩⟩ rfl rfl hl.1 rfl (lv_room (Nat.le_of_ble_eq_true rfl)) d_DiscMakerModel_link_142 ⟨hkc, hks⟩) hS (fun q _ h => hFc q h) hFc (fun r23 u t H1 locs ht hvm hp_r23 hB hz1 hk1 hS => ?_)
                obtain ⟨nd_24, gK_25, gP_26, gO_27, gG_28, gSz_29, gSd_30, gN_31, gNS_32, gT_33, gTS_34⟩ := u
                obtain ⟨hP1, hD1⟩ := hB
                rw [ht] at hP1
                obtain ⟨hP, hD⟩ := va_join (wr := [((ma 3), .inl (cI, 40, .inl fM))]) (w1 := [(h0, .inr (11, MO ma 0 0 nd_24 sv_many sv_directories sv_runsFrom sv_runs sv_read sv_wrong sv_isNamed sv_goes sv_goesSize sv_goesAt sv_targetParts sv_isRoot)), ((ma 0), .inl (cB, 400, .inl fX)), ((ma 1), .inl (cI, 40, .inl gK_25)), ((ma 2), .inl (cI, 40, .inl gP_26)), ((ma 4), .inl (cI, 40, .inl gO_27)), ((ma 5), .inl (cI, 40, .inl gG_28)), ((ma 6), .inl (cI, 40, .inl gSz_29)), ((ma 7), .inl (cI, 40, .inl gSd_30)), ((ma 8), .inl (cB, 1200, .inl gN_31)), ((ma 9), .inl (cI, 40, .inl gNS_32)), ((ma 10), .inl (cB, 8000, .inl gT_33)), ((ma 11), .inl (cI, 40, .inl gTS_34))]) hP hD [0, 1, 2, 3, 4, 5, 6, 7, 8, 9, 10, 11] [12] rfl rfl (by decide) (by decide) hk1 hFc hP1 hD1
                clear hPc hDc hFc hP1 hD1 hk1 hz1
                generalize H1 = H at hP hS ⊢
                have hP : va_P D CL [((ma 3), .inl (cI, 40, .inl fM)), (h0, .inr (11, MO ma 0 0 nd_24 sv_many sv_directories sv_runsFrom sv_runs sv_read sv_wrong sv_isNamed sv_goes sv_goesSize sv_goesAt sv_targetParts sv_isRoot)), ((ma 0), .inl (cB, 400, .inl fX)), ((ma 1), .inl (cI, 40, .inl gK_25)), ((ma 2), .inl (cI, 40, .inl gP_26)), ((ma 4), .inl (cI, 40, .inl gO_27)), ((ma 5), .inl (cI, 40, .inl gG_28)), ((ma 6), .inl (cI, 40, .inl gSz_29)), ((ma 7), .inl (cI, 40, .inl gSd_30)), ((ma 8), .inl (cB, 1200, .inl gN_31)), ((ma 9), .inl (cI, 40, .inl gNS_32)), ((ma 10), .inl (cB, 8000, .inl gT_33)), ((ma 11), .inl (cI, 40, .inl gTS_34))] H := hP
                have hD : va_D A [((ma 3), .inl (cI, 40, .inl fM)), (h0, .inr (11, MO ma 0 0 nd_24 sv_many sv_directories sv_runsFrom sv_runs sv_read sv_wrong sv_isNamed sv_goes sv_goesSize sv_goesAt sv_targetParts sv_isRoot)), ((ma 0), .inl (cB, 400, .inl fX)), ((ma 1), .inl (cI, 40, .inl gK_25)), ((ma 2), .inl (cI, 40, .inl gP_26)), ((ma 4), .inl (cI, 40, .inl gO_27)), ((ma 5), .inl (cI, 40, .inl gG_28)), ((ma 6), .inl (cI, 40, .inl gSz_29)), ((ma 7), .inl (cI, 40, .inl gSd_30)), ((ma 8), .inl (cB, 1200, .inl gN_31)), ((ma 9), .inl (cI, 40, .inl gNS_32)), ((ma 10), .inl (cB, 8000, .inl gT_33)), ((ma 11), .inl (cI, 40, .inl gTS_34))] := hD
                try dsimp only at hp_r23
                obtain ⟨hr_35, hw9_36, hT_37, hU_38⟩ := hp_r23
                have hn9 := hT_37.n1
                refine lv_istore hx hb d_DiscMakerModel_link_145 hl (by decide) rfl (fun ls hl => ?_)
                have hl : lv_has ls 6 [(5, .int r23), (0, .ref h0), (1, .int x), (2, .int nn), (3, .int v2), (4, .int rh)] := hl
                refine lv_iload hx hb d_DiscMakerModel_link_147 (lv_at hl 0 rfl) ?_
                refine lv_if_lt (tgt := 162) hx hb d_DiscMakerModel_link_149 (by decide) (fun h_9 => ?_) (fun h_9 => ?_)
                · skip
                  have g149_69 : r23.toInt < 0 := (i_lt rfl (by decide)).mp h_9
                  refine lv_iload hx hb d_DiscMakerModel_link_162 (lv_at hl 0 rfl) ?_
                  have hP9 := hP.sub (ws' := [(h0, .inr (11, MO ma 0 0 nd_24 sv_many sv_directories sv_runsFrom sv_runs sv_read sv_wrong sv_isNamed sv_goes sv_goesSize sv_goesAt sv_targetParts sv_isRoot)), ((ma 0), .inl (cB, 400, .inl fX)), ((ma 1), .inl (cI, 40, .inl gK_25)), ((ma 2), .inl (cI, 40, .inl gP_26)), ((ma 4), .inl (cI, 40, .inl gO_27)), ((ma 5), .inl (cI, 40, .inl gG_28)), ((ma 6), .inl (cI, 40, .inl gSz_29)), ((ma 7), .inl (cI, 40, .inl gSd_30)), ((ma 8), .inl (cB, 1200, .inl gN_31)), ((ma 9), .inl (cI, 40, .inl gNS_32)), ((ma 10), .inl (cB, 8000, .inl gT_33)), ((ma 11), .inl (cI, 40, .inl gTS_34)), ((ma 3), .inl (cI, 40, .inl fM))]) [1, 2, 3, 4, 5, 6, 7, 8, 9, 10, 11, 12, 0] rfl
                  have hD9 := hD.sub (ws' := [(h0, .inr (11, MO ma 0 0 nd_24 sv_many sv_directories sv_runsFrom sv_runs sv_read sv_wrong sv_isNamed sv_goes sv_goesSize sv_goesAt sv_targetParts sv_isRoot)), ((ma 0), .inl (cB, 400, .inl fX)), ((ma 1), .inl (cI, 40, .inl gK_25)), ((ma 2), .inl (cI, 40, .inl gP_26)), ((ma 4), .inl (cI, 40, .inl gO_27)), ((ma 5), .inl (cI, 40, .inl gG_28)), ((ma 6), .inl (cI, 40, .inl gSz_29)), ((ma 7), .inl (cI, 40, .inl gSd_30)), ((ma 8), .inl (cB, 1200, .inl gN_31)), ((ma 9), .inl (cI, 40, .inl gNS_32)), ((ma 10), .inl (cB, 8000, .inl gT_33)), ((ma 11), .inl (cI, 40, .inl gTS_34)), ((ma 3), .inl (cI, 40, .inl fM))]) [1, 2, 3, 4, 5, 6, 7, 8, 9, 10, 11, 12, 0] (by decide) rfl
                  exact W.iret (v := r23) hx hb hr (fun t ht hW => ⟨⟨r23, (0, nd_24, gK_25, gP_26, gO_27, gG_28, gSz_29, gSd_30, gN_31, gNS_32, gT_33, gTS_34, fM), rfl, ⟨hT_37, hU_38⟩, by rw [ht]; exact hP9, hD9⟩, hS.F ht⟩) hS.2.2 d_DiscMakerModel_link_164
                · skip
                  have g149_69 : ¬ r23.toInt < 0 := fun h8 => h_9 ((i_lt rfl (by decide)).mpr h8)
                  refine lv_aload_n hx hb d_DiscMakerModel_link_152 rfl (lv_at hl 1 rfl) ?_
                  refine va_get (D := D) (ci := 11) (v := .ref (ma 3)) (C := "DiscMakerModel") (T := F_DiscMakerModel) (N := 48) hx hb ht9 in_DiscMakerModel hown hK hP 1 rfl rfl 6 (by decide) (ht9 _ k1437) (fun _ h9 => h9) rfl d_DiscMakerModel_link_153 ?_
                  refine lv_iload hx hb d_DiscMakerModel_link_156 (lv_at hl 0 rfl) ?_
                  refine lv_sipush (v := 511) hx hb d_DiscMakerModel_link_158 (by decide) ?_
                  refine zq_iast hx hb hK hP hD hS 0 1 rfl rfl (vp_in_iff.mpr ⟨by omega, by omega⟩) d_DiscMakerModel_link_161 (fun f39 e_f39 H locs hP hD hS => ?_)
                  have hP : va_P D CL [((ma 3), .inl (cI, 40, .inl f39)), (h0, .inr (11, MO ma 0 0 nd_24 sv_many sv_directories sv_runsFrom sv_runs sv_read sv_wrong sv_isNamed sv_goes sv_goesSize sv_goesAt sv_targetParts sv_isRoot)), ((ma 0), .inl (cB, 400, .inl fX)), ((ma 1), .inl (cI, 40, .inl gK_25)), ((ma 2), .inl (cI, 40, .inl gP_26)), ((ma 4), .inl (cI, 40, .inl gO_27)), ((ma 5), .inl (cI, 40, .inl gG_28)), ((ma 6), .inl (cI, 40, .inl gSz_29)), ((ma 7), .inl (cI, 40, .inl gSd_30)), ((ma 8), .inl (cB, 1200, .inl gN_31)), ((ma 9), .inl (cI, 40, .inl gNS_32)), ((ma 10), .inl (cB, 8000, .inl gT_33)), ((ma 11), .inl (cI, 40, .inl gTS_34))] H := hP
                  have hD : va_D A [((ma 3), .inl (cI, 40, .inl f39)), (h0, .inr (11, MO ma 0 0 nd_24 sv_many sv_directories sv_runsFrom sv_runs sv_read sv_wrong sv_isNamed sv_goes sv_goesSize sv_goesAt sv_targetParts sv_isRoot)), ((ma 0), .inl (cB, 400, .inl fX)), ((ma 1), .inl (cI, 40, .inl gK_25)), ((ma 2), .inl (cI, 40, .inl gP_26)), ((ma 4), .inl (cI, 40, .inl gO_27)), ((ma 5), .inl (cI, 40, .inl gG_28)), ((ma 6), .inl (cI, 40, .inl gSz_29)), ((ma 7), .inl (cI, 40, .inl gSd_30)), ((ma 8), .inl (cB, 1200, .inl gN_31)), ((ma 9), .inl (cI, 40, .inl gNS_32)), ((ma 10), .inl (cB, 8000, .inl gT_33)), ((ma 11), .inl (cI, 40, .inl gTS_34))] := hD
                  have s_f39 : f39 r23.toNatClampNeg = 511 := by rw [e_f39]; unfold upd; rw [if_pos (by first | rfl | decide)]
                  refine lv_iload hx hb d_DiscMakerModel_link_162 (lv_at hl 0 rfl) ?_
                  have hP9 := hP.sub (ws' := [(h0, .inr (11, MO ma 0 0 nd_24 sv_many sv_directories sv_runsFrom sv_runs sv_read sv_wrong sv_isNamed sv_goes sv_goesSize sv_goesAt sv_targetParts sv_isRoot)), ((ma 0), .inl (cB, 400, .inl fX)), ((ma 1), .inl (cI, 40, .inl gK_25)), ((ma 2), .inl (cI, 40, .inl gP_26)), ((ma 4), .inl (cI, 40, .inl gO_27)), ((ma 5), .inl (cI, 40, .inl gG_28)), ((ma 6), .inl (cI, 40, .inl gSz_29)), ((ma 7), .inl (cI, 40, .inl gSd_30)), ((ma 8), .inl (cB, 1200, .inl gN_31)), ((ma 9), .inl (cI, 40, .inl gNS_32)), ((ma 10), .inl (cB, 8000, .inl gT_33)), ((ma 11), .inl (cI, 40, .inl gTS_34)), ((ma 3), .inl (cI, 40, .inl f39))]) [1, 2, 3, 4, 5, 6, 7, 8, 9, 10, 11, 12, 0] rfl
                  have hD9 := hD.sub (ws' := [(h0, .inr (11, MO ma 0 0 nd_24 sv_many sv_directories sv_runsFrom sv_runs sv_read sv_wrong sv_isNamed sv_goes sv_goesSize sv_goesAt sv_targetParts sv_isRoot)), ((ma 0), .inl (cB, 400, .inl fX)), ((ma 1), .inl (cI, 40, .inl gK_25)), ((ma 2), .inl (cI, 40, .inl gP_26)), ((ma 4), .inl (cI, 40, .inl gO_27)), ((ma 5), .inl (cI, 40, .inl gG_28)), ((ma 6), .inl (cI, 40, .inl gSz_29)), ((ma 7), .inl (cI, 40, .inl gSd_30)), ((ma 8), .inl (cB, 1200, .inl gN_31)), ((ma 9), .inl (cI, 40, .inl gNS_32)), ((ma 10), .inl (cB, 8000, .inl gT_33)), ((ma 11), .inl (cI, 40, .inl gTS_34)), ((ma 3), .inl (cI, 40, .inl f39))]) [1, 2, 3, 4, 5, 6, 7, 8, 9, 10, 11, 12, 0] (by decide) rfl
                  exact W.iret (v := r23) hx hb hr (fun t ht hW => ⟨⟨r23, (0, nd_24, gK_25, gP_26, gO_27, gG_28, gSz_29, gSd_30, gN_31, gNS_32, gT_33, gTS_34, f39), rfl, ⟨hT_37, hU_38⟩, by rw [ht]; exact hP9, hD9⟩, hS.F ht⟩) hS.2.2 d_DiscMakerModel_link_164
              · skip
                intro kk142
                refine lv_iload hx hb d_DiscMakerModel_link_118 (lv_at hl 4 rfl) ?_
                refine lv_if_eq (tgt := 141) hx hb d_DiscMakerModel_link_120 (by decide) (fun h_9 => ?_) (fun h_9 => ?_)
                · skip
                  have g120_80 : rh.toInt = 0 := (i_eq rfl (by decide)).mp h_9
                  refine lv_iconst (v := 0) hx hb d_DiscMakerModel_link_141 (by decide) ?_
                  have hP := hP.sub (ws' := [(h0, .inr (11, MO ma 0 sv_length sv_nodes sv_many sv_directories sv_runsFrom sv_runs sv_read sv_wrong sv_isNamed sv_goes sv_goesSize sv_goesAt sv_targetParts sv_isRoot)), ((ma 0), .inl (cB, 400, .inl fX)), ((ma 1), .inl (cI, 40, .inl fK)), ((ma 2), .inl (cI, 40, .inl fP)), ((ma 4), .inl (cI, 40, .inl fO)), ((ma 5), .inl (cI, 40, .inl fG)), ((ma 6), .inl (cI, 40, .inl fSz)), ((ma 7), .inl (cI, 40, .inl fSd)), ((ma 8), .inl (cB, 1200, .inl fN)), ((ma 9), .inl (cI, 40, .inl fNS)), ((ma 10), .inl (cB, 8000, .inl fT)), ((ma 11), .inl (cI, 40, .inl fTS)), ((ma 3), .inl (cI, 40, .inl fM))]) [0, 1, 2, 3, 4, 5, 6, 7, 8, 9, 10, 11, 12] rfl
                  have hD := hD.sub (ws' := [(h0, .inr (11, MO ma 0 sv_length sv_nodes sv_many sv_directories sv_runsFrom sv_runs sv_read sv_wrong sv_isNamed sv_goes sv_goesSize sv_goesAt sv_targetParts sv_isRoot)), ((ma 0), .inl (cB, 400, .inl fX)), ((ma 1), .inl (cI, 40, .inl fK)), ((ma 2), .inl (cI, 40, .inl fP)), ((ma 4), .inl (cI, 40, .inl fO)), ((ma 5), .inl (cI, 40, .inl fG)), ((ma 6), .inl (cI, 40, .inl fSz)), ((ma 7), .inl (cI, 40, .inl fSd)), ((ma 8), .inl (cB, 1200, .inl fN)), ((ma 9), .inl (cI, 40, .inl fNS)), ((ma 10), .inl (cB, 8000, .inl fT)), ((ma 11), .inl (cI, 40, .inl fTS)), ((ma 3), .inl (cI, 40, .inl fM))]) [0, 1, 2, 3, 4, 5, 6, 7, 8, 9, 10, 11, 12] (by decide) rfl
                  have hl := lv_sub hl [0, 1, 2, 3, 4, 5] rfl
                  exact kk142 _ _ _ _ _ ⟨0, rfl, rfl, (by (try dsimp only); first | assumption | omega | trivial), (by (try dsimp only); first | assumption | omega | trivial), hP, hD, hS, hl⟩
                · skip
                  have g120_80 : ¬ rh.toInt = 0 := fun h8 => h_9 ((i_eq rfl (by decide)).mpr h8)
                  refine lv_aload_n hx hb d_DiscMakerModel_link_123 rfl (lv_at hl 0 rfl) ?_
                  refine lv_iload_n hx hb d_DiscMakerModel_link_124 rfl (lv_at hl 3 rfl) ?_
                  refine lv_iload_n hx hb d_DiscMakerModel_link_125 rfl (lv_at hl 2 rfl) ?_
                  refine lv_iconst (v := 1) hx hb d_DiscMakerModel_link_126 (by decide) ?_
                  refine lv_iadd hx hb d_DiscMakerModel_link_127 ?_
                  refine lv_topi (fun v40 e_v40 => ?_)
                  have t_v40 : v40.toInt = nn.toInt + 1 := by rw [e_v40]; exact i_add rfl (by decide) (by omega) (by omega)
                  have hPc := hP.sub (ws' := [(h0, .inr (11, MO ma 0 sv_length sv_nodes sv_many sv_directories sv_runsFrom sv_runs sv_read sv_wrong sv_isNamed sv_goes sv_goesSize sv_goesAt sv_targetParts sv_isRoot)), ((ma 0), .inl (cB, 400, .inl fX))]) [0, 1] rfl
                  have hDc := hD.sub (ws' := [(h0, .inr (11, MO ma 0 sv_length sv_nodes sv_many sv_directories sv_runsFrom sv_runs sv_read sv_wrong sv_isNamed sv_goes sv_goesSize sv_goesAt sv_targetParts sv_isRoot)), ((ma 0), .inl (cB, 400, .inl fX))]) [0, 1] (by decide) rfl
                  have hFc := va_free (wc := [(h0, .inr (11, MO ma 0 sv_length sv_nodes sv_many sv_directories sv_runsFrom sv_runs sv_read sv_wrong sv_isNamed sv_goes sv_goesSize sv_goesAt sv_targetParts sv_isRoot)), ((ma 0), .inl (cB, 400, .inl fX))]) hD hS hA [0, 1] rfl
                  have hkc : 0 ≤ 0 := by decide
                  have hks : 0 ≤ 0 := by decide
                  refine va_calli (va_runV (C := "DiscMakerModel") (As := [.int v2, .int v40]) (rest := [.int nn, .int 2, .int x, .ref h0]) ⟨hx, hb, hml, hown, hts⟩ (m_componentsOf l D cB cI cJ cZ cN cF H.size h0 ma 0 sv_length sv_nodes sv_many sv_directories sv_runsFrom sv_runs sv_read sv_wrong sv_isNamed sv_goes sv_goesSize sv_goesAt sv_targetParts sv_isRoot fX v2 v40 (by (try dsimp only); first | assumption | omega | trivial) (by (try dsimp only); first | assumption | omega | trivial)) (cwV 2 hts (lg_goodV k1636 k1638 k59 k125 kc_DiscMakerModel_componentsOf) rfl rfl rfl (by decide +kernel) ⟨Nat.le_of_ble_eq_true rfl, Nat.le_of_ble_eq_true rfl⟩) ⟨fun a U g mk q => by obtain ⟨q0, q1, qP, qK, qN, qD⟩ := q; exact ⟨q0, q1, qP, va_K.moved (u := U) (U := U.calling g mk a) (Vm.Alike.refl U.vm) qK, qN.calling, qD⟩, va_recv hK hP (ci := 11) (q0 := 0) rfl rfl, fun U hU hW => ⟨rfl, by rw [hU], by rw [hU]; exact hPc, va_K.moved hW.alike hK, NN.warm hW hN, hDc.weaken (fun _ _ _ _ => trivial)⟩⟩ rfl rfl hl.1 rfl (lv_room (Nat.le_of_ble_eq_true rfl)) d_DiscMakerModel_link_128 ⟨hkc, hks⟩) hS (fun q _ h => hFc q h) hFc (fun r41 u t H1 locs ht hvm hp_r41 hB hz1 hk1 hS => ?_)
                  obtain ⟨hP1, hD1⟩ := hB
                  rw [ht] at hP1
                  obtain ⟨hP, hD⟩ := va_join (wr := [((ma 1), .inl (cI, 40, .inl fK)), ((ma 2), .inl (cI, 40, .inl fP)), ((ma 4), .inl (cI, 40, .inl fO)), ((ma 5), .inl (cI, 40, .inl fG)), ((ma 6), .inl (cI, 40, .inl fSz)), ((ma 7), .inl (cI, 40, .inl fSd)), ((ma 8), .inl (cB, 1200, .inl fN)), ((ma 9), .inl (cI, 40, .inl fNS)), ((ma 10), .inl (cB, 8000, .inl fT)), ((ma 11), .inl (cI, 40, .inl fTS)), ((ma 3), .inl (cI, 40, .inl fM))]) (w1 := [(h0, .inr (11, MO ma 0 sv_length sv_nodes sv_many sv_directories sv_runsFrom sv_runs sv_read sv_wrong sv_isNamed sv_goes sv_goesSize sv_goesAt sv_targetParts sv_isRoot)), ((ma 0), .inl (cB, 400, .inl fX))]) hP hD [0, 1] [2, 3, 4, 5, 6, 7, 8, 9, 10, 11, 12] rfl rfl (by decide) (by decide) hk1 hFc hP1 hD1
                  clear hPc hDc hFc hP1 hD1 hk1 hz1
                  generalize H1 = H at hP hS ⊢
                  have hP : va_P D CL [((ma 1), .inl (cI, 40, .inl fK)), ((ma 2), .inl (cI, 40, .inl fP)), ((ma 4), .inl (cI, 40, .inl fO)), ((ma 5), .inl (cI, 40, .inl fG)), ((ma 6), .inl (cI, 40, .inl fSz)), ((ma 7), .inl (cI, 40, .inl fSd)), ((ma 8), .inl (cB, 1200, .inl fN)), ((ma 9), .inl (cI, 40, .inl fNS)), ((ma 10), .inl (cB, 8000, .inl fT)), ((ma 11), .inl (cI, 40, .inl fTS)), ((ma 3), .inl (cI, 40, .inl fM)), (h0, .inr (11, MO ma 0 sv_length sv_nodes sv_many sv_directories sv_runsFrom sv_runs sv_read sv_wrong sv_isNamed sv_goes sv_goesSize sv_goesAt sv_targetParts sv_isRoot)), ((ma 0), .inl (cB, 400, .inl fX))] H := hP
                  have hD : va_D A [((ma 1), .inl (cI, 40, .inl fK)), ((ma 2), .inl (cI, 40, .inl fP)), ((ma 4), .inl (cI, 40, .inl fO)), ((ma 5), .inl (cI, 40, .inl fG)), ((ma 6), .inl (cI, 40, .inl fSz)), ((ma 7), .inl (cI, 40, .inl fSd)), ((ma 8), .inl (cB, 1200, .inl fN)), ((ma 9), .inl (cI, 40, .inl fNS)), ((ma 10), .inl (cB, 8000, .inl fT)), ((ma 11), .inl (cI, 40, .inl fTS)), ((ma 3), .inl (cI, 40, .inl fM)), (h0, .inr (11, MO ma 0 sv_length sv_nodes sv_many sv_directories sv_runsFrom sv_runs sv_read sv_wrong sv_isNamed sv_goes sv_goesSize sv_goesAt sv_targetParts sv_isRoot)), ((ma 0), .inl (cB, 400, .inl fX))] := hD
                  refine lv_sipush (v := 245) hx hb d_DiscMakerModel_link_131 (by decide) ?_
                  refine lv_icmp_gt (tgt := 141) hx hb d_DiscMakerModel_link_134 (by decide) (fun h_9 => ?_) (fun h_9 => ?_)
                  · skip
                    have g134_90 : 245 < r41.toInt := (i_lt (by decide) rfl).mp h_9
                    refine lv_iconst (v := 0) hx hb d_DiscMakerModel_link_141 (by decide) ?_
                    have hP := hP.sub (ws' := [(h0, .inr (11, MO ma 0 sv_length sv_nodes sv_many sv_directories sv_runsFrom sv_runs sv_read sv_wrong sv_isNamed sv_goes sv_goesSize sv_goesAt sv_targetParts sv_isRoot)), ((ma 0), .inl (cB, 400, .inl fX)), ((ma 1), .inl (cI, 40, .inl fK)), ((ma 2), .inl (cI, 40, .inl fP)), ((ma 4), .inl (cI, 40, .inl fO)), ((ma 5), .inl (cI, 40, .inl fG)), ((ma 6), .inl (cI, 40, .inl fSz)), ((ma 7), .inl (cI, 40, .inl fSd)), ((ma 8), .inl (cB, 1200, .inl fN)), ((ma 9), .inl (cI, 40, .inl fNS)), ((ma 10), .inl (cB, 8000, .inl fT)), ((ma 11), .inl (cI, 40, .inl fTS)), ((ma 3), .inl (cI, 40, .inl fM))]) [11, 12, 0, 1, 2, 3, 4, 5, 6, 7, 8, 9, 10] rfl
                    have hD := hD.sub (ws' := [(h0, .inr (11, MO ma 0 sv_length sv_nodes sv_many sv_directories sv_runsFrom sv_runs sv_read sv_wrong sv_isNamed sv_goes sv_goesSize sv_goesAt sv_targetParts sv_isRoot)), ((ma 0), .inl (cB, 400, .inl fX)), ((ma 1), .inl (cI, 40, .inl fK)), ((ma 2), .inl (cI, 40, .inl fP)), ((ma 4), .inl (cI, 40, .inl fO)), ((ma 5), .inl (cI, 40, .inl fG)), ((ma 6), .inl (cI, 40, .inl fSz)), ((ma 7), .inl (cI, 40, .inl fSd)), ((ma 8), .inl (cB, 1200, .inl fN)), ((ma 9), .inl (cI, 40, .inl fNS)), ((ma 10), .inl (cB, 8000, .inl fT)), ((ma 11), .inl (cI, 40, .inl fTS)), ((ma 3), .inl (cI, 40, .inl fM))]) [11, 12, 0, 1, 2, 3, 4, 5, 6, 7, 8, 9, 10] (by decide) rfl
                    have hl := lv_sub hl [0, 1, 2, 3, 4, 5] rfl
                    exact kk142 _ _ _ _ _ ⟨0, rfl, rfl, (by (try dsimp only); first | assumption | omega | trivial), (by (try dsimp only); first | assumption | omega | trivial), hP, hD, hS, hl⟩
                  · skip
                    have g134_90 : ¬ 245 < r41.toInt := fun h8 => h_9 ((i_lt (by decide) rfl).mpr h8)
                    refine lv_iconst (v := 1) hx hb d_DiscMakerModel_link_137 (by decide) ?_
                    refine lv_goto (tgt := 142) hx hb d_DiscMakerModel_link_138 (by decide) ?_
                    have hP := hP.sub (ws' := [(h0, .inr (11, MO ma 0 sv_length sv_nodes sv_many sv_directories sv_runsFrom sv_runs sv_read sv_wrong sv_isNamed sv_goes sv_goesSize sv_goesAt sv_targetParts sv_isRoot)), ((ma 0), .inl (cB, 400, .inl fX)), ((ma 1), .inl (cI, 40, .inl fK)), ((ma 2), .inl (cI, 40, .inl fP)), ((ma 4), .inl (cI, 40, .inl fO)), ((ma 5), .inl (cI, 40, .inl fG)), ((ma 6), .inl (cI, 40, .inl fSz)), ((ma 7), .inl (cI, 40, .inl fSd)), ((ma 8), .inl (cB, 1200, .inl fN)), ((ma 9), .inl (cI, 40, .inl fNS)), ((ma 10), .inl (cB, 8000, .inl fT)), ((ma 11), .inl (cI, 40, .inl fTS)), ((ma 3), .inl (cI, 40, .inl fM))]) [11, 12, 0, 1, 2, 3, 4, 5, 6, 7, 8, 9, 10] rfl
                    have hD := hD.sub (ws' := [(h0, .inr (11, MO ma 0 sv_length sv_nodes sv_many sv_directories sv_runsFrom sv_runs sv_read sv_wrong sv_isNamed sv_goes sv_goesSize sv_goesAt sv_targetParts sv_isRoot)), ((ma 0), .inl (cB, 400, .inl fX)), ((ma 1), .inl (cI, 40, .inl fK)), ((ma 2), .inl (cI, 40, .inl fP)), ((ma 4), .inl (cI, 40, .inl fO)), ((ma 5), .inl (cI, 40, .inl fG)), ((ma 6), .inl (cI, 40, .inl fSz)), ((ma 7), .inl (cI, 40, .inl fSd)), ((ma 8), .inl (cB, 1200, .inl fN)), ((ma 9), .inl (cI, 40, .inl fNS)), ((ma 10), .inl (cB, 8000, .inl fT)), ((ma 11), .inl (cI, 40, .inl fTS)), ((ma 3), .inl (cI, 40, .inl fM))]) [11, 12, 0, 1, 2, 3, 4, 5, 6, 7, 8, 9, 10] (by decide) rfl
                    have hl := lv_sub hl [0, 1, 2, 3, 4, 5] rfl
                    exact kk142 _ _ _ _ _ ⟨1, rfl, rfl, (by (try dsimp only); first | assumption | omega | trivial), (by (try dsimp only); first | assumption | omega | trivial), hP, hD, hS, hl⟩
            · skip
              have g74_61 : ¬ rh.toInt = 0 := fun h8 => h_9 ((i_eq rfl (by decide)).mpr h8)
              refine lv_aload_n hx hb d_DiscMakerModel_link_77 rfl (lv_at hl 0 rfl) ?_
              refine va_get (D := D) (ci := 11) (v := .ref (ma 0)) (C := "DiscMakerModel") (T := F_DiscMakerModel) (N := 48) hx hb ht9 in_DiscMakerModel hown hK hP 0 rfl rfl 1 (by decide) (ht9 _ k1432) (fun _ h9 => h9) rfl d_DiscMakerModel_link_78 ?_
              refine lv_iload hx hb d_DiscMakerModel_link_81 (lv_at hl 5 rfl) ?_
              refine va_bald hx hb hK hP 1 0 rfl rfl (vp_in_iff.mpr ⟨by omega, by omega⟩) d_DiscMakerModel_link_83 ?_
              refine lv_topi (fun v42 e_v42 => ?_)
              refine lv_bipush (v := 33) hx hb d_DiscMakerModel_link_84 (by decide) ?_
              refine lv_icmp_lt (tgt := 105) hx hb d_DiscMakerModel_link_86 (by decide) (fun h_9 => ?_) (fun h_9 => ?_)
              · skip
                have g86_101 : v42.toInt < 33 := (i_lt rfl (by decide)).mp h_9
                refine lv_iconst (v := 0) hx hb d_DiscMakerModel_link_105 (by decide) ?_
                refine lv_istore hx hb d_DiscMakerModel_link_106 hl (by decide) rfl (fun ls hl => ?_)
                have hl : lv_has ls 6 [(4, .int 0), (0, .ref h0), (1, .int x), (2, .int nn), (3, .int v2), (5, .int kx)] := hl
                obtain ⟨v43, e_v43⟩ : ∃ z : Int32, z = kx + 1 := ⟨_, rfl⟩
                refine lv_iinc (v := v43) hx hb d_DiscMakerModel_link_108 hl (k := 5) rfl e_v43.symm (by decide) rfl (fun ls hl => ?_)
                have t_v43 : v43.toInt = kx.toInt + 1 := by rw [e_v43]; exact i_add rfl (by decide) (by omega) (by omega)
                have hl : lv_has ls 6 [(5, .int v43), (4, .int 0), (0, .ref h0), (1, .int x), (2, .int nn), (3, .int v2)] := hl
                refine lv_goto (tgt := 63) hx hb d_DiscMakerModel_link_111 (by decide) ?_
                have hP := hP.sub (ws' := [(h0, .inr (11, MO ma 0 sv_length sv_nodes sv_many sv_directories sv_runsFrom sv_runs sv_read sv_wrong sv_isNamed sv_goes sv_goesSize sv_goesAt sv_targetParts sv_isRoot)), ((ma 0), .inl (cB, 400, .inl fX)), ((ma 1), .inl (cI, 40, .inl fK)), ((ma 2), .inl (cI, 40, .inl fP)), ((ma 4), .inl (cI, 40, .inl fO)), ((ma 5), .inl (cI, 40, .inl fG)), ((ma 6), .inl (cI, 40, .inl fSz)), ((ma 7), .inl (cI, 40, .inl fSd)), ((ma 8), .inl (cB, 1200, .inl fN)), ((ma 9), .inl (cI, 40, .inl fNS)), ((ma 10), .inl (cB, 8000, .inl fT)), ((ma 11), .inl (cI, 40, .inl fTS)), ((ma 3), .inl (cI, 40, .inl fM))]) [0, 1, 2, 3, 4, 5, 6, 7, 8, 9, 10, 11, 12] rfl
                have hD := hD.sub (ws' := [(h0, .inr (11, MO ma 0 sv_length sv_nodes sv_many sv_directories sv_runsFrom sv_runs sv_read sv_wrong sv_isNamed sv_goes sv_goesSize sv_goesAt sv_targetParts sv_isRoot)), ((ma 0), .inl (cB, 400, .inl fX)), ((ma 1), .inl (cI, 40, .inl fK)), ((ma 2), .inl (cI, 40, .inl fP)), ((ma 4), .inl (cI, 40, .inl fO)), ((ma 5), .inl (cI, 40, .inl fG)), ((ma 6), .inl (cI, 40, .inl fSz)), ((ma 7), .inl (cI, 40, .inl fSd)), ((ma 8), .inl (cB, 1200, .inl fN)), ((ma 9), .inl (cI, 40, .inl fNS)), ((ma 10), .inl (cB, 8000, .inl fT)), ((ma 11), .inl (cI, 40, .inl fTS)), ((ma 3), .inl (cI, 40, .inl fM))]) [0, 1, 2, 3, 4, 5, 6, 7, 8, 9, 10, 11, 12] (by decide) rfl
                have hl := lv_sub hl [2, 3, 4, 5, 1, 0] rfl
                exact ih63 (_) (by first | omega | (dsimp only; omega)) _ _ _ _ ⟨0, v43, rfl, rfl, (by (try dsimp only); first | assumption | omega | trivial), (by (try dsimp only); first | assumption | omega | trivial), (by (try dsimp only); first | assumption | omega | trivial), hP, hD, hS, hl⟩
              · skip
                have g86_101 : ¬ v42.toInt < 33 := fun h8 => h_9 ((i_lt rfl (by decide)).mpr h8)
                refine lv_aload_n hx hb d_DiscMakerModel_link_89 rfl (lv_at hl 0 rfl) ?_
                refine va_get (D := D) (ci := 11) (v := .ref (ma 0)) (C := "DiscMakerModel") (T := F_DiscMakerModel) (N := 48) hx hb ht9 in_DiscMakerModel hown hK hP 0 rfl rfl 1 (by decide) (ht9 _ k1432) (fun _ h9 => h9) rfl d_DiscMakerModel_link_90 ?_
                refine lv_iload hx hb d_DiscMakerModel_link_93 (lv_at hl 5 rfl) ?_
                refine va_bald hx hb hK hP 1 0 rfl rfl (vp_in_iff.mpr ⟨by omega, by omega⟩) d_DiscMakerModel_link_95 ?_
                refine lv_topi (fun v44 e_v44 => ?_)
                have q_v44 : v44.toInt = v42.toInt := by rw [e_v44, e_v42]
                refine lv_bipush (v := 126) hx hb d_DiscMakerModel_link_96 (by decide) ?_
                refine lv_icmp_gt (tgt := 105) hx hb d_DiscMakerModel_link_98 (by decide) (fun h_9 => ?_) (fun h_9 => ?_)
                · skip
                  have g98_112 : 126 < v44.toInt := (i_lt (by decide) rfl).mp h_9
                  refine lv_iconst (v := 0) hx hb d_DiscMakerModel_link_105 (by decide) ?_
                  refine lv_istore hx hb d_DiscMakerModel_link_106 hl (by decide) rfl (fun ls hl => ?_)
                  have hl : lv_has ls 6 [(4, .int 0), (0, .ref h0), (1, .int x), (2, .int nn), (3, .int v2), (5, .int kx)] := hl
                  obtain ⟨v45, e_v45⟩ : ∃ z : Int32, z = kx + 1 := ⟨_, rfl⟩
                  refine lv_iinc (v := v45) hx hb d_DiscMakerModel_link_108 hl (k := 5) rfl e_v45.symm (by decide) rfl (fun ls hl => ?_)
                  have t_v45 : v45.toInt = kx.toInt + 1 := by rw [e_v45]; exact i_add rfl (by decide) (by omega) (by omega)
                  have hl : lv_has ls 6 [(5, .int v45), (4, .int 0), (0, .ref h0), (1, .int x), (2, .int nn), (3, .int v2)] := hl
                  refine lv_goto (tgt := 63) hx hb d_DiscMakerModel_link_111 (by decide) ?_
                  have hP := hP.sub (ws' := [(h0, .inr (11, MO ma 0 sv_length sv_nodes sv_many sv_directories sv_runsFrom sv_runs sv_read sv_wrong sv_isNamed sv_goes sv_goesSize sv_goesAt sv_targetParts sv_isRoot)), ((ma 0), .inl (cB, 400, .inl fX)), ((ma 1), .inl (cI, 40, .inl fK)), ((ma 2), .inl (cI, 40, .inl fP)), ((ma 4), .inl (cI, 40, .inl fO)), ((ma 5), .inl (cI, 40, .inl fG)), ((ma 6), .inl (cI, 40, .inl fSz)), ((ma 7), .inl (cI, 40, .inl fSd)), ((ma 8), .inl (cB, 1200, .inl fN)), ((ma 9), .inl (cI, 40, .inl fNS)), ((ma 10), .inl (cB, 8000, .inl fT)), ((ma 11), .inl (cI, 40, .inl fTS)), ((ma 3), .inl (cI, 40, .inl fM))]) [0, 1, 2, 3, 4, 5, 6, 7, 8, 9, 10, 11, 12] rfl
                  have hD := hD.sub (ws' := [(h0, .inr (11, MO ma 0 sv_length sv_nodes sv_many sv_directories sv_runsFrom sv_runs sv_read sv_wrong sv_isNamed sv_goes sv_goesSize sv_goesAt sv_targetParts sv_isRoot)), ((ma 0), .inl (cB, 400, .inl fX)), ((ma 1), .inl (cI, 40, .inl fK)), ((ma 2), .inl (cI, 40, .inl fP)), ((ma 4), .inl (cI, 40, .inl fO)), ((ma 5), .inl (cI, 40, .inl fG)), ((ma 6), .inl (cI, 40, .inl fSz)), ((ma 7), .inl (cI, 40, .inl fSd)), ((ma 8), .inl (cB, 1200, .inl fN)), ((ma 9), .inl (cI, 40, .inl fNS)), ((ma 10), .inl (cB, 8000, .inl fT)), ((ma 11), .inl (cI, 40, .inl fTS)), ((ma 3), .inl (cI, 40, .inl fM))]) [0, 1, 2, 3, 4, 5, 6, 7, 8, 9, 10, 11, 12] (by decide) rfl
                  have hl := lv_sub hl [2, 3, 4, 5, 1, 0] rfl
                  exact ih63 (_) (by first | omega | (dsimp only; omega)) _ _ _ _ ⟨0, v45, rfl, rfl, (by (try dsimp only); first | assumption | omega | trivial), (by (try dsimp only); first | assumption | omega | trivial), (by (try dsimp only); first | assumption | omega | trivial), hP, hD, hS, hl⟩
                · skip
                  have g98_112 : ¬ 126 < v44.toInt := fun h8 => h_9 ((i_lt (by decide) rfl).mpr h8)
                  refine lv_iconst (v := 1) hx hb d_DiscMakerModel_link_101 (by decide) ?_
                  refine lv_goto (tgt := 106) hx hb d_DiscMakerModel_link_102 (by decide) ?_
                  refine lv_istore hx hb d_DiscMakerModel_link_106 hl (by decide) rfl (fun ls hl => ?_)
                  have hl : lv_has ls 6 [(4, .int 1), (0, .ref h0), (1, .int x), (2, .int nn), (3, .int v2), (5, .int kx)] := hl
                  obtain ⟨v46, e_v46⟩ : ∃ z : Int32, z = kx + 1 := ⟨_, rfl⟩
                  refine lv_iinc (v := v46) hx hb d_DiscMakerModel_link_108 hl (k := 5) rfl e_v46.symm (by decide) rfl (fun ls hl => ?_)
                  have t_v46 : v46.toInt = kx.toInt + 1 := by rw [e_v46]; exact i_add rfl (by decide) (by omega) (by omega)
                  have hl : lv_has ls 6 [(5, .int v46), (4, .int 1), (0, .ref h0), (1, .int x), (2, .int nn), (3, .int v2)] := hl
                  refine lv_goto (tgt := 63) hx hb d_DiscMakerModel_link_111 (by decide) ?_
                  have hP := hP.sub (ws' := [(h0, .inr (11, MO ma 0 sv_length sv_nodes sv_many sv_directories sv_runsFrom sv_runs sv_read sv_wrong sv_isNamed sv_goes sv_goesSize sv_goesAt sv_targetParts sv_isRoot)), ((ma 0), .inl (cB, 400, .inl fX)), ((ma 1), .inl (cI, 40, .inl fK)), ((ma 2), .inl (cI, 40, .inl fP)), ((ma 4), .inl (cI, 40, .inl fO)), ((ma 5), .inl (cI, 40, .inl fG)), ((ma 6), .inl (cI, 40, .inl fSz)), ((ma 7), .inl (cI, 40, .inl fSd)), ((ma 8), .inl (cB, 1200, .inl fN)), ((ma 9), .inl (cI, 40, .inl fNS)), ((ma 10), .inl (cB, 8000, .inl fT)), ((ma 11), .inl (cI, 40, .inl fTS)), ((ma 3), .inl (cI, 40, .inl fM))]) [0, 1, 2, 3, 4, 5, 6, 7, 8, 9, 10, 11, 12] rfl
                  have hD := hD.sub (ws' := [(h0, .inr (11, MO ma 0 sv_length sv_nodes sv_many sv_directories sv_runsFrom sv_runs sv_read sv_wrong sv_isNamed sv_goes sv_goesSize sv_goesAt sv_targetParts sv_isRoot)), ((ma 0), .inl (cB, 400, .inl fX)), ((ma 1), .inl (cI, 40, .inl fK)), ((ma 2), .inl (cI, 40, .inl fP)), ((ma 4), .inl (cI, 40, .inl fO)), ((ma 5), .inl (cI, 40, .inl fG)), ((ma 6), .inl (cI, 40, .inl fSz)), ((ma 7), .inl (cI, 40, .inl fSd)), ((ma 8), .inl (cB, 1200, .inl fN)), ((ma 9), .inl (cI, 40, .inl fNS)), ((ma 10), .inl (cB, 8000, .inl fT)), ((ma 11), .inl (cI, 40, .inl fTS)), ((ma 3), .inl (cI, 40, .inl fM))]) [0, 1, 2, 3, 4, 5, 6, 7, 8, 9, 10, 11, 12] (by decide) rfl
                  have hl := lv_sub hl [2, 3, 4, 5, 1, 0] rfl
                  exact ih63 (_) (by first | omega | (dsimp only; omega)) _ _ _ _ ⟨1, v46, rfl, rfl, (by (try dsimp only); first | assumption | omega | trivial), (by (try dsimp only); first | assumption | omega | trivial), (by (try dsimp only); first | assumption | omega | trivial), hP, hD, hS, hl⟩
        · skip
          intro kk63
          have hP := hP.sub (ws' := [(h0, .inr (11, MO ma 0 sv_length sv_nodes sv_many sv_directories sv_runsFrom sv_runs sv_read sv_wrong sv_isNamed sv_goes sv_goesSize sv_goesAt sv_targetParts sv_isRoot)), ((ma 0), .inl (cB, 400, .inl fX)), ((ma 1), .inl (cI, 40, .inl fK)), ((ma 2), .inl (cI, 40, .inl fP)), ((ma 4), .inl (cI, 40, .inl fO)), ((ma 5), .inl (cI, 40, .inl fG)), ((ma 6), .inl (cI, 40, .inl fSz)), ((ma 7), .inl (cI, 40, .inl fSd)), ((ma 8), .inl (cB, 1200, .inl fN)), ((ma 9), .inl (cI, 40, .inl fNS)), ((ma 10), .inl (cB, 8000, .inl fT)), ((ma 11), .inl (cI, 40, .inl fTS)), ((ma 3), .inl (cI, 40, .inl fM))]) [0, 1, 2, 3, 4, 5, 6, 7, 8, 9, 10, 11, 12] rfl
          have hD := hD.sub (ws' := [(h0, .inr (11, MO ma 0 sv_length sv_nodes sv_many sv_directories sv_runsFrom sv_runs sv_read sv_wrong sv_isNamed sv_goes sv_goesSize sv_goesAt sv_targetParts sv_isRoot)), ((ma 0), .inl (cB, 400, .inl fX)), ((ma 1), .inl (cI, 40, .inl fK)), ((ma 2), .inl (cI, 40, .inl fP)), ((ma 4), .inl (cI, 40, .inl fO)), ((ma 5), .inl (cI, 40, .inl fG)), ((ma 6), .inl (cI, 40, .inl fSz)), ((ma 7), .inl (cI, 40, .inl fSd)), ((ma 8), .inl (cB, 1200, .inl fN)), ((ma 9), .inl (cI, 40, .inl fNS)), ((ma 10), .inl (cB, 8000, .inl fT)), ((ma 11), .inl (cI, 40, .inl fTS)), ((ma 3), .inl (cI, 40, .inl fM))]) [0, 1, 2, 3, 4, 5, 6, 7, 8, 9, 10, 11, 12] (by decide) rfl
          have hl := lv_sub hl [2, 3, 4, 5, 1, 0] rfl
          exact kk63 _ _ _ _ _ ⟨rg, v3, rfl, rfl, (by (try dsimp only); first | assumption | omega | trivial), (by (try dsimp only); first | assumption | omega | trivial), (by (try dsimp only); first | assumption | omega | trivial), hP, hD, hS, hl⟩
      · skip
        intro kk56
        refine lv_iload_n hx hb d_DiscMakerModel_link_39 rfl (lv_at hl 0 rfl) ?_
        refine lv_iconst (v := 1) hx hb d_DiscMakerModel_link_40 (by decide) ?_
        refine lv_icmp_lt (tgt := 55) hx hb d_DiscMakerModel_link_41 (by decide) (fun h_9 => ?_) (fun h_9 => ?_)
        · skip
          have g41_126 : v2.toInt < 1 := (i_lt rfl (by decide)).mp h_9
          refine lv_iconst (v := 0) hx hb d_DiscMakerModel_link_55 (by decide) ?_
          have hP := hP.sub (ws' := [(h0, .inr (11, MO ma 0 sv_length sv_nodes sv_many sv_directories sv_runsFrom sv_runs sv_read sv_wrong sv_isNamed sv_goes sv_goesSize sv_goesAt sv_targetParts sv_isRoot)), ((ma 0), .inl (cB, 400, .inl fX)), ((ma 1), .inl (cI, 40, .inl fK)), ((ma 2), .inl (cI, 40, .inl fP)), ((ma 4), .inl (cI, 40, .inl fO)), ((ma 5), .inl (cI, 40, .inl fG)), ((ma 6), .inl (cI, 40, .inl fSz)), ((ma 7), .inl (cI, 40, .inl fSd)), ((ma 8), .inl (cB, 1200, .inl fN)), ((ma 9), .inl (cI, 40, .inl fNS)), ((ma 10), .inl (cB, 8000, .inl fT)), ((ma 11), .inl (cI, 40, .inl fTS)), ((ma 3), .inl (cI, 40, .inl fM))]) [0, 1, 2, 3, 4, 5, 6, 7, 8, 9, 10, 11, 12] rfl
          have hD := hD.sub (ws' := [(h0, .inr (11, MO ma 0 sv_length sv_nodes sv_many sv_directories sv_runsFrom sv_runs sv_read sv_wrong sv_isNamed sv_goes sv_goesSize sv_goesAt sv_targetParts sv_isRoot)), ((ma 0), .inl (cB, 400, .inl fX)), ((ma 1), .inl (cI, 40, .inl fK)), ((ma 2), .inl (cI, 40, .inl fP)), ((ma 4), .inl (cI, 40, .inl fO)), ((ma 5), .inl (cI, 40, .inl fG)), ((ma 6), .inl (cI, 40, .inl fSz)), ((ma 7), .inl (cI, 40, .inl fSd)), ((ma 8), .inl (cB, 1200, .inl fN)), ((ma 9), .inl (cI, 40, .inl fNS)), ((ma 10), .inl (cB, 8000, .inl fT)), ((ma 11), .inl (cI, 40, .inl fTS)), ((ma 3), .inl (cI, 40, .inl fM))]) [0, 1, 2, 3, 4, 5, 6, 7, 8, 9, 10, 11, 12] (by decide) rfl
          have hl := lv_sub hl [1, 2, 3, 0] rfl
          exact kk56 _ _ _ _ _ ⟨0, rfl, rfl, (by (try dsimp only); first | assumption | omega | trivial), (by (try dsimp only); first | assumption | omega | trivial), hP, hD, hS, hl⟩
        · skip
          have g41_126 : ¬ v2.toInt < 1 := fun h8 => h_9 ((i_lt rfl (by decide)).mpr h8)
          refine lv_iload_n hx hb d_DiscMakerModel_link_44 rfl (lv_at hl 0 rfl) ?_
          refine lv_sipush (v := 200) hx hb d_DiscMakerModel_link_45 (by decide) ?_
          refine lv_icmp_gt (tgt := 55) hx hb d_DiscMakerModel_link_48 (by decide) (fun h_9 => ?_) (fun h_9 => ?_)
          · skip
            have g48_131 : 200 < v2.toInt := (i_lt (by decide) rfl).mp h_9
            refine lv_iconst (v := 0) hx hb d_DiscMakerModel_link_55 (by decide) ?_
            have hP := hP.sub (ws' := [(h0, .inr (11, MO ma 0 sv_length sv_nodes sv_many sv_directories sv_runsFrom sv_runs sv_read sv_wrong sv_isNamed sv_goes sv_goesSize sv_goesAt sv_targetParts sv_isRoot)), ((ma 0), .inl (cB, 400, .inl fX)), ((ma 1), .inl (cI, 40, .inl fK)), ((ma 2), .inl (cI, 40, .inl fP)), ((ma 4), .inl (cI, 40, .inl fO)), ((ma 5), .inl (cI, 40, .inl fG)), ((ma 6), .inl (cI, 40, .inl fSz)), ((ma 7), .inl (cI, 40, .inl fSd)), ((ma 8), .inl (cB, 1200, .inl fN)), ((ma 9), .inl (cI, 40, .inl fNS)), ((ma 10), .inl (cB, 8000, .inl fT)), ((ma 11), .inl (cI, 40, .inl fTS)), ((ma 3), .inl (cI, 40, .inl fM))]) [0, 1, 2, 3, 4, 5, 6, 7, 8, 9, 10, 11, 12] rfl
            have hD := hD.sub (ws' := [(h0, .inr (11, MO ma 0 sv_length sv_nodes sv_many sv_directories sv_runsFrom sv_runs sv_read sv_wrong sv_isNamed sv_goes sv_goesSize sv_goesAt sv_targetParts sv_isRoot)), ((ma 0), .inl (cB, 400, .inl fX)), ((ma 1), .inl (cI, 40, .inl fK)), ((ma 2), .inl (cI, 40, .inl fP)), ((ma 4), .inl (cI, 40, .inl fO)), ((ma 5), .inl (cI, 40, .inl fG)), ((ma 6), .inl (cI, 40, .inl fSz)), ((ma 7), .inl (cI, 40, .inl fSd)), ((ma 8), .inl (cB, 1200, .inl fN)), ((ma 9), .inl (cI, 40, .inl fNS)), ((ma 10), .inl (cB, 8000, .inl fT)), ((ma 11), .inl (cI, 40, .inl fTS)), ((ma 3), .inl (cI, 40, .inl fM))]) [0, 1, 2, 3, 4, 5, 6, 7, 8, 9, 10, 11, 12] (by decide) rfl
            have hl := lv_sub hl [1, 2, 3, 0] rfl
            exact kk56 _ _ _ _ _ ⟨0, rfl, rfl, (by (try dsimp only); first | assumption | omega | trivial), (by (try dsimp only); first | assumption | omega | trivial), hP, hD, hS, hl⟩
          · skip
            have g48_131 : ¬ 200 < v2.toInt := fun h8 => h_9 ((i_lt (by decide) rfl).mpr h8)
            refine lv_iconst (v := 1) hx hb d_DiscMakerModel_link_51 (by decide) ?_
            refine lv_goto (tgt := 56) hx hb d_DiscMakerModel_link_52 (by decide) ?_
            have hP := hP.sub (ws' := [(h0, .inr (11, MO ma 0 sv_length sv_nodes sv_many sv_directories sv_runsFrom sv_runs sv_read sv_wrong sv_isNamed sv_goes sv_goesSize sv_goesAt sv_targetParts sv_isRoot)), ((ma 0), .inl (cB, 400, .inl fX)), ((ma 1), .inl (cI, 40, .inl fK)), ((ma 2), .inl (cI, 40, .inl fP)), ((ma 4), .inl (cI, 40, .inl fO)), ((ma 5), .inl (cI, 40, .inl fG)), ((ma 6), .inl (cI, 40, .inl fSz)), ((ma 7), .inl (cI, 40, .inl fSd)), ((ma 8), .inl (cB, 1200, .inl fN)), ((ma 9), .inl (cI, 40, .inl fNS)), ((ma 10), .inl (cB, 8000, .inl fT)), ((ma 11), .inl (cI, 40, .inl fTS)), ((ma 3), .inl (cI, 40, .inl fM))]) [0, 1, 2, 3, 4, 5, 6, 7, 8, 9, 10, 11, 12] rfl
            have hD := hD.sub (ws' := [(h0, .inr (11, MO ma 0 sv_length sv_nodes sv_many sv_directories sv_runsFrom sv_runs sv_read sv_wrong sv_isNamed sv_goes sv_goesSize sv_goesAt sv_targetParts sv_isRoot)), ((ma 0), .inl (cB, 400, .inl fX)), ((ma 1), .inl (cI, 40, .inl fK)), ((ma 2), .inl (cI, 40, .inl fP)), ((ma 4), .inl (cI, 40, .inl fO)), ((ma 5), .inl (cI, 40, .inl fG)), ((ma 6), .inl (cI, 40, .inl fSz)), ((ma 7), .inl (cI, 40, .inl fSd)), ((ma 8), .inl (cB, 1200, .inl fN)), ((ma 9), .inl (cI, 40, .inl fNS)), ((ma 10), .inl (cB, 8000, .inl fT)), ((ma 11), .inl (cI, 40, .inl fTS)), ((ma 3), .inl (cI, 40, .inl fM))]) [0, 1, 2, 3, 4, 5, 6, 7, 8, 9, 10, 11, 12] (by decide) rfl
            have hl := lv_sub hl [1, 2, 3, 0] rfl
            exact kk56 _ _ _ _ _ ⟨1, rfl, rfl, (by (try dsimp only); first | assumption | omega | trivial), (by (try dsimp only); first | assumption | omega | trivial), hP, hD, hS, hl⟩
    · skip
      have g12_9 : ¬ sv_length.toInt ≤ nn.toInt := fun h8 => h_9 ((i_le rfl rfl).mpr h8)
      refine lv_aload_n hx hb d_DiscMakerModel_link_15 rfl (lv_at hl 0 rfl) ?_
      refine va_get (D := D) (ci := 11) (v := .ref (ma 0)) (C := "DiscMakerModel") (T := F_DiscMakerModel) (N := 48) hx hb ht9 in_DiscMakerModel hown hK hP 0 rfl rfl 1 (by decide) (ht9 _ k1432) (fun _ h9 => h9) rfl d_DiscMakerModel_link_16 ?_
      refine lv_iload_n hx hb d_DiscMakerModel_link_19 rfl (lv_at hl 2 rfl) ?_
      refine va_bald hx hb hK hP 1 0 rfl rfl (vp_in_iff.mpr ⟨by omega, by omega⟩) d_DiscMakerModel_link_20 ?_
      refine lv_topi (fun v47 e_v47 => ?_)
      refine lv_if_eq (tgt := 30) hx hb d_DiscMakerModel_link_21 (by decide) (fun h_9 => ?_) (fun h_9 => ?_)
      · skip
        have g21_141 : v47.toInt = 0 := (i_eq rfl (by decide)).mp h_9
        refine lv_aload_n hx hb d_DiscMakerModel_link_30 rfl (lv_at hl 0 rfl) ?_
        refine va_get (D := D) (ci := 11) (v := .int sv_length) (C := "DiscMakerModel") (T := F_DiscMakerModel) (N := 48) hx hb ht9 in_DiscMakerModel hown hK hP 0 rfl rfl 2 (by decide) (ht9 _ k1433) (fun _ h9 => h9) rfl d_DiscMakerModel_link_31 ?_
        refine lv_iload_n hx hb d_DiscMakerModel_link_34 rfl (lv_at hl 2 rfl) ?_
        refine lv_isub hx hb d_DiscMakerModel_link_35 ?_
        refine lv_topi (fun v48 e_v48 => ?_)
        have t_v48 : v48.toInt = sv_length.toInt - nn.toInt := by rw [e_v48]; exact i_sub rfl rfl (by omega) (by omega)
        refine lv_iconst (v := 1) hx hb d_DiscMakerModel_link_36 (by decide) ?_
        refine lv_isub hx hb d_DiscMakerModel_link_37 ?_
        refine lv_topi (fun v49 e_v49 => ?_)
        have t_v49 : v49.toInt = v48.toInt - 1 := by rw [e_v49]; exact i_sub rfl (by decide) (by omega) (by omega)
        refine lv_istore_n hx hb d_DiscMakerModel_link_38 rfl hl (by decide) rfl (fun ls hl => ?_)
        have hl : lv_has ls 6 [(3, .int v49), (0, .ref h0), (1, .int x), (2, .int nn)] := hl
        refine zz_lab (P := fun (lk : Nat) (H : Heap) (locs : List Loc) (ls : Array Slot) (stk : List Value) => ∃ (rg : Int32) , lk = 0 ∧ stk = [.int rg] ∧ (0 ≤ rg.toInt ∧ rg.toInt ≤ 1) ∧ (rg.toInt = 0 ∨ (1 ≤ sv_length.toInt - nn.toInt - 1 ∧ sv_length.toInt - nn.toInt - 1 ≤ 200)) ∧ va_P D CL [(h0, .inr (11, MO ma 0 sv_length sv_nodes sv_many sv_directories sv_runsFrom sv_runs sv_read sv_wrong sv_isNamed sv_goes sv_goesSize sv_goesAt sv_targetParts sv_isRoot)), ((ma 0), .inl (cB, 400, .inl fX)), ((ma 1), .inl (cI, 40, .inl fK)), ((ma 2), .inl (cI, 40, .inl fP)), ((ma 4), .inl (cI, 40, .inl fO)), ((ma 5), .inl (cI, 40, .inl fG)), ((ma 6), .inl (cI, 40, .inl fSz)), ((ma 7), .inl (cI, 40, .inl fSd)), ((ma 8), .inl (cB, 1200, .inl fN)), ((ma 9), .inl (cI, 40, .inl fNS)), ((ma 10), .inl (cB, 8000, .inl fT)), ((ma 11), .inl (cI, 40, .inl fTS)), ((ma 3), .inl (cI, 40, .inl fM))] H ∧ va_D A [(h0, .inr (11, MO ma 0 sv_length sv_nodes sv_many sv_directories sv_runsFrom sv_runs sv_read sv_wrong sv_isNamed sv_goes sv_goesSize sv_goesAt sv_targetParts sv_isRoot)), ((ma 0), .inl (cB, 400, .inl fX)), ((ma 1), .inl (cI, 40, .inl fK)), ((ma 2), .inl (cI, 40, .inl fP)), ((ma 4), .inl (cI, 40, .inl fO)), ((ma 5), .inl (cI, 40, .inl fG)), ((ma 6), .inl (cI, 40, .inl fSz)), ((ma 7), .inl (cI, 40, .inl fSd)), ((ma 8), .inl (cB, 1200, .inl fN)), ((ma 9), .inl (cI, 40, .inl fNS)), ((ma 10), .inl (cB, 8000, .inl fT)), ((ma 11), .inl (cI, 40, .inl fTS)), ((ma 3), .inl (cI, 40, .inl fM))] ∧ va_S A s.heap H locs ∧ lv_has ls 6 [(0, .ref h0), (1, .int x), (2, .int nn), (3, .int v49)]) 56 ?_ ?_
        · skip
          intro lk ih56 H locs ls stk hI
          obtain ⟨rg, hm56, rfl, f2, f3, hP, hD, hS, hl⟩ := hI
          refine lv_istore hx hb d_DiscMakerModel_link_56 hl (by decide) rfl (fun ls hl => ?_)
          have hl : lv_has ls 6 [(4, .int rg), (0, .ref h0), (1, .int x), (2, .int nn), (3, .int v49)] := hl
          refine lv_iload_n hx hb d_DiscMakerModel_link_58 rfl (lv_at hl 3 rfl) ?_
          refine lv_iconst (v := 1) hx hb d_DiscMakerModel_link_59 (by decide) ?_
          refine lv_iadd hx hb d_DiscMakerModel_link_60 ?_
          refine lv_topi (fun v50 e_v50 => ?_)
          have t_v50 : v50.toInt = nn.toInt + 1 := by rw [e_v50]; exact i_add rfl (by decide) (by omega) (by omega)
          refine lv_istore hx hb d_DiscMakerModel_link_61 hl (by decide) rfl (fun ls hl => ?_)
          have hl : lv_has ls 6 [(5, .int v50), (4, .int rg), (0, .ref h0), (1, .int x), (2, .int nn), (3, .int v49)] := hl
          refine zz_lab (P := fun (lk : Nat) (H : Heap) (locs : List Loc) (ls : Array Slot) (stk : List Value) => ∃ (rh : Int32) (kx : Int32) , lk = (401 - kx.toInt).toNat ∧ stk = [] ∧ (0 ≤ rh.toInt ∧ rh.toInt ≤ 1) ∧ (rh.toInt = 0 ∨ (1 ≤ sv_length.toInt - nn.toInt - 1 ∧ sv_length.toInt - nn.toInt - 1 ≤ 200)) ∧ (1 ≤ kx.toInt ∧ kx.toInt ≤ 401) ∧ va_P D CL [(h0, .inr (11, MO ma 0 sv_length sv_nodes sv_many sv_directories sv_runsFrom sv_runs sv_read sv_wrong sv_isNamed sv_goes sv_goesSize sv_goesAt sv_targetParts sv_isRoot)), ((ma 0), .inl (cB, 400, .inl fX)), ((ma 1), .inl (cI, 40, .inl fK)), ((ma 2), .inl (cI, 40, .inl fP)), ((ma 4), .inl (cI, 40, .inl fO)), ((ma 5), .inl (cI, 40, .inl fG)), ((ma 6), .inl (cI, 40, .inl fSz)), ((ma 7), .inl (cI, 40, .inl fSd)), ((ma 8), .inl (cB, 1200, .inl fN)), ((ma 9), .inl (cI, 40, .inl fNS)), ((ma 10), .inl (cB, 8000, .inl fT)), ((ma 11), .inl (cI, 40, .inl fTS)), ((ma 3), .inl (cI, 40, .inl fM))] H ∧ va_D A [(h0, .inr (11, MO ma 0 sv_length sv_nodes sv_many sv_directories sv_runsFrom sv_runs sv_read sv_wrong sv_isNamed sv_goes sv_goesSize sv_goesAt sv_targetParts sv_isRoot)), ((ma 0), .inl (cB, 400, .inl fX)), ((ma 1), .inl (cI, 40, .inl fK)), ((ma 2), .inl (cI, 40, .inl fP)), ((ma 4), .inl (cI, 40, .inl fO)), ((ma 5), .inl (cI, 40, .inl fG)), ((ma 6), .inl (cI, 40, .inl fSz)), ((ma 7), .inl (cI, 40, .inl fSd)), ((ma 8), .inl (cB, 1200, .inl fN)), ((ma 9), .inl (cI, 40, .inl fNS)), ((ma 10), .inl (cB, 8000, .inl fT)), ((ma 11), .inl (cI, 40, .inl fTS)), ((ma 3), .inl (cI, 40, .inl fM))] ∧ va_S A s.heap H locs ∧ lv_has ls 6 [(0, .ref h0), (1, .int x), (2, .int nn), (3, .int v49), (4, .int rh), (5, .int kx)]) 63 ?_ ?_
          · skip
            intro lk ih63 H locs ls stk hI
            obtain ⟨rh, kx, hm63, rfl, f4, f5, f6, hP, hD, hS, hl⟩ := hI
            refine lv_iload hx hb d_DiscMakerModel_link_63 (lv_at hl 5 rfl) ?_
            refine lv_aload_n hx hb d_DiscMakerModel_link_65 rfl (lv_at hl 0 rfl) ?_
            refine va_get (D := D) (ci := 11) (v := .int sv_length) (C := "DiscMakerModel") (T := F_DiscMakerModel) (N := 48) hx hb ht9 in_DiscMakerModel hown hK hP 0 rfl rfl 2 (by decide) (ht9 _ k1433) (fun _ h9 => h9) rfl d_DiscMakerModel_link_66 ?_
            refine lv_icmp_ge (tgt := 114) hx hb d_DiscMakerModel_link_69 (by decide) (fun h_9 => ?_) (fun h_9 => ?_)
            · skip
              have g69_157 : sv_length.toInt ≤ kx.toInt := (i_le rfl rfl).mp h_9
              refine lv_aload_n hx hb d_DiscMakerModel_link_114 rfl (lv_at hl 0 rfl) ?_
              refine lv_iload_n hx hb d_DiscMakerModel_link_115 rfl (lv_at hl 1 rfl) ?_
              refine lv_iconst (v := 2) hx hb d_DiscMakerModel_link_116 (by decide) ?_
              refine lv_iload_n hx hb d_DiscMakerModel_link_117 rfl (lv_at hl 2 rfl) ?_
              refine zz_lab (P := fun (lk : Nat) (H : Heap) (locs : List Loc) (ls : Array Slot) (stk : List Value) => ∃ (jf : Int32) , lk = 0 ∧ stk = [.int jf, .int nn, .int 2, .int x, .ref h0] ∧ (0 ≤ jf.toInt ∧ jf.toInt ≤ 1) ∧ (jf.toInt = 0 ∨ (1 ≤ sv_length.toInt - nn.toInt - 1 ∧ sv_length.toInt - nn.toInt - 1 ≤ 200)) ∧ va_P D CL [(h0, .inr (11, MO ma 0 sv_length sv_nodes sv_many sv_directories sv_runsFrom sv_runs sv_read sv_wrong sv_isNamed sv_goes sv_goesSize sv_goesAt sv_targetParts sv_isRoot)), ((ma 0), .inl (cB, 400, .inl fX)), ((ma 1), .inl (cI, 40, .inl fK)), ((ma 2), .inl (cI, 40, .inl fP)), ((ma 4), .inl (cI, 40, .inl fO)), ((ma 5), .inl (cI, 40, .inl fG)), ((ma 6), .inl (cI, 40, .inl fSz)), ((ma 7), .inl (cI, 40, .inl fSd)), ((ma 8), .inl (cB, 1200, .inl fN)), ((ma 9), .inl (cI, 40, .inl fNS)), ((ma 10), .inl (cB, 8000, .inl fT)), ((ma 11), .inl (cI, 40, .inl fTS)), ((ma 3), .inl (cI, 40, .inl fM))] H ∧ va_D A [(h0, .inr (11, MO ma 0 sv_length sv_nodes sv_many sv_directories sv_runsFrom sv_runs sv_read sv_wrong sv_isNamed sv_goes sv_goesSize sv_goesAt sv_targetParts sv_isRoot)), ((ma 0), .inl (cB, 400, .inl fX)), ((ma 1), .inl (cI, 40, .inl fK)), ((ma 2), .inl (cI, 40, .inl fP)), ((ma 4), .inl (cI, 40, .inl fO)), ((ma 5), .inl (cI, 40, .inl fG)), ((ma 6), .inl (cI, 40, .inl fSz)), ((ma 7), .inl (cI, 40, .inl fSd)), ((ma 8), .inl (cB, 1200, .inl fN)), ((ma 9), .inl (cI, 40, .inl fNS)), ((ma 10), .inl (cB, 8000, .inl fT)), ((ma 11), .inl (cI, 40, .inl fTS)), ((ma 3), .inl (cI, 40, .inl fM))] ∧ va_S A s.heap H locs ∧ lv_has ls 6 [(0, .ref h0), (1, .int x), (2, .int nn), (3, .int v49), (4, .int rh), (5, .int kx)]) 142 ?_ ?_
              · skip
                intro lk ih142 H locs ls stk hI
                obtain ⟨jf, hm142, rfl, fj, fk, hP, hD, hS, hl⟩ := hI
                have hPc := hP.sub (ws' := [(h0, .inr (11, MO ma 0 sv_length sv_nodes sv_many sv_directories sv_runsFrom sv_runs sv_read sv_wrong sv_isNamed sv_goes sv_goesSize sv_goesAt sv_targetParts sv_isRoot)), ((ma 0), .inl (cB, 400, .inl fX)), ((ma 1), .inl (cI, 40, .inl fK)), ((ma 2), .inl (cI, 40, .inl fP)), ((ma 4), .inl (cI, 40, .inl fO)), ((ma 5), .inl (cI, 40, .inl fG)), ((ma 6), .inl (cI, 40, .inl fSz)), ((ma 7), .inl (cI, 40, .inl fSd)), ((ma 8), .inl (cB, 1200, .inl fN)), ((ma 9), .inl (cI, 40, .inl fNS)), ((ma 10), .inl (cB, 8000, .inl fT)), ((ma 11), .inl (cI, 40, .inl fTS))]) [0, 1, 2, 3, 4, 5, 6, 7, 8, 9, 10, 11] rfl
                have hDc := hD.sub (ws' := [(h0, .inr (11, MO ma 0 sv_length sv_nodes sv_many sv_directories sv_runsFrom sv_runs sv_read sv_wrong sv_isNamed sv_goes sv_goesSize sv_goesAt sv_targetParts sv_isRoot)), ((ma 0), .inl (cB, 400, .inl fX)), ((ma 1), .inl (cI, 40, .inl fK)), ((ma 2), .inl (cI, 40, .inl fP)), ((ma 4), .inl (cI, 40, .inl fO)), ((ma 5), .inl (cI, 40, .inl fG)), ((ma 6), .inl (cI, 40, .inl fSz)), ((ma 7), .inl (cI, 40, .inl fSd)), ((ma 8), .inl (cB, 1200, .inl fN)), ((ma 9), .inl (cI, 40, .inl fNS)), ((ma 10), .inl (cB, 8000, .inl fT)), ((ma 11), .inl (cI, 40, .inl fTS))]) [0, 1, 2, 3, 4, 5, 6, 7, 8, 9, 10, 11] (by decide) rfl
                have hFc := va_free (wc := [(h0, .inr (11, MO ma 0 sv_length sv_nodes sv_many sv_directories sv_runsFrom sv_runs sv_read sv_wrong sv_isNamed sv_goes sv_goesSize sv_goesAt sv_targetParts sv_isRoot)), ((ma 0), .inl (cB, 400, .inl fX)), ((ma 1), .inl (cI, 40, .inl fK)), ((ma 2), .inl (cI, 40, .inl fP)), ((ma 4), .inl (cI, 40, .inl fO)), ((ma 5), .inl (cI, 40, .inl fG)), ((ma 6), .inl (cI, 40, .inl fSz)), ((ma 7), .inl (cI, 40, .inl fSd)), ((ma 8), .inl (cB, 1200, .inl fN)), ((ma 9), .inl (cI, 40, .inl fNS)), ((ma 10), .inl (cB, 8000, .inl fT)), ((ma 11), .inl (cI, 40, .inl fTS))]) hD hS hA [0, 1, 2, 3, 4, 5, 6, 7, 8, 9, 10, 11] rfl
                have hkc : 0 ≤ 0 := by decide
                have hks : 0 ≤ 0 := by decide
                refine va_calli (va_runV (C := "DiscMakerModel") (As := [.int x, .int 2, .int nn, .int jf]) (rest := []) ⟨hx, hb, hml, hown, hts⟩ (m_add l D cB cI cJ cZ cN cF H.size h0 ma 0 sv_length sv_nodes sv_many sv_directories sv_runsFrom sv_runs sv_read sv_wrong sv_isNamed sv_goes sv_goesSize sv_goesAt sv_targetParts sv_isRoot fX fK fP fO fG fSz fSd fN fNS fT fTS x 2 nn jf (by (try dsimp only); first | assumption | omega | trivial) (by (try dsimp only); first | assumption | omega | trivial) (by (try dsimp only); first | assumption | omega | trivial) (by (try dsimp only); first | assumption | omega | trivial) (by (try dsimp only); first | assumption | omega | trivial) (by (try dsimp only); first | assumption | omega | trivial)) (cwV 4 hts (lg_goodV k1594 k1596 k52 k125 kc_DiscMakerModel_add) rfl rfl rfl (by decide +kernel) ⟨Nat.le_of_ble_eq_true rfl, Nat.le_of_ble_eq_true rfl⟩) ⟨fun a U g mk q => by obtain ⟨q0, q1, qP, qK, qN, qD⟩ := q; exact ⟨q0, q1, qP, va_K.moved (u := U) (U := U.calling g mk a) (Vm.Alike.refl U.vm) qK, qN.calling, qD⟩, va_recv hK hP (ci := 11) (q0 := 0) rfl rfl, fun U hU hW => ⟨rfl, by rw [hU], by rw [hU]; exact hPc, va_K.moved hW.alike hK, NN.warm hW hN, hDc.weaken (fun _ _ _ _ => trivial)⟩⟩ rfl rfl hl.1 rfl (lv_room (Nat.le_of_ble_eq_true rfl)) d_DiscMakerModel_link_142 ⟨hkc, hks⟩) hS (fun q _ h => hFc q h) hFc (fun r51 u t H1 locs ht hvm hp_r51 hB hz1 hk1 hS => ?_)
                obtain ⟨nd_52, gK_53, gP_54, gO_55, gG_56, gSz_57, gSd_58, gN_59, gNS_60, gT_61, gTS_62⟩ := u
                obtain ⟨hP1, hD1⟩ := hB
                rw [ht] at hP1
                obtain ⟨hP, hD⟩ := va_join (wr := [((ma 3), .inl (cI, 40, .inl fM))]) (w1 := [(h0, .inr (11, MO ma 0 0 nd_52 sv_many sv_directories sv_runsFrom sv_runs sv_read sv_wrong sv_isNamed sv_goes sv_goesSize sv_goesAt sv_targetParts sv_isRoot)), ((ma 0), .inl (cB, 400, .inl fX)), ((ma 1), .inl (cI, 40, .inl gK_53)), ((ma 2), .inl (cI, 40, .inl gP_54)), ((ma 4), .inl (cI, 40, .inl gO_55)), ((ma 5), .inl (cI, 40, .inl gG_56)), ((ma 6), .inl (cI, 40, .inl gSz_57)), ((ma 7), .inl (cI, 40, .inl gSd_58)), ((ma 8), .inl (cB, 1200, .inl gN_59)), ((ma 9), .inl (cI, 40, .inl gNS_60)), ((ma 10), .inl (cB, 8000, .inl gT_61)), ((ma 11), .inl (cI, 40, .inl gTS_62))]) hP hD [0, 1, 2, 3, 4, 5, 6, 7, 8, 9, 10, 11] [12] rfl rfl (by decide) (by decide) hk1 hFc hP1 hD1
                clear hPc hDc hFc hP1 hD1 hk1 hz1
                generalize H1 = H at hP hS ⊢
                have hP : va_P D CL [((ma 3), .inl (cI, 40, .inl fM)), (h0, .inr (11, MO ma 0 0 nd_52 sv_many sv_directories sv_runsFrom sv_runs sv_read sv_wrong sv_isNamed sv_goes sv_goesSize sv_goesAt sv_targetParts sv_isRoot)), ((ma 0), .inl (cB, 400, .inl fX)), ((ma 1), .inl (cI, 40, .inl gK_53)), ((ma 2), .inl (cI, 40, .inl gP_54)), ((ma 4), .inl (cI, 40, .inl gO_55)), ((ma 5), .inl (cI, 40, .inl gG_56)), ((ma 6), .inl (cI, 40, .inl gSz_57)), ((ma 7), .inl (cI, 40, .inl gSd_58)), ((ma 8), .inl (cB, 1200, .inl gN_59)), ((ma 9), .inl (cI, 40, .inl gNS_60)), ((ma 10), .inl (cB, 8000, .inl gT_61)), ((ma 11), .inl (cI, 40, .inl gTS_62))] H := hP
                have hD : va_D A [((ma 3), .inl (cI, 40, .inl fM)), (h0, .inr (11, MO ma 0 0 nd_52 sv_many sv_directories sv_runsFrom sv_runs sv_read sv_wrong sv_isNamed sv_goes sv_goesSize sv_goesAt sv_targetParts sv_isRoot)), ((ma 0), .inl (cB, 400, .inl fX)), ((ma 1), .inl (cI, 40, .inl gK_53)), ((ma 2), .inl (cI, 40, .inl gP_54)), ((ma 4), .inl (cI, 40, .inl gO_55)), ((ma 5), .inl (cI, 40, .inl gG_56)), ((ma 6), .inl (cI, 40, .inl gSz_57)), ((ma 7), .inl (cI, 40, .inl gSd_58)), ((ma 8), .inl (cB, 1200, .inl gN_59)), ((ma 9), .inl (cI, 40, .inl gNS_60)), ((ma 10), .inl (cB, 8000, .inl gT_61)), ((ma 11), .inl (cI, 40, .inl gTS_62))] := hD
                try dsimp only at hp_r51
                obtain ⟨hr_63, hw9_64, hT_65, hU_66⟩ := hp_r51
                have hn9 := hT_65.n1
                refine lv_istore hx hb d_DiscMakerModel_link_145 hl (by decide) rfl (fun ls hl => ?_)
                have hl : lv_has ls 6 [(5, .int r51), (0, .ref h0), (1, .int x), (2, .int nn), (3, .int v49), (4, .int rh)] := hl
                refine lv_iload hx hb d_DiscMakerModel_link_147 (lv_at hl 0 rfl) ?_
                refine lv_if_lt (tgt := 162) hx hb d_DiscMakerModel_link_149 (by decide) (fun h_9 => ?_) (fun h_9 => ?_)
                · skip
                  have g149_165 : r51.toInt < 0 := (i_lt rfl (by decide)).mp h_9
                  refine lv_iload hx hb d_DiscMakerModel_link_162 (lv_at hl 0 rfl) ?_
                  have hP9 := hP.sub (ws' := [(h0, .inr (11, MO ma 0 0 nd_52 sv_many sv_directories sv_runsFrom sv_runs sv_read sv_wrong sv_isNamed sv_goes sv_goesSize sv_goesAt sv_targetParts sv_isRoot)), ((ma 0), .inl (cB, 400, .inl fX)), ((ma 1), .inl (cI, 40, .inl gK_53)), ((ma 2), .inl (cI, 40, .inl gP_54)), ((ma 4), .inl (cI, 40, .inl gO_55)), ((ma 5), .inl (cI, 40, .inl gG_56)), ((ma 6), .inl (cI, 40, .inl gSz_57)), ((ma 7), .inl (cI, 40, .inl gSd_58)), ((ma 8), .inl (cB, 1200, .inl gN_59)), ((ma 9), .inl (cI, 40, .inl gNS_60)), ((ma 10), .inl (cB, 8000, .inl gT_61)), ((ma 11), .inl (cI, 40, .inl gTS_62)), ((ma 3), .inl (cI, 40, .inl fM))]) [1, 2, 3, 4, 5, 6, 7, 8, 9, 10, 11, 12, 0] rfl
                  have hD9 := hD.sub (ws' := [(h0, .inr (11, MO ma 0 0 nd_52 sv_many sv_directories sv_runsFrom sv_runs sv_read sv_wrong sv_isNamed sv_goes sv_goesSize sv_goesAt sv_targetParts sv_isRoot)), ((ma 0), .inl (cB, 400, .inl fX)), ((ma 1), .inl (cI, 40, .inl gK_53)), ((ma 2), .inl (cI, 40, .inl gP_54)), ((ma 4), .inl (cI, 40, .inl gO_55)), ((ma 5), .inl (cI, 40, .inl gG_56)), ((ma 6), .inl (cI, 40, .inl gSz_57)), ((ma 7), .inl (cI, 40, .inl gSd_58)), ((ma 8), .inl (cB, 1200, .inl gN_59)), ((ma 9), .inl (cI, 40, .inl gNS_60)), ((ma 10), .inl (cB, 8000, .inl gT_61)), ((ma 11), .inl (cI, 40, .inl gTS_62)), ((ma 3), .inl (cI, 40, .inl fM))]) [1, 2, 3, 4, 5, 6, 7, 8, 9, 10, 11, 12, 0] (by decide) rfl
                  exact W.iret (v := r51) hx hb hr (fun t ht hW => ⟨⟨r51, (0, nd_52, gK_53, gP_54, gO_55, gG_56, gSz_57, gSd_58, gN_59, gNS_60, gT_61, gTS_62, fM), rfl, ⟨hT_65, hU_66⟩, by rw [ht]; exact hP9, hD9⟩, hS.F ht⟩) hS.2.2 d_DiscMakerModel_link_164
                · skip
                  have g149_165 : ¬ r51.toInt < 0 := fun h8 => h_9 ((i_lt rfl (by decide)).mpr h8)
                  refine lv_aload_n hx hb d_DiscMakerModel_link_152 rfl (lv_at hl 1 rfl) ?_
                  refine va_get (D := D) (ci := 11) (v := .ref (ma 3)) (C := "DiscMakerModel") (T := F_DiscMakerModel) (N := 48) hx hb ht9 in_DiscMakerModel hown hK hP 1 rfl rfl 6 (by decide) (ht9 _ k1437) (fun _ h9 => h9) rfl d_DiscMakerModel_link_153 ?_
                  refine lv_iload hx hb d_DiscMakerModel_link_156 (lv_at hl 0 rfl) ?_
                  refine lv_sipush (v := 511) hx hb d_DiscMakerModel_link_158 (by decide) ?_
                  refine zq_iast hx hb hK hP hD hS 0 1 rfl rfl (vp_in_iff.mpr ⟨by omega, by omega⟩) d_DiscMakerModel_link_161 (fun f67 e_f67 H locs hP hD hS => ?_)
                  have hP : va_P D CL [((ma 3), .inl (cI, 40, .inl f67)), (h0, .inr (11, MO ma 0 0 nd_52 sv_many sv_directories sv_runsFrom sv_runs sv_read sv_wrong sv_isNamed sv_goes sv_goesSize sv_goesAt sv_targetParts sv_isRoot)), ((ma 0), .inl (cB, 400, .inl fX)), ((ma 1), .inl (cI, 40, .inl gK_53)), ((ma 2), .inl (cI, 40, .inl gP_54)), ((ma 4), .inl (cI, 40, .inl gO_55)), ((ma 5), .inl (cI, 40, .inl gG_56)), ((ma 6), .inl (cI, 40, .inl gSz_57)), ((ma 7), .inl (cI, 40, .inl gSd_58)), ((ma 8), .inl (cB, 1200, .inl gN_59)), ((ma 9), .inl (cI, 40, .inl gNS_60)), ((ma 10), .inl (cB, 8000, .inl gT_61)), ((ma 11), .inl (cI, 40, .inl gTS_62))] H := hP
                  have hD : va_D A [((ma 3), .inl (cI, 40, .inl f67)), (h0, .inr (11, MO ma 0 0 nd_52 sv_many sv_directories sv_runsFrom sv_runs sv_read sv_wrong sv_isNamed sv_goes sv_goesSize sv_goesAt sv_targetParts sv_isRoot)), ((ma 0), .inl (cB, 400, .inl fX)), ((ma 1), .inl (cI, 40, .inl gK_53)), ((ma 2), .inl (cI, 40, .inl gP_54)), ((ma 4), .inl (cI, 40, .inl gO_55)), ((ma 5), .inl (cI, 40, .inl gG_56)), ((ma 6), .inl (cI, 40, .inl gSz_57)), ((ma 7), .inl (cI, 40, .inl gSd_58)), ((ma 8), .inl (cB, 1200, .inl gN_59)), ((ma 9), .inl (cI, 40, .inl gNS_60)), ((ma 10), .inl (cB, 8000, .inl gT_61)), ((ma 11), .inl (cI, 40, .inl gTS_62))] := hD
                  have s_f67 : f67 r51.toNatClampNeg = 511 := by rw [e_f67]; unfold upd; rw [if_pos (by first | rfl | decide)]
                  refine lv_iload hx hb d_DiscMakerModel_link_162 (lv_at hl 0 rfl) ?_
                  have hP9 := hP.sub (ws' := [(h0, .inr (11, MO ma 0 0 nd_52 sv_many sv_directories sv_runsFrom sv_runs sv_read sv_wrong sv_isNamed sv_goes sv_goesSize sv_goesAt sv_targetParts sv_isRoot)), ((ma 0), .inl (cB, 400, .inl fX)), ((ma 1), .inl (cI, 40, .inl gK_53)), ((ma 2), .inl (cI, 40, .inl gP_54)), ((ma 4), .inl (cI, 40, .inl gO_55)), ((ma 5), .inl (cI, 40, .inl gG_56)), ((ma 6), .inl (cI, 40, .inl gSz_57)), ((ma 7), .inl (cI, 40, .inl gSd_58)), ((ma 8), .inl (cB, 1200, .inl gN_59)), ((ma 9), .inl (cI, 40, .inl gNS_60)), ((ma 10), .inl (cB, 8000, .inl gT_61)), ((ma 11), .inl (cI, 40, .inl gTS_62)), ((ma 3), .inl (cI, 40, .inl f67))]) [1, 2, 3, 4, 5, 6, 7, 8, 9, 10, 11, 12, 0] rfl
                  have hD9 := hD.sub (ws' := [(h0, .inr (11, MO ma 0 0 nd_52 sv_many sv_directories sv_runsFrom sv_runs sv_read sv_wrong sv_isNamed sv_goes sv_goesSize sv_goesAt sv_targetParts sv_isRoot)), ((ma 0), .inl (cB, 400, .inl fX)), ((ma 1), .inl (cI, 40, .inl gK_53)), ((ma 2), .inl (cI, 40, .inl gP_54)), ((ma 4), .inl (cI, 40, .inl gO_55)), ((ma 5), .inl (cI, 40, .inl gG_56)), ((ma 6), .inl (cI, 40, .inl gSz_57)), ((ma 7), .inl (cI, 40, .inl gSd_58)), ((ma 8), .inl (cB, 1200, .inl gN_59)), ((ma 9), .inl (cI, 40, .inl gNS_60)), ((ma 10), .inl (cB, 8000, .inl gT_61)), ((ma 11), .inl (cI, 40, .inl gTS_62)), ((ma 3), .inl (cI, 40, .inl f67))]) [1, 2, 3, 4, 5, 6, 7, 8, 9, 10, 11, 12, 0] (by decide) rfl
                  exact W.iret (v := r51) hx hb hr (fun t ht hW => ⟨⟨r51, (0, nd_52, gK_53, gP_54, gO_55, gG_56, gSz_57, gSd_58, gN_59, gNS_60, gT_61, gTS_62, f67), rfl, ⟨hT_65, hU_66⟩, by rw [ht]; exact hP9, hD9⟩, hS.F ht⟩) hS.2.2 d_DiscMakerModel_link_164
              · skip
                intro kk142
                refine lv_iload hx hb d_DiscMakerModel_link_118 (lv_at hl 4 rfl) ?_
                refine lv_if_eq (tgt := 141) hx hb d_DiscMakerModel_link_120 (by decide) (fun h_9 => ?_) (fun h_9 => ?_)
                · skip
                  have g120_176 : rh.toInt = 0 := (i_eq rfl (by decide)).mp h_9
                  refine lv_iconst (v := 0) hx hb d_DiscMakerModel_link_141 (by decide) ?_
                  have hP := hP.sub (ws' := [(h0, .inr (11, MO ma 0 sv_length sv_nodes sv_many sv_directories sv_runsFrom sv_runs sv_read sv_wrong sv_isNamed sv_goes sv_goesSize sv_goesAt sv_targetParts sv_isRoot)), ((ma 0), .inl (cB, 400, .inl fX)), ((ma 1), .inl (cI, 40, .inl fK)), ((ma 2), .inl (cI, 40, .inl fP)), ((ma 4), .inl (cI, 40, .inl fO)), ((ma 5), .inl (cI, 40, .inl fG)), ((ma 6), .inl (cI, 40, .inl fSz)), ((ma 7), .inl (cI, 40, .inl fSd)), ((ma 8), .inl (cB, 1200, .inl fN)), ((ma 9), .inl (cI, 40, .inl fNS)), ((ma 10), .inl (cB, 8000, .inl fT)), ((ma 11), .inl (cI, 40, .inl fTS)), ((ma 3), .inl (cI, 40, .inl fM))]) [0, 1, 2, 3, 4, 5, 6, 7, 8, 9, 10, 11, 12] rfl
                  have hD := hD.sub (ws' := [(h0, .inr (11, MO ma 0 sv_length sv_nodes sv_many sv_directories sv_runsFrom sv_runs sv_read sv_wrong sv_isNamed sv_goes sv_goesSize sv_goesAt sv_targetParts sv_isRoot)), ((ma 0), .inl (cB, 400, .inl fX)), ((ma 1), .inl (cI, 40, .inl fK)), ((ma 2), .inl (cI, 40, .inl fP)), ((ma 4), .inl (cI, 40, .inl fO)), ((ma 5), .inl (cI, 40, .inl fG)), ((ma 6), .inl (cI, 40, .inl fSz)), ((ma 7), .inl (cI, 40, .inl fSd)), ((ma 8), .inl (cB, 1200, .inl fN)), ((ma 9), .inl (cI, 40, .inl fNS)), ((ma 10), .inl (cB, 8000, .inl fT)), ((ma 11), .inl (cI, 40, .inl fTS)), ((ma 3), .inl (cI, 40, .inl fM))]) [0, 1, 2, 3, 4, 5, 6, 7, 8, 9, 10, 11, 12] (by decide) rfl
                  have hl := lv_sub hl [0, 1, 2, 3, 4, 5] rfl
                  exact kk142 _ _ _ _ _ ⟨0, rfl, rfl, (by (try dsimp only); first | assumption | omega | trivial), (by (try dsimp only); first | assumption | omega | trivial), hP, hD, hS, hl⟩
                · skip
                  have g120_176 : ¬ rh.toInt = 0 := fun h8 => h_9 ((i_eq rfl (by decide)).mpr h8)
                  refine lv_aload_n hx hb d_DiscMakerModel_link_123 rfl (lv_at hl 0 rfl) ?_
                  refine lv_iload_n hx hb d_DiscMakerModel_link_124 rfl (lv_at hl 3 rfl) ?_
                  refine lv_iload_n hx hb d_DiscMakerModel_link_125 rfl (lv_at hl 2 rfl) ?_
                  refine lv_iconst (v := 1) hx hb d_DiscMakerModel_link_126 (by decide) ?_
                  refine lv_iadd hx hb d_DiscMakerModel_link_127 ?_
                  refine lv_topi (fun v68 e_v68 => ?_)
                  have t_v68 : v68.toInt = nn.toInt + 1 := by rw [e_v68]; exact i_add rfl (by decide) (by omega) (by omega)
                  have hPc := hP.sub (ws' := [(h0, .inr (11, MO ma 0 sv_length sv_nodes sv_many sv_directories sv_runsFrom sv_runs sv_read sv_wrong sv_isNamed sv_goes sv_goesSize sv_goesAt sv_targetParts sv_isRoot)), ((ma 0), .inl (cB, 400, .inl fX))]) [0, 1] rfl
                  have hDc := hD.sub (ws' := [(h0, .inr (11, MO ma 0 sv_length sv_nodes sv_many sv_directories sv_runsFrom sv_runs sv_read sv_wrong sv_isNamed sv_goes sv_goesSize sv_goesAt sv_targetParts sv_isRoot)), ((ma 0), .inl (cB, 400, .inl fX))]) [0, 1] (by decide) rfl
                  have hFc := va_free (wc := [(h0, .inr (11, MO ma 0 sv_length sv_nodes sv_many sv_directories sv_runsFrom sv_runs sv_read sv_wrong sv_isNamed sv_goes sv_goesSize sv_goesAt sv_targetParts sv_isRoot)), ((ma 0), .inl (cB, 400, .inl fX))]) hD hS hA [0, 1] rfl
                  have hkc : 0 ≤ 0 := by decide
                  have hks : 0 ≤ 0 := by decide
                  refine va_calli (va_runV (C := "DiscMakerModel") (As := [.int v49, .int v68]) (rest := [.int nn, .int 2, .int x, .ref h0]) ⟨hx, hb, hml, hown, hts⟩ (m_componentsOf l D cB cI cJ cZ cN cF H.size h0 ma 0 sv_length sv_nodes sv_many sv_directories sv_runsFrom sv_runs sv_read sv_wrong sv_isNamed sv_goes sv_goesSize sv_goesAt sv_targetParts sv_isRoot fX v49 v68 (by (try dsimp only); first | assumption | omega | trivial) (by (try dsimp only); first | assumption | omega | trivial)) (cwV 2 hts (lg_goodV k1636 k1638 k59 k125 kc_DiscMakerModel_componentsOf) rfl rfl rfl (by decide +kernel) ⟨Nat.le_of_ble_eq_true rfl, Nat.le_of_ble_eq_true rfl⟩) ⟨fun a U g mk q => by obtain ⟨q0, q1, qP, qK, qN, qD⟩ := q; exact ⟨q0, q1, qP, va_K.moved (u := U) (U := U.calling g mk a) (Vm.Alike.refl U.vm) qK, qN.calling, qD⟩, va_recv hK hP (ci := 11) (q0 := 0) rfl rfl, fun U hU hW => ⟨rfl, by rw [hU], by rw [hU]; exact hPc, va_K.moved hW.alike hK, NN.warm hW hN, hDc.weaken (fun _ _ _ _ => trivial)⟩⟩ rfl rfl hl.1 rfl (lv_room (Nat.le_of_ble_eq_true rfl)) d_DiscMakerModel_link_128 ⟨hkc, hks⟩) hS (fun q _ h => hFc q h) hFc (fun r69 u t H1 locs ht hvm hp_r69 hB hz1 hk1 hS => ?_)
                  obtain ⟨hP1, hD1⟩ := hB
                  rw [ht] at hP1
                  obtain ⟨hP, hD⟩ := va_join (wr := [((ma 1), .inl (cI, 40, .inl fK)), ((ma 2), .inl (cI, 40, .inl fP)), ((ma 4), .inl (cI, 40, .inl fO)), ((ma 5), .inl (cI, 40, .inl fG)), ((ma 6), .inl (cI, 40, .inl fSz)), ((ma 7), .inl (cI, 40, .inl fSd)), ((ma 8), .inl (cB, 1200, .inl fN)), ((ma 9), .inl (cI, 40, .inl fNS)), ((ma 10), .inl (cB, 8000, .inl fT)), ((ma 11), .inl (cI, 40, .inl fTS)), ((ma 3), .inl (cI, 40, .inl fM))]) (w1 := [(h0, .inr (11, MO ma 0 sv_length sv_nodes sv_many sv_directories sv_runsFrom sv_runs sv_read sv_wrong sv_isNamed sv_goes sv_goesSize sv_goesAt sv_targetParts sv_isRoot)), ((ma 0), .inl (cB, 400, .inl fX))]) hP hD [0, 1] [2, 3, 4, 5, 6, 7, 8, 9, 10, 11, 12] rfl rfl (by decide) (by decide) hk1 hFc hP1 hD1
                  clear hPc hDc hFc hP1 hD1 hk1 hz1
                  generalize H1 = H at hP hS ⊢
                  have hP : va_P D CL [((ma 1), .inl (cI, 40, .inl fK)), ((ma 2), .inl (cI, 40, .inl fP)), ((ma 4), .inl (cI, 40, .inl fO)), ((ma 5), .inl (cI, 40, .inl fG)), ((ma 6), .inl (cI, 40, .inl fSz)), ((ma 7), .inl (cI, 40, .inl fSd)), ((ma 8), .inl (cB, 1200, .inl fN)), ((ma 9), .inl (cI, 40, .inl fNS)), ((ma 10), .inl (cB, 8000, .inl fT)), ((ma 11), .inl (cI, 40, .inl fTS)), ((ma 3), .inl (cI, 40, .inl fM)), (h0, .inr (11, MO ma 0 sv_length sv_nodes sv_many sv_directories sv_runsFrom sv_runs sv_read sv_wrong sv_isNamed sv_goes sv_goesSize sv_goesAt sv_targetParts sv_isRoot)), ((ma 0), .inl (cB, 400, .inl fX))] H := hP
                  have hD : va_D A [((ma 1), .inl (cI, 40, .inl fK)), ((ma 2), .inl (cI, 40, .inl fP)), ((ma 4), .inl (cI, 40, .inl fO)), ((ma 5), .inl (cI, 40, .inl fG)), ((ma 6), .inl (cI, 40, .inl fSz)), ((ma 7), .inl (cI, 40, .inl fSd)), ((ma 8), .inl (cB, 1200, .inl fN)), ((ma 9), .inl (cI, 40, .inl fNS)), ((ma 10), .inl (cB, 8000, .inl fT)), ((ma 11), .inl (cI, 40, .inl fTS)), ((ma 3), .inl (cI, 40, .inl fM)), (h0, .inr (11, MO ma 0 sv_length sv_nodes sv_many sv_directories sv_runsFrom sv_runs sv_read sv_wrong sv_isNamed sv_goes sv_goesSize sv_goesAt sv_targetParts sv_isRoot)), ((ma 0), .inl (cB, 400, .inl fX))] := hD
                  refine lv_sipush (v := 245) hx hb d_DiscMakerModel_link_131 (by decide) ?_
                  refine lv_icmp_gt (tgt := 141) hx hb d_DiscMakerModel_link_134 (by decide) (fun h_9 => ?_) (fun h_9 => ?_)
                  · skip
                    have g134_186 : 245 < r69.toInt := (i_lt (by decide) rfl).mp h_9
                    refine lv_iconst (v := 0) hx hb d_DiscMakerModel_link_141 (by decide) ?_
                    have hP := hP.sub (ws' := [(h0, .inr (11, MO ma 0 sv_length sv_nodes sv_many sv_directories sv_runsFrom sv_runs sv_read sv_wrong sv_isNamed sv_goes sv_goesSize sv_goesAt sv_targetParts sv_isRoot)), ((ma 0), .inl (cB, 400, .inl fX)), ((ma 1), .inl (cI, 40, .inl fK)), ((ma 2), .inl (cI, 40, .inl fP)), ((ma 4), .inl (cI, 40, .inl fO)), ((ma 5), .inl (cI, 40, .inl fG)), ((ma 6), .inl (cI, 40, .inl fSz)), ((ma 7), .inl (cI, 40, .inl fSd)), ((ma 8), .inl (cB, 1200, .inl fN)), ((ma 9), .inl (cI, 40, .inl fNS)), ((ma 10), .inl (cB, 8000, .inl fT)), ((ma 11), .inl (cI, 40, .inl fTS)), ((ma 3), .inl (cI, 40, .inl fM))]) [11, 12, 0, 1, 2, 3, 4, 5, 6, 7, 8, 9, 10] rfl
                    have hD := hD.sub (ws' := [(h0, .inr (11, MO ma 0 sv_length sv_nodes sv_many sv_directories sv_runsFrom sv_runs sv_read sv_wrong sv_isNamed sv_goes sv_goesSize sv_goesAt sv_targetParts sv_isRoot)), ((ma 0), .inl (cB, 400, .inl fX)), ((ma 1), .inl (cI, 40, .inl fK)), ((ma 2), .inl (cI, 40, .inl fP)), ((ma 4), .inl (cI, 40, .inl fO)), ((ma 5), .inl (cI, 40, .inl fG)), ((ma 6), .inl (cI, 40, .inl fSz)), ((ma 7), .inl (cI, 40, .inl fSd)), ((ma 8), .inl (cB, 1200, .inl fN)), ((ma 9), .inl (cI, 40, .inl fNS)), ((ma 10), .inl (cB, 8000, .inl fT)), ((ma 11), .inl (cI, 40, .inl fTS)), ((ma 3), .inl (cI, 40, .inl fM))]) [11, 12, 0, 1, 2, 3, 4, 5, 6, 7, 8, 9, 10] (by decide) rfl
                    have hl := lv_sub hl [0, 1, 2, 3, 4, 5] rfl
                    exact kk142 _ _ _ _ _ ⟨0, rfl, rfl, (by (try dsimp only); first | assumption | omega | trivial), (by (try dsimp only); first | assumption | omega | trivial), hP, hD, hS, hl⟩
                  · skip
                    have g134_186 : ¬ 245 < r69.toInt := fun h8 => h_9 ((i_lt (by decide) rfl).mpr h8)
                    refine lv_iconst (v := 1) hx hb d_DiscMakerModel_link_137 (by decide) ?_
                    refine lv_goto (tgt := 142) hx hb d_DiscMakerModel_link_138 (by decide) ?_
                    have hP := hP.sub (ws' := [(h0, .inr (11, MO ma 0 sv_length sv_nodes sv_many sv_directories sv_runsFrom sv_runs sv_read sv_wrong sv_isNamed sv_goes sv_goesSize sv_goesAt sv_targetParts sv_isRoot)), ((ma 0), .inl (cB, 400, .inl fX)), ((ma 1), .inl (cI, 40, .inl fK)), ((ma 2), .inl (cI, 40, .inl fP)), ((ma 4), .inl (cI, 40, .inl fO)), ((ma 5), .inl (cI, 40, .inl fG)), ((ma 6), .inl (cI, 40, .inl fSz)), ((ma 7), .inl (cI, 40, .inl fSd)), ((ma 8), .inl (cB, 1200, .inl fN)), ((ma 9), .inl (cI, 40, .inl fNS)), ((ma 10), .inl (cB, 8000, .inl fT)), ((ma 11), .inl (cI, 40, .inl fTS)), ((ma 3), .inl (cI, 40, .inl fM))]) [11, 12, 0, 1, 2, 3, 4, 5, 6, 7, 8, 9, 10] rfl
                    have hD := hD.sub (ws' := [(h0, .inr (11, MO ma 0 sv_length sv_nodes sv_many sv_directories sv_runsFrom sv_runs sv_read sv_wrong sv_isNamed sv_goes sv_goesSize sv_goesAt sv_targetParts sv_isRoot)), ((ma 0), .inl (cB, 400, .inl fX)), ((ma 1), .inl (cI, 40, .inl fK)), ((ma 2), .inl (cI, 40, .inl fP)), ((ma 4), .inl (cI, 40, .inl fO)), ((ma 5), .inl (cI, 40, .inl fG)), ((ma 6), .inl (cI, 40, .inl fSz)), ((ma 7), .inl (cI, 40, .inl fSd)), ((ma 8), .inl (cB, 1200, .inl fN)), ((ma 9), .inl (cI, 40, .inl fNS)), ((ma 10), .inl (cB, 8000, .inl fT)), ((ma 11), .inl (cI, 40, .inl fTS)), ((ma 3), .inl (cI, 40, .inl fM))]) [11, 12, 0, 1, 2, 3, 4, 5, 6, 7, 8, 9, 10] (by decide) rfl
                    have hl := lv_sub hl [0, 1, 2, 3, 4, 5] rfl
                    exact kk142 _ _ _ _ _ ⟨1, rfl, rfl, (by (try dsimp only); first | assumption | omega | trivial), (by (try dsimp only); first | assumption | omega | trivial), hP, hD, hS, hl⟩
            · skip
              have g69_157 : ¬ sv_length.toInt ≤ kx.toInt := fun h8 => h_9 ((i_le rfl rfl).mpr h8)
              refine lv_iload hx hb d_DiscMakerModel_link_72 (lv_at hl 4 rfl) ?_
              refine lv_if_eq (tgt := 114) hx hb d_DiscMakerModel_link_74 (by decide) (fun h_9 => ?_) (fun h_9 => ?_)
              · skip
                have g74_193 : rh.toInt = 0 := (i_eq rfl (by decide)).mp h_9
                refine lv_aload_n hx hb d_DiscMakerModel_link_114 rfl (lv_at hl 0 rfl) ?_
                refine lv_iload_n hx hb d_DiscMakerModel_link_115 rfl (lv_at hl 1 rfl) ?_
                refine lv_iconst (v := 2) hx hb d_DiscMakerModel_link_116 (by decide) ?_
                refine lv_iload_n hx hb d_DiscMakerModel_link_117 rfl (lv_at hl 2 rfl) ?_
                refine zz_lab (P := fun (lk : Nat) (H : Heap) (locs : List Loc) (ls : Array Slot) (stk : List Value) => ∃ (jf : Int32) , lk = 0 ∧ stk = [.int jf, .int nn, .int 2, .int x, .ref h0] ∧ (0 ≤ jf.toInt ∧ jf.toInt ≤ 1) ∧ (jf.toInt = 0 ∨ (1 ≤ sv_length.toInt - nn.toInt - 1 ∧ sv_length.toInt - nn.toInt - 1 ≤ 200)) ∧ va_P D CL [(h0, .inr (11, MO ma 0 sv_length sv_nodes sv_many sv_directories sv_runsFrom sv_runs sv_read sv_wrong sv_isNamed sv_goes sv_goesSize sv_goesAt sv_targetParts sv_isRoot)), ((ma 0), .inl (cB, 400, .inl fX)), ((ma 1), .inl (cI, 40, .inl fK)), ((ma 2), .inl (cI, 40, .inl fP)), ((ma 4), .inl (cI, 40, .inl fO)), ((ma 5), .inl (cI, 40, .inl fG)), ((ma 6), .inl (cI, 40, .inl fSz)), ((ma 7), .inl (cI, 40, .inl fSd)), ((ma 8), .inl (cB, 1200, .inl fN)), ((ma 9), .inl (cI, 40, .inl fNS)), ((ma 10), .inl (cB, 8000, .inl fT)), ((ma 11), .inl (cI, 40, .inl fTS)), ((ma 3), .inl (cI, 40, .inl fM))] H ∧ va_D A [(h0, .inr (11, MO ma 0 sv_length sv_nodes sv_many sv_directories sv_runsFrom sv_runs sv_read sv_wrong sv_isNamed sv_goes sv_goesSize sv_goesAt sv_targetParts sv_isRoot)), ((ma 0), .inl (cB, 400, .inl fX)), ((ma 1), .inl (cI, 40, .inl fK)), ((ma 2), .inl (cI, 40, .inl fP)), ((ma 4), .inl (cI, 40, .inl fO)), ((ma 5), .inl (cI, 40, .inl fG)), ((ma 6), .inl (cI, 40, .inl fSz)), ((ma 7), .inl (cI, 40, .inl fSd)), ((ma 8), .inl (cB, 1200, .inl fN)), ((ma 9), .inl (cI, 40, .inl fNS)), ((ma 10), .inl (cB, 8000, .inl fT)), ((ma 11), .inl (cI, 40, .inl fTS)), ((ma 3), .inl (cI, 40, .inl fM))] ∧ va_S A s.heap H locs ∧ lv_has ls 6 [(0, .ref h0), (1, .int x), (2, .int nn), (3, .int v49), (4, .int rh), (5, .int kx)]) 142 ?_ ?_
                · skip
                  intro lk ih142 H locs ls stk hI
                  obtain ⟨jf, hm142, rfl, fj, fk, hP, hD, hS, hl⟩ := hI
                  have hPc := hP.sub (ws' := [(h0, .inr (11, MO ma 0 sv_length sv_nodes sv_many sv_directories sv_runsFrom sv_runs sv_read sv_wrong sv_isNamed sv_goes sv_goesSize sv_goesAt sv_targetParts sv_isRoot)), ((ma 0), .inl (cB, 400, .inl fX)), ((ma 1), .inl (cI, 40, .inl fK)), ((ma 2), .inl (cI, 40, .inl fP)), ((ma 4), .inl (cI, 40, .inl fO)), ((ma 5), .inl (cI, 40, .inl fG)), ((ma 6), .inl (cI, 40, .inl fSz)), ((ma 7), .inl (cI, 40, .inl fSd)), ((ma 8), .inl (cB, 1200, .inl fN)), ((ma 9), .inl (cI, 40, .inl fNS)), ((ma 10), .inl (cB, 8000, .inl fT)), ((ma 11), .inl (cI, 40, .inl fTS))]) [0, 1, 2, 3, 4, 5, 6, 7, 8, 9, 10, 11] rfl
                  have hDc := hD.sub (ws' := [(h0, .inr (11, MO ma 0 sv_length sv_nodes sv_many sv_directories sv_runsFrom sv_runs sv_read sv_wrong sv_isNamed sv_goes sv_goesSize sv_goesAt sv_targetParts sv_isRoot)), ((ma 0), .inl (cB, 400, .inl fX)), ((ma 1), .inl (cI, 40, .inl fK)), ((ma 2), .inl (cI, 40, .inl fP)), ((ma 4), .inl (cI, 40, .inl fO)), ((ma 5), .inl (cI, 40, .inl fG)), ((ma 6), .inl (cI, 40, .inl fSz)), ((ma 7), .inl (cI, 40, .inl fSd)), ((ma 8), .inl (cB, 1200, .inl fN)), ((ma 9), .inl (cI, 40, .inl fNS)), ((ma 10), .inl (cB, 8000, .inl fT)), ((ma 11), .inl (cI, 40, .inl fTS))]) [0, 1, 2, 3, 4, 5, 6, 7, 8, 9, 10, 11] (by decide) rfl
                  have hFc := va_free (wc := [(h0, .inr (11, MO ma 0 sv_length sv_nodes sv_many sv_directories sv_runsFrom sv_runs sv_read sv_wrong sv_isNamed sv_goes sv_goesSize sv_goesAt sv_targetParts sv_isRoot)), ((ma 0), .inl (cB, 400, .inl fX)), ((ma 1), .inl (cI, 40, .inl fK)), ((ma 2), .inl (cI, 40, .inl fP)), ((ma 4), .inl (cI, 40, .inl fO)), ((ma 5), .inl (cI, 40, .inl fG)), ((ma 6), .inl (cI, 40, .inl fSz)), ((ma 7), .inl (cI, 40, .inl fSd)), ((ma 8), .inl (cB, 1200, .inl fN)), ((ma 9), .inl (cI, 40, .inl fNS)), ((ma 10), .inl (cB, 8000, .inl fT)), ((ma 11), .inl (cI, 40, .inl fTS))]) hD hS hA [0, 1, 2, 3, 4, 5, 6, 7, 8, 9, 10, 11] rfl
                  have hkc : 0 ≤ 0 := by decide
                  have hks : 0 ≤ 0 := by decide
                  refine va_calli (va_runV (C := "DiscMakerModel") (As := [.int x, .int 2, .int nn, .int jf]) (rest := []) ⟨hx, hb, hml, hown, hts⟩ (m_add l D cB cI cJ cZ cN cF H.size h0 ma 0 sv_length sv_nodes sv_many sv_directories sv_runsFrom sv_runs sv_read sv_wrong sv_isNamed sv_goes sv_goesSize sv_goesAt sv_targetParts sv_isRoot fX fK fP fO fG fSz fSd fN fNS fT fTS x 2 nn jf (by (try dsimp only); first | assumption | omega | trivial) (by (try dsimp only); first | assumption | omega | trivial) (by (try dsimp only); first | assumption | omega | trivial) (by (try dsimp only); first | assumption | omega | trivial) (by (try dsimp only); first | assumption | omega | trivial) (by (try dsimp only); first | assumption | omega | trivial)) (cwV 4 hts (lg_goodV k1594 k1596 k52 k125 kc_DiscMakerModel_add) rfl rfl rfl (by decide +kernel) ⟨Nat.le_of_ble_eq_true rfl, Nat.le_of_ble_eq_true rfl⟩) ⟨fun a U g mk q => by obtain ⟨q0, q1, qP, qK, qN, qD⟩ := q; exact ⟨q0, q1, qP, va_K.moved (u := U) (U := U.calling g mk a) (Vm.Alike.refl U.vm) qK, qN.calling, qD⟩, va_recv hK hP (ci := 11) (q0 := 0) rfl rfl, fun U hU hW => ⟨rfl, by rw [hU], by rw [hU]; exact hPc, va_K.moved hW.alike hK, NN.warm hW hN, hDc.weaken (fun _ _ _ _ => trivial)⟩⟩ rfl rfl hl.1 rfl (lv_room (Nat.le_of_ble_eq_true rfl)) d_DiscMakerModel_link_142 ⟨hkc, hks⟩) hS (fun q _ h => hFc q h) hFc (fun r70 u t H1 locs ht hvm hp_r70 hB hz1 hk1 hS => ?_)
                  obtain ⟨nd_71, gK_72, gP_73, gO_74, gG_75, gSz_76, gSd_77, gN_78, gNS_79, gT_80, gTS_81⟩ := u
                  obtain ⟨hP1, hD1⟩ := hB
                  rw [ht] at hP1
                  obtain ⟨hP, hD⟩ := va_join (wr := [((ma 3), .inl (cI, 40, .inl fM))]) (w1 := [(h0, .inr (11, MO ma 0 0 nd_71 sv_many sv_directories sv_runsFrom sv_runs sv_read sv_wrong sv_isNamed sv_goes sv_goesSize sv_goesAt sv_targetParts sv_isRoot)), ((ma 0), .inl (cB, 400, .inl fX)), ((ma 1), .inl (cI, 40, .inl gK_72)), ((ma 2), .inl (cI, 40, .inl gP_73)), ((ma 4), .inl (cI, 40, .inl gO_74)), ((ma 5), .inl (cI, 40, .inl gG_75)), ((ma 6), .inl (cI, 40, .inl gSz_76)), ((ma 7), .inl (cI, 40, .inl gSd_77)), ((ma 8), .inl (cB, 1200, .inl gN_78)), ((ma 9), .inl (cI, 40, .inl gNS_79)), ((ma 10), .inl (cB, 8000, .inl gT_80)), ((ma 11), .inl (cI, 40, .inl gTS_81))]) hP hD [0, 1, 2, 3, 4, 5, 6, 7, 8, 9, 10, 11] [12] rfl rfl (by decide) (by decide) hk1 hFc hP1 hD1
                  clear hPc hDc hFc hP1 hD1 hk1 hz1
                  generalize H1 = H at hP hS ⊢
                  have hP : va_P D CL [((ma 3), .inl (cI, 40, .inl fM)), (h0, .inr (11, MO ma 0 0 nd_71 sv_many sv_directories sv_runsFrom sv_runs sv_read sv_wrong sv_isNamed sv_goes sv_goesSize sv_goesAt sv_targetParts sv_isRoot)), ((ma 0), .inl (cB, 400, .inl fX)), ((ma 1), .inl (cI, 40, .inl gK_72)), ((ma 2), .inl (cI, 40, .inl gP_73)), ((ma 4), .inl (cI, 40, .inl gO_74)), ((ma 5), .inl (cI, 40, .inl gG_75)), ((ma 6), .inl (cI, 40, .inl gSz_76)), ((ma 7), .inl (cI, 40, .inl gSd_77)), ((ma 8), .inl (cB, 1200, .inl gN_78)), ((ma 9), .inl (cI, 40, .inl gNS_79)), ((ma 10), .inl (cB, 8000, .inl gT_80)), ((ma 11), .inl (cI, 40, .inl gTS_81))] H := hP
                  have hD : va_D A [((ma 3), .inl (cI, 40, .inl fM)), (h0, .inr (11, MO ma 0 0 nd_71 sv_many sv_directories sv_runsFrom sv_runs sv_read sv_wrong sv_isNamed sv_goes sv_goesSize sv_goesAt sv_targetParts sv_isRoot)), ((ma 0), .inl (cB, 400, .inl fX)), ((ma 1), .inl (cI, 40, .inl gK_72)), ((ma 2), .inl (cI, 40, .inl gP_73)), ((ma 4), .inl (cI, 40, .inl gO_74)), ((ma 5), .inl (cI, 40, .inl gG_75)), ((ma 6), .inl (cI, 40, .inl gSz_76)), ((ma 7), .inl (cI, 40, .inl gSd_77)), ((ma 8), .inl (cB, 1200, .inl gN_78)), ((ma 9), .inl (cI, 40, .inl gNS_79)), ((ma 10), .inl (cB, 8000, .inl gT_80)), ((ma 11), .inl (cI, 40, .inl gTS_81))] := hD
                  try dsimp only at hp_r70
                  obtain ⟨hr_82, hw9_83, hT_84, hU_85⟩ := hp_r70
                  have hn9 := hT_84.n1
                  refine lv_istore hx hb d_DiscMakerModel_link_145 hl (by decide) rfl (fun ls hl => ?_)
                  have hl : lv_has ls 6 [(5, .int r70), (0, .ref h0), (1, .int x), (2, .int nn), (3, .int v49), (4, .int rh)] := hl
                  refine lv_iload hx hb d_DiscMakerModel_link_147 (lv_at hl 0 rfl) ?_
                  refine lv_if_lt (tgt := 162) hx hb d_DiscMakerModel_link_149 (by decide) (fun h_9 => ?_) (fun h_9 => ?_)
                  · skip
                    have g149_201 : r70.toInt < 0 := (i_lt rfl (by decide)).mp h_9
                    refine lv_iload hx hb d_DiscMakerModel_link_162 (lv_at hl 0 rfl) ?_
                    have hP9 := hP.sub (ws' := [(h0, .inr (11, MO ma 0 0 nd_71 sv_many sv_directories sv_runsFrom sv_runs sv_read sv_wrong sv_isNamed sv_goes sv_goesSize sv_goesAt sv_targetParts sv_isRoot)), ((ma 0), .inl (cB, 400, .inl fX)), ((ma 1), .inl (cI, 40, .inl gK_72)), ((ma 2), .inl (cI, 40, .inl gP_73)), ((ma 4), .inl (cI, 40, .inl gO_74)), ((ma 5), .inl (cI, 40, .inl gG_75)), ((ma 6), .inl (cI, 40, .inl gSz_76)), ((ma 7), .inl (cI, 40, .inl gSd_77)), ((ma 8), .inl (cB, 1200, .inl gN_78)), ((ma 9), .inl (cI, 40, .inl gNS_79)), ((ma 10), .inl (cB, 8000, .inl gT_80)), ((ma 11), .inl (cI, 40, .inl gTS_81)), ((ma 3), .inl (cI, 40, .inl fM))]) [1, 2, 3, 4, 5, 6, 7, 8, 9, 10, 11, 12, 0] rfl
                    have hD9 := hD.sub (ws' := [(h0, .inr (11, MO ma 0 0 nd_71 sv_many sv_directories sv_runsFrom sv_runs sv_read sv_wrong sv_isNamed sv_goes sv_goesSize sv_goesAt sv_targetParts sv_isRoot)), ((ma 0), .inl (cB, 400, .inl fX)), ((ma 1), .inl (cI, 40, .inl gK_72)), ((ma 2), .inl (cI, 40, .inl gP_73)), ((ma 4), .inl (cI, 40, .inl gO_74)), ((ma 5), .inl (cI, 40, .inl gG_75)), ((ma 6), .inl (cI, 40, .inl gSz_76)), ((ma 7), .inl (cI, 40, .inl gSd_77)), ((ma 8), .inl (cB, 1200, .inl gN_78)), ((ma 9), .inl (cI, 40, .inl gNS_79)), ((ma 10), .inl (cB, 8000, .inl gT_80)), ((ma 11), .inl (cI, 40, .inl gTS_81)), ((ma 3), .inl (cI, 40, .inl fM))]) [1, 2, 3, 4, 5, 6, 7, 8, 9, 10, 11, 12, 0] (by decide) rfl
                    exact W.iret (v := r70) hx hb hr (fun t ht hW => ⟨⟨r70, (0, nd_71, gK_72, gP_73, gO_74, gG_75, gSz_76, gSd_77, gN_78, gNS_79, gT_80, gTS_81, fM), rfl, ⟨hT_84, hU_85⟩, by rw [ht]; exact hP9, hD9⟩, hS.F ht⟩) hS.2.2 d_DiscMakerModel_link_164
                  · skip
                    have g149_201 : ¬ r70.toInt < 0 := fun h8 => h_9 ((i_lt rfl (by decide)).mpr h8)
                    refine lv_aload_n hx hb d_DiscMakerModel_link_152 rfl (lv_at hl 1 rfl) ?_
                    refine va_get (D := D) (ci := 11) (v := .ref (ma 3)) (C := "DiscMakerModel") (T := F_DiscMakerModel) (N := 48) hx hb ht9 in_DiscMakerModel hown hK hP 1 rfl rfl 6 (by decide) (ht9 _ k1437) (fun _ h9 => h9) rfl d_DiscMakerModel_link_153 ?_
                    refine lv_iload hx hb d_DiscMakerModel_link_156 (lv_at hl 0 rfl) ?_
                    refine lv_sipush (v := 511) hx hb d_DiscMakerModel_link_158 (by decide) ?_
                    refine zq_iast hx hb hK hP hD hS 0 1 rfl rfl (vp_in_iff.mpr ⟨by omega, by omega⟩) d_DiscMakerModel_link_161 (fun f86 e_f86 H locs hP hD hS => ?_)
                    have hP : va_P D CL [((ma 3), .inl (cI, 40, .inl f86)), (h0, .inr (11, MO ma 0 0 nd_71 sv_many sv_directories sv_runsFrom sv_runs sv_read sv_wrong sv_isNamed sv_goes sv_goesSize sv_goesAt sv_targetParts sv_isRoot)), ((ma 0), .inl (cB, 400, .inl fX)), ((ma 1), .inl (cI, 40, .inl gK_72)), ((ma 2), .inl (cI, 40, .inl gP_73)), ((ma 4), .inl (cI, 40, .inl gO_74)), ((ma 5), .inl (cI, 40, .inl gG_75)), ((ma 6), .inl (cI, 40, .inl gSz_76)), ((ma 7), .inl (cI, 40, .inl gSd_77)), ((ma 8), .inl (cB, 1200, .inl gN_78)), ((ma 9), .inl (cI, 40, .inl gNS_79)), ((ma 10), .inl (cB, 8000, .inl gT_80)), ((ma 11), .inl (cI, 40, .inl gTS_81))] H := hP
                    have hD : va_D A [((ma 3), .inl (cI, 40, .inl f86)), (h0, .inr (11, MO ma 0 0 nd_71 sv_many sv_directories sv_runsFrom sv_runs sv_read sv_wrong sv_isNamed sv_goes sv_goesSize sv_goesAt sv_targetParts sv_isRoot)), ((ma 0), .inl (cB, 400, .inl fX)), ((ma 1), .inl (cI, 40, .inl gK_72)), ((ma 2), .inl (cI, 40, .inl gP_73)), ((ma 4), .inl (cI, 40, .inl gO_74)), ((ma 5), .inl (cI, 40, .inl gG_75)), ((ma 6), .inl (cI, 40, .inl gSz_76)), ((ma 7), .inl (cI, 40, .inl gSd_77)), ((ma 8), .inl (cB, 1200, .inl gN_78)), ((ma 9), .inl (cI, 40, .inl gNS_79)), ((ma 10), .inl (cB, 8000, .inl gT_80)), ((ma 11), .inl (cI, 40, .inl gTS_81))] := hD
                    have s_f86 : f86 r70.toNatClampNeg = 511 := by rw [e_f86]; unfold upd; rw [if_pos (by first | rfl | decide)]
                    refine lv_iload hx hb d_DiscMakerModel_link_162 (lv_at hl 0 rfl) ?_
                    have hP9 := hP.sub (ws' := [(h0, .inr (11, MO ma 0 0 nd_71 sv_many sv_directories sv_runsFrom sv_runs sv_read sv_wrong sv_isNamed sv_goes sv_goesSize sv_goesAt sv_targetParts sv_isRoot)), ((ma 0), .inl (cB, 400, .inl fX)), ((ma 1), .inl (cI, 40, .inl gK_72)), ((ma 2), .inl (cI, 40, .inl gP_73)), ((ma 4), .inl (cI, 40, .inl gO_74)), ((ma 5), .inl (cI, 40, .inl gG_75)), ((ma 6), .inl (cI, 40, .inl gSz_76)), ((ma 7), .inl (cI, 40, .inl gSd_77)), ((ma 8), .inl (cB, 1200, .inl gN_78)), ((ma 9), .inl (cI, 40, .inl gNS_79)), ((ma 10), .inl (cB, 8000, .inl gT_80)), ((ma 11), .inl (cI, 40, .inl gTS_81)), ((ma 3), .inl (cI, 40, .inl f86))]) [1, 2, 3, 4, 5, 6, 7, 8, 9, 10, 11, 12, 0] rfl
                    have hD9 := hD.sub (ws' := [(h0, .inr (11, MO ma 0 0 nd_71 sv_many sv_directories sv_runsFrom sv_runs sv_read sv_wrong sv_isNamed sv_goes sv_goesSize sv_goesAt sv_targetParts sv_isRoot)), ((ma 0), .inl (cB, 400, .inl fX)), ((ma 1), .inl (cI, 40, .inl gK_72)), ((ma 2), .inl (cI, 40, .inl gP_73)), ((ma 4), .inl (cI, 40, .inl gO_74)), ((ma 5), .inl (cI, 40, .inl gG_75)), ((ma 6), .inl (cI, 40, .inl gSz_76)), ((ma 7), .inl (cI, 40, .inl gSd_77)), ((ma 8), .inl (cB, 1200, .inl gN_78)), ((ma 9), .inl (cI, 40, .inl gNS_79)), ((ma 10), .inl (cB, 8000, .inl gT_80)), ((ma 11), .inl (cI, 40, .inl gTS_81)), ((ma 3), .inl (cI, 40, .inl f86))]) [1, 2, 3, 4, 5, 6, 7, 8, 9, 10, 11, 12, 0] (by decide) rfl
                    exact W.iret (v := r70) hx hb hr (fun t ht hW => ⟨⟨r70, (0, nd_71, gK_72, gP_73, gO_74, gG_75, gSz_76, gSd_77, gN_78, gNS_79, gT_80, gTS_81, f86), rfl, ⟨hT_84, hU_85⟩, by rw [ht]; exact hP9, hD9⟩, hS.F ht⟩) hS.2.2 d_DiscMakerModel_link_164
                · skip
                  intro kk142
                  refine lv_iload hx hb d_DiscMakerModel_link_118 (lv_at hl 4 rfl) ?_
                  refine lv_if_eq (tgt := 141) hx hb d_DiscMakerModel_link_120 (by decide) (fun h_9 => ?_) (fun h_9 => ?_)
                  · skip
                    have g120_212 : rh.toInt = 0 := (i_eq rfl (by decide)).mp h_9
                    refine lv_iconst (v := 0) hx hb d_DiscMakerModel_link_141 (by decide) ?_
                    have hP := hP.sub (ws' := [(h0, .inr (11, MO ma 0 sv_length sv_nodes sv_many sv_directories sv_runsFrom sv_runs sv_read sv_wrong sv_isNamed sv_goes sv_goesSize sv_goesAt sv_targetParts sv_isRoot)), ((ma 0), .inl (cB, 400, .inl fX)), ((ma 1), .inl (cI, 40, .inl fK)), ((ma 2), .inl (cI, 40, .inl fP)), ((ma 4), .inl (cI, 40, .inl fO)), ((ma 5), .inl (cI, 40, .inl fG)), ((ma 6), .inl (cI, 40, .inl fSz)), ((ma 7), .inl (cI, 40, .inl fSd)), ((ma 8), .inl (cB, 1200, .inl fN)), ((ma 9), .inl (cI, 40, .inl fNS)), ((ma 10), .inl (cB, 8000, .inl fT)), ((ma 11), .inl (cI, 40, .inl fTS)), ((ma 3), .inl (cI, 40, .inl fM))]) [0, 1, 2, 3, 4, 5, 6, 7, 8, 9, 10, 11, 12] rfl
                    have hD := hD.sub (ws' := [(h0, .inr (11, MO ma 0 sv_length sv_nodes sv_many sv_directories sv_runsFrom sv_runs sv_read sv_wrong sv_isNamed sv_goes sv_goesSize sv_goesAt sv_targetParts sv_isRoot)), ((ma 0), .inl (cB, 400, .inl fX)), ((ma 1), .inl (cI, 40, .inl fK)), ((ma 2), .inl (cI, 40, .inl fP)), ((ma 4), .inl (cI, 40, .inl fO)), ((ma 5), .inl (cI, 40, .inl fG)), ((ma 6), .inl (cI, 40, .inl fSz)), ((ma 7), .inl (cI, 40, .inl fSd)), ((ma 8), .inl (cB, 1200, .inl fN)), ((ma 9), .inl (cI, 40, .inl fNS)), ((ma 10), .inl (cB, 8000, .inl fT)), ((ma 11), .inl (cI, 40, .inl fTS)), ((ma 3), .inl (cI, 40, .inl fM))]) [0, 1, 2, 3, 4, 5, 6, 7, 8, 9, 10, 11, 12] (by decide) rfl
                    have hl := lv_sub hl [0, 1, 2, 3, 4, 5] rfl
                    exact kk142 _ _ _ _ _ ⟨0, rfl, rfl, (by (try dsimp only); first | assumption | omega | trivial), (by (try dsimp only); first | assumption | omega | trivial), hP, hD, hS, hl⟩
                  · skip
                    have g120_212 : ¬ rh.toInt = 0 := fun h8 => h_9 ((i_eq rfl (by decide)).mpr h8)
                    refine lv_aload_n hx hb d_DiscMakerModel_link_123 rfl (lv_at hl 0 rfl) ?_
                    refine lv_iload_n hx hb d_DiscMakerModel_link_124 rfl (lv_at hl 3 rfl) ?_
                    refine lv_iload_n hx hb d_DiscMakerModel_link_125 rfl (lv_at hl 2 rfl) ?_
                    refine lv_iconst (v := 1) hx hb d_DiscMakerModel_link_126 (by decide) ?_
                    refine lv_iadd hx hb d_DiscMakerModel_link_127 ?_
                    refine lv_topi (fun v87 e_v87 => ?_)
                    have t_v87 : v87.toInt = nn.toInt + 1 := by rw [e_v87]; exact i_add rfl (by decide) (by omega) (by omega)
                    have hPc := hP.sub (ws' := [(h0, .inr (11, MO ma 0 sv_length sv_nodes sv_many sv_directories sv_runsFrom sv_runs sv_read sv_wrong sv_isNamed sv_goes sv_goesSize sv_goesAt sv_targetParts sv_isRoot)), ((ma 0), .inl (cB, 400, .inl fX))]) [0, 1] rfl
                    have hDc := hD.sub (ws' := [(h0, .inr (11, MO ma 0 sv_length sv_nodes sv_many sv_directories sv_runsFrom sv_runs sv_read sv_wrong sv_isNamed sv_goes sv_goesSize sv_goesAt sv_targetParts sv_isRoot)), ((ma 0), .inl (cB, 400, .inl fX))]) [0, 1] (by decide) rfl
                    have hFc := va_free (wc := [(h0, .inr (11, MO ma 0 sv_length sv_nodes sv_many sv_directories sv_runsFrom sv_runs sv_read sv_wrong sv_isNamed sv_goes sv_goesSize sv_goesAt sv_targetParts sv_isRoot)), ((ma 0), .inl (cB, 400, .inl fX))]) hD hS hA [0, 1] rfl
                    have hkc : 0 ≤ 0 := by decide
                    have hks : 0 ≤ 0 := by decide
                    refine va_calli (va_runV (C := "DiscMakerModel") (As := [.int v49, .int v87]) (rest := [.int nn, .int 2, .int x, .ref h0]) ⟨hx, hb, hml, hown, hts⟩ (m_componentsOf l D cB cI cJ cZ cN cF H.size h0 ma 0 sv_length sv_nodes sv_many sv_directories sv_runsFrom sv_runs sv_read sv_wrong sv_isNamed sv_goes sv_goesSize sv_goesAt sv_targetParts sv_isRoot fX v49 v87 (by (try dsimp only); first | assumption | omega | trivial) (by (try dsimp only); first | assumption | omega | trivial)) (cwV 2 hts (lg_goodV k1636 k1638 k59 k125 kc_DiscMakerModel_componentsOf) rfl rfl rfl (by decide +kernel) ⟨Nat.le_of_ble_eq_true rfl, Nat.le_of_ble_eq_true rfl⟩) ⟨fun a U g mk q => by obtain ⟨q0, q1, qP, qK, qN, qD⟩ := q; exact ⟨q0, q1, qP, va_K.moved (u := U) (U := U.calling g mk a) (Vm.Alike.refl U.vm) qK, qN.calling, qD⟩, va_recv hK hP (ci := 11) (q0 := 0) rfl rfl, fun U hU hW => ⟨rfl, by rw [hU], by rw [hU]; exact hPc, va_K.moved hW.alike hK, NN.warm hW hN, hDc.weaken (fun _ _ _ _ => trivial)⟩⟩ rfl rfl hl.1 rfl (lv_room (Nat.le_of_ble_eq_true rfl)) d_DiscMakerModel_link_128 ⟨hkc, hks⟩) hS (fun q _ h => hFc q h) hFc (fun r88 u t H1 locs ht hvm hp_r88 hB hz1 hk1 hS => ?_)
                    obtain ⟨hP1, hD1⟩ := hB
                    rw [ht] at hP1
                    obtain ⟨hP, hD⟩ := va_join (wr := [((ma 1), .inl (cI, 40, .inl fK)), ((ma 2), .inl (cI, 40, .inl fP)), ((ma 4), .inl (cI, 40, .inl fO)), ((ma 5), .inl (cI, 40, .inl fG)), ((ma 6), .inl (cI, 40, .inl fSz)), ((ma 7), .inl (cI, 40, .inl fSd)), ((ma 8), .inl (cB, 1200, .inl fN)), ((ma 9), .inl (cI, 40, .inl fNS)), ((ma 10), .inl (cB, 8000, .inl fT)), ((ma 11), .inl (cI, 40, .inl fTS)), ((ma 3), .inl (cI, 40, .inl fM))]) (w1 := [(h0, .inr (11, MO ma 0 sv_length sv_nodes sv_many sv_directories sv_runsFrom sv_runs sv_read sv_wrong sv_isNamed sv_goes sv_goesSize sv_goesAt sv_targetParts sv_isRoot)), ((ma 0), .inl (cB, 400, .inl fX))]) hP hD [0, 1] [2, 3, 4, 5, 6, 7, 8, 9, 10, 11, 12] rfl rfl (by decide) (by decide) hk1 hFc hP1 hD1
                    clear hPc hDc hFc hP1 hD1 hk1 hz1
                    generalize H1 = H at hP hS ⊢
                    have hP : va_P D CL [((ma 1), .inl (cI, 40, .inl fK)), ((ma 2), .inl (cI, 40, .inl fP)), ((ma 4), .inl (cI, 40, .inl fO)), ((ma 5), .inl (cI, 40, .inl fG)), ((ma 6), .inl (cI, 40, .inl fSz)), ((ma 7), .inl (cI, 40, .inl fSd)), ((ma 8), .inl (cB, 1200, .inl fN)), ((ma 9), .inl (cI, 40, .inl fNS)), ((ma 10), .inl (cB, 8000, .inl fT)), ((ma 11), .inl (cI, 40, .inl fTS)), ((ma 3), .inl (cI, 40, .inl fM)), (h0, .inr (11, MO ma 0 sv_length sv_nodes sv_many sv_directories sv_runsFrom sv_runs sv_read sv_wrong sv_isNamed sv_goes sv_goesSize sv_goesAt sv_targetParts sv_isRoot)), ((ma 0), .inl (cB, 400, .inl fX))] H := hP
                    have hD : va_D A [((ma 1), .inl (cI, 40, .inl fK)), ((ma 2), .inl (cI, 40, .inl fP)), ((ma 4), .inl (cI, 40, .inl fO)), ((ma 5), .inl (cI, 40, .inl fG)), ((ma 6), .inl (cI, 40, .inl fSz)), ((ma 7), .inl (cI, 40, .inl fSd)), ((ma 8), .inl (cB, 1200, .inl fN)), ((ma 9), .inl (cI, 40, .inl fNS)), ((ma 10), .inl (cB, 8000, .inl fT)), ((ma 11), .inl (cI, 40, .inl fTS)), ((ma 3), .inl (cI, 40, .inl fM)), (h0, .inr (11, MO ma 0 sv_length sv_nodes sv_many sv_directories sv_runsFrom sv_runs sv_read sv_wrong sv_isNamed sv_goes sv_goesSize sv_goesAt sv_targetParts sv_isRoot)), ((ma 0), .inl (cB, 400, .inl fX))] := hD
                    refine lv_sipush (v := 245) hx hb d_DiscMakerModel_link_131 (by decide) ?_
                    refine lv_icmp_gt (tgt := 141) hx hb d_DiscMakerModel_link_134 (by decide) (fun h_9 => ?_) (fun h_9 => ?_)
                    · skip
                      have g134_222 : 245 < r88.toInt := (i_lt (by decide) rfl).mp h_9
                      refine lv_iconst (v := 0) hx hb d_DiscMakerModel_link_141 (by decide) ?_
                      have hP := hP.sub (ws' := [(h0, .inr (11, MO ma 0 sv_length sv_nodes sv_many sv_directories sv_runsFrom sv_runs sv_read sv_wrong sv_isNamed sv_goes sv_goesSize sv_goesAt sv_targetParts sv_isRoot)), ((ma 0), .inl (cB, 400, .inl fX)), ((ma 1), .inl (cI, 40, .inl fK)), ((ma 2), .inl (cI, 40, .inl fP)), ((ma 4), .inl (cI, 40, .inl fO)), ((ma 5), .inl (cI, 40, .inl fG)), ((ma 6), .inl (cI, 40, .inl fSz)), ((ma 7), .inl (cI, 40, .inl fSd)), ((ma 8), .inl (cB, 1200, .inl fN)), ((ma 9), .inl (cI, 40, .inl fNS)), ((ma 10), .inl (cB, 8000, .inl fT)), ((ma 11), .inl (cI, 40, .inl fTS)), ((ma 3), .inl (cI, 40, .inl fM))]) [11, 12, 0, 1, 2, 3, 4, 5, 6, 7, 8, 9, 10] rfl
                      have hD := hD.sub (ws' := [(h0, .inr (11, MO ma 0 sv_length sv_nodes sv_many sv_directories sv_runsFrom sv_runs sv_read sv_wrong sv_isNamed sv_goes sv_goesSize sv_goesAt sv_targetParts sv_isRoot)), ((ma 0), .inl (cB, 400, .inl fX)), ((ma 1), .inl (cI, 40, .inl fK)), ((ma 2), .inl (cI, 40, .inl fP)), ((ma 4), .inl (cI, 40, .inl fO)), ((ma 5), .inl (cI, 40, .inl fG)), ((ma 6), .inl (cI, 40, .inl fSz)), ((ma 7), .inl (cI, 40, .inl fSd)), ((ma 8), .inl (cB, 1200, .inl fN)), ((ma 9), .inl (cI, 40, .inl fNS)), ((ma 10), .inl (cB, 8000, .inl fT)), ((ma 11), .inl (cI, 40, .inl fTS)), ((ma 3), .inl (cI, 40, .inl fM))]) [11, 12, 0, 1, 2, 3, 4, 5, 6, 7, 8, 9, 10] (by decide) rfl
                      have hl := lv_sub hl [0, 1, 2, 3, 4, 5] rfl
                      exact kk142 _ _ _ _ _ ⟨0, rfl, rfl, (by (try dsimp only); first | assumption | omega | trivial), (by (try dsimp only); first | assumption | omega | trivial), hP, hD, hS, hl⟩
                    · skip
                      have g134_222 : ¬ 245 < r88.toInt := fun h8 => h_9 ((i_lt (by decide) rfl).mpr h8)
                      refine lv_iconst (v := 1) hx hb d_DiscMakerModel_link_137 (by decide) ?_
                      refine lv_goto (tgt := 142) hx hb d_DiscMakerModel_link_138 (by decide) ?_
                      have hP := hP.sub (ws' := [(h0, .inr (11, MO ma 0 sv_length sv_nodes sv_many sv_directories sv_runsFrom sv_runs sv_read sv_wrong sv_isNamed sv_goes sv_goesSize sv_goesAt sv_targetParts sv_isRoot)), ((ma 0), .inl (cB, 400, .inl fX)), ((ma 1), .inl (cI, 40, .inl fK)), ((ma 2), .inl (cI, 40, .inl fP)), ((ma 4), .inl (cI, 40, .inl fO)), ((ma 5), .inl (cI, 40, .inl fG)), ((ma 6), .inl (cI, 40, .inl fSz)), ((ma 7), .inl (cI, 40, .inl fSd)), ((ma 8), .inl (cB, 1200, .inl fN)), ((ma 9), .inl (cI, 40, .inl fNS)), ((ma 10), .inl (cB, 8000, .inl fT)), ((ma 11), .inl (cI, 40, .inl fTS)), ((ma 3), .inl (cI, 40, .inl fM))]) [11, 12, 0, 1, 2, 3, 4, 5, 6, 7, 8, 9, 10] rfl
                      have hD := hD.sub (ws' := [(h0, .inr (11, MO ma 0 sv_length sv_nodes sv_many sv_directories sv_runsFrom sv_runs sv_read sv_wrong sv_isNamed sv_goes sv_goesSize sv_goesAt sv_targetParts sv_isRoot)), ((ma 0), .inl (cB, 400, .inl fX)), ((ma 1), .inl (cI, 40, .inl fK)), ((ma 2), .inl (cI, 40, .inl fP)), ((ma 4), .inl (cI, 40, .inl fO)), ((ma 5), .inl (cI, 40, .inl fG)), ((ma 6), .inl (cI, 40, .inl fSz)), ((ma 7), .inl (cI, 40, .inl fSd)), ((ma 8), .inl (cB, 1200, .inl fN)), ((ma 9), .inl (cI, 40, .inl fNS)), ((ma 10), .inl (cB, 8000, .inl fT)), ((ma 11), .inl (cI, 40, .inl fTS)), ((ma 3), .inl (cI, 40, .inl fM))]) [11, 12, 0, 1, 2, 3, 4, 5, 6, 7, 8, 9, 10] (by decide) rfl
                      have hl := lv_sub hl [0, 1, 2, 3, 4, 5] rfl
                      exact kk142 _ _ _ _ _ ⟨1, rfl, rfl, (by (try dsimp only); first | assumption | omega | trivial), (by (try dsimp only); first | assumption | omega | trivial), hP, hD, hS, hl⟩
              · skip
                have g74_193 : ¬ rh.toInt = 0 := fun h8 => h_9 ((i_eq rfl (by decide)).mpr h8)
                refine lv_aload_n hx hb d_DiscMakerModel_link_77 rfl (lv_at hl 0 rfl) ?_
                refine va_get (D := D) (ci := 11) (v := .ref (ma 0)) (C := "DiscMakerModel") (T := F_DiscMakerModel) (N := 48) hx hb ht9 in_DiscMakerModel hown hK hP 0 rfl rfl 1 (by decide) (ht9 _ k1432) (fun _ h9 => h9) rfl d_DiscMakerModel_link_78 ?_
                refine lv_iload hx hb d_DiscMakerModel_link_81 (lv_at hl 5 rfl) ?_
                refine va_bald hx hb hK hP 1 0 rfl rfl (vp_in_iff.mpr ⟨by omega, by omega⟩) d_DiscMakerModel_link_83 ?_
                refine lv_topi (fun v89 e_v89 => ?_)
                refine lv_bipush (v := 33) hx hb d_DiscMakerModel_link_84 (by decide) ?_
                refine lv_icmp_lt (tgt := 105) hx hb d_DiscMakerModel_link_86 (by decide) (fun h_9 => ?_) (fun h_9 => ?_)
                · skip
                  have g86_233 : v89.toInt < 33 := (i_lt rfl (by decide)).mp h_9
                  refine lv_iconst (v := 0) hx hb d_DiscMakerModel_link_105 (by decide) ?_
                  refine lv_istore hx hb d_DiscMakerModel_link_106 hl (by decide) rfl (fun ls hl => ?_)
                  have hl : lv_has ls 6 [(4, .int 0), (0, .ref h0), (1, .int x), (2, .int nn), (3, .int v49), (5, .int kx)] := hl
                  obtain ⟨v90, e_v90⟩ : ∃ z : Int32, z = kx + 1 := ⟨_, rfl⟩
                  refine lv_iinc (v := v90) hx hb d_DiscMakerModel_link_108 hl (k := 5) rfl e_v90.symm (by decide) rfl (fun ls hl => ?_)
                  have t_v90 : v90.toInt = kx.toInt + 1 := by rw [e_v90]; exact i_add rfl (by decide) (by omega) (by omega)
                  have hl : lv_has ls 6 [(5, .int v90), (4, .int 0), (0, .ref h0), (1, .int x), (2, .int nn), (3, .int v49)] := hl
                  refine lv_goto (tgt := 63) hx hb d_DiscMakerModel_link_111 (by decide) ?_
                  have hP := hP.sub (ws' := [(h0, .inr (11, MO ma 0 sv_length sv_nodes sv_many sv_directories sv_runsFrom sv_runs sv_read sv_wrong sv_isNamed sv_goes sv_goesSize sv_goesAt sv_targetParts sv_isRoot)), ((ma 0), .inl (cB, 400, .inl fX)), ((ma 1), .inl (cI, 40, .inl fK)), ((ma 2), .inl (cI, 40, .inl fP)), ((ma 4), .inl (cI, 40, .inl fO)), ((ma 5), .inl (cI, 40, .inl fG)), ((ma 6), .inl (cI, 40, .inl fSz)), ((ma 7), .inl (cI, 40, .inl fSd)), ((ma 8), .inl (cB, 1200, .inl fN)), ((ma 9), .inl (cI, 40, .inl fNS)), ((ma 10), .inl (cB, 8000, .inl fT)), ((ma 11), .inl (cI, 40, .inl fTS)), ((ma 3), .inl (cI, 40, .inl fM))]) [0, 1, 2, 3, 4, 5, 6, 7, 8, 9, 10, 11, 12] rfl
                  have hD := hD.sub (ws' := [(h0, .inr (11, MO ma 0 sv_length sv_nodes sv_many sv_directories sv_runsFrom sv_runs sv_read sv_wrong sv_isNamed sv_goes sv_goesSize sv_goesAt sv_targetParts sv_isRoot)), ((ma 0), .inl (cB, 400, .inl fX)), ((ma 1), .inl (cI, 40, .inl fK)), ((ma 2), .inl (cI, 40, .inl fP)), ((ma 4), .inl (cI, 40, .inl fO)), ((ma 5), .inl (cI, 40, .inl fG)), ((ma 6), .inl (cI, 40, .inl fSz)), ((ma 7), .inl (cI, 40, .inl fSd)), ((ma 8), .inl (cB, 1200, .inl fN)), ((ma 9), .inl (cI, 40, .inl fNS)), ((ma 10), .inl (cB, 8000, .inl fT)), ((ma 11), .inl (cI, 40, .inl fTS)), ((ma 3), .inl (cI, 40, .inl fM))]) [0, 1, 2, 3, 4, 5, 6, 7, 8, 9, 10, 11, 12] (by decide) rfl
                  have hl := lv_sub hl [2, 3, 4, 5, 1, 0] rfl
                  exact ih63 (_) (by first | omega | (dsimp only; omega)) _ _ _ _ ⟨0, v90, rfl, rfl, (by (try dsimp only); first | assumption | omega | trivial), (by (try dsimp only); first | assumption | omega | trivial), (by (try dsimp only); first | assumption | omega | trivial), hP, hD, hS, hl⟩
                · skip
                  have g86_233 : ¬ v89.toInt < 33 := fun h8 => h_9 ((i_lt rfl (by decide)).mpr h8)
                  refine lv_aload_n hx hb d_DiscMakerModel_link_89 rfl (lv_at hl 0 rfl) ?_
                  refine va_get (D := D) (ci := 11) (v := .ref (ma 0)) (C := "DiscMakerModel") (T := F_DiscMakerModel) (N := 48) hx hb ht9 in_DiscMakerModel hown hK hP 0 rfl rfl 1 (by decide) (ht9 _ k1432) (fun _ h9 => h9) rfl d_DiscMakerModel_link_90 ?_
                  refine lv_iload hx hb d_DiscMakerModel_link_93 (lv_at hl 5 rfl) ?_
                  refine va_bald hx hb hK hP 1 0 rfl rfl (vp_in_iff.mpr ⟨by omega, by omega⟩) d_DiscMakerModel_link_95 ?_
                  refine lv_topi (fun v91 e_v91 => ?_)
                  have q_v91 : v91.toInt = v89.toInt := by rw [e_v91, e_v89]
                  refine lv_bipush (v := 126) hx hb d_DiscMakerModel_link_96 (by decide) ?_
                  refine lv_icmp_gt (tgt := 105) hx hb d_DiscMakerModel_link_98 (by decide) (fun h_9 => ?_) (fun h_9 => ?_)
                  · skip
                    have g98_244 : 126 < v91.toInt := (i_lt (by decide) rfl).mp h_9
                    refine lv_iconst (v := 0) hx hb d_DiscMakerModel_link_105 (by decide) ?_
                    refine lv_istore hx hb d_DiscMakerModel_link_106 hl (by decide) rfl (fun ls hl => ?_)
                    have hl : lv_has ls 6 [(4, .int 0), (0, .ref h0), (1, .int x), (2, .int nn), (3, .int v49), (5, .int kx)] := hl
                    obtain ⟨v92, e_v92⟩ : ∃ z : Int32, z = kx + 1 := ⟨_, rfl⟩
                    refine lv_iinc (v := v92) hx hb d_DiscMakerModel_link_108 hl (k := 5) rfl e_v92.symm (by decide) rfl (fun ls hl => ?_)
                    have t_v92 : v92.toInt = kx.toInt + 1 := by rw [e_v92]; exact i_add rfl (by decide) (by omega) (by omega)
                    have hl : lv_has ls 6 [(5, .int v92), (4, .int 0), (0, .ref h0), (1, .int x), (2, .int nn), (3, .int v49)] := hl
                    refine lv_goto (tgt := 63) hx hb d_DiscMakerModel_link_111 (by decide) ?_
                    have hP := hP.sub (ws' := [(h0, .inr (11, MO ma 0 sv_length sv_nodes sv_many sv_directories sv_runsFrom sv_runs sv_read sv_wrong sv_isNamed sv_goes sv_goesSize sv_goesAt sv_targetParts sv_isRoot)), ((ma 0), .inl (cB, 400, .inl fX)), ((ma 1), .inl (cI, 40, .inl fK)), ((ma 2), .inl (cI, 40, .inl fP)), ((ma 4), .inl (cI, 40, .inl fO)), ((ma 5), .inl (cI, 40, .inl fG)), ((ma 6), .inl (cI, 40, .inl fSz)), ((ma 7), .inl (cI, 40, .inl fSd)), ((ma 8), .inl (cB, 1200, .inl fN)), ((ma 9), .inl (cI, 40, .inl fNS)), ((ma 10), .inl (cB, 8000, .inl fT)), ((ma 11), .inl (cI, 40, .inl fTS)), ((ma 3), .inl (cI, 40, .inl fM))]) [0, 1, 2, 3, 4, 5, 6, 7, 8, 9, 10, 11, 12] rfl
                    have hD := hD.sub (ws' := [(h0, .inr (11, MO ma 0 sv_length sv_nodes sv_many sv_directories sv_runsFrom sv_runs sv_read sv_wrong sv_isNamed sv_goes sv_goesSize sv_goesAt sv_targetParts sv_isRoot)), ((ma 0), .inl (cB, 400, .inl fX)), ((ma 1), .inl (cI, 40, .inl fK)), ((ma 2), .inl (cI, 40, .inl fP)), ((ma 4), .inl (cI, 40, .inl fO)), ((ma 5), .inl (cI, 40, .inl fG)), ((ma 6), .inl (cI, 40, .inl fSz)), ((ma 7), .inl (cI, 40, .inl fSd)), ((ma 8), .inl (cB, 1200, .inl fN)), ((ma 9), .inl (cI, 40, .inl fNS)), ((ma 10), .inl (cB, 8000, .inl fT)), ((ma 11), .inl (cI, 40, .inl fTS)), ((ma 3), .inl (cI, 40, .inl fM))]) [0, 1, 2, 3, 4, 5, 6, 7, 8, 9, 10, 11, 12] (by decide) rfl
                    have hl := lv_sub hl [2, 3, 4, 5, 1, 0] rfl
                    exact ih63 (_) (by first | omega | (dsimp only; omega)) _ _ _ _ ⟨0, v92, rfl, rfl, (by (try dsimp only); first | assumption | omega | trivial), (by (try dsimp only); first | assumption | omega | trivial), (by (try dsimp only); first | assumption | omega | trivial), hP, hD, hS, hl⟩
                  · skip
                    have g98_244 : ¬ 126 < v91.toInt := fun h8 => h_9 ((i_lt (by decide) rfl).mpr h8)
                    refine lv_iconst (v := 1) hx hb d_DiscMakerModel_link_101 (by decide) ?_
                    refine lv_goto (tgt := 106) hx hb d_DiscMakerModel_link_102 (by decide) ?_
                    refine lv_istore hx hb d_DiscMakerModel_link_106 hl (by decide) rfl (fun ls hl => ?_)
                    have hl : lv_has ls 6 [(4, .int 1), (0, .ref h0), (1, .int x), (2, .int nn), (3, .int v49), (5, .int kx)] := hl
                    obtain ⟨v93, e_v93⟩ : ∃ z : Int32, z = kx + 1 := ⟨_, rfl⟩
                    refine lv_iinc (v := v93) hx hb d_DiscMakerModel_link_108 hl (k := 5) rfl e_v93.symm (by decide) rfl (fun ls hl => ?_)
                    have t_v93 : v93.toInt = kx.toInt + 1 := by rw [e_v93]; exact i_add rfl (by decide) (by omega) (by omega)
                    have hl : lv_has ls 6 [(5, .int v93), (4, .int 1), (0, .ref h0), (1, .int x), (2, .int nn), (3, .int v49)] := hl
                    refine lv_goto (tgt := 63) hx hb d_DiscMakerModel_link_111 (by decide) ?_
                    have hP := hP.sub (ws' := [(h0, .inr (11, MO ma 0 sv_length sv_nodes sv_many sv_directories sv_runsFrom sv_runs sv_read sv_wrong sv_isNamed sv_goes sv_goesSize sv_goesAt sv_targetParts sv_isRoot)), ((ma 0), .inl (cB, 400, .inl fX)), ((ma 1), .inl (cI, 40, .inl fK)), ((ma 2), .inl (cI, 40, .inl fP)), ((ma 4), .inl (cI, 40, .inl fO)), ((ma 5), .inl (cI, 40, .inl fG)), ((ma 6), .inl (cI, 40, .inl fSz)), ((ma 7), .inl (cI, 40, .inl fSd)), ((ma 8), .inl (cB, 1200, .inl fN)), ((ma 9), .inl (cI, 40, .inl fNS)), ((ma 10), .inl (cB, 8000, .inl fT)), ((ma 11), .inl (cI, 40, .inl fTS)), ((ma 3), .inl (cI, 40, .inl fM))]) [0, 1, 2, 3, 4, 5, 6, 7, 8, 9, 10, 11, 12] rfl
                    have hD := hD.sub (ws' := [(h0, .inr (11, MO ma 0 sv_length sv_nodes sv_many sv_directories sv_runsFrom sv_runs sv_read sv_wrong sv_isNamed sv_goes sv_goesSize sv_goesAt sv_targetParts sv_isRoot)), ((ma 0), .inl (cB, 400, .inl fX)), ((ma 1), .inl (cI, 40, .inl fK)), ((ma 2), .inl (cI, 40, .inl fP)), ((ma 4), .inl (cI, 40, .inl fO)), ((ma 5), .inl (cI, 40, .inl fG)), ((ma 6), .inl (cI, 40, .inl fSz)), ((ma 7), .inl (cI, 40, .inl fSd)), ((ma 8), .inl (cB, 1200, .inl fN)), ((ma 9), .inl (cI, 40, .inl fNS)), ((ma 10), .inl (cB, 8000, .inl fT)), ((ma 11), .inl (cI, 40, .inl fTS)), ((ma 3), .inl (cI, 40, .inl fM))]) [0, 1, 2, 3, 4, 5, 6, 7, 8, 9, 10, 11, 12] (by decide) rfl
                    have hl := lv_sub hl [2, 3, 4, 5, 1, 0] rfl
                    exact ih63 (_) (by first | omega | (dsimp only; omega)) _ _ _ _ ⟨1, v93, rfl, rfl, (by (try dsimp only); first | assumption | omega | trivial), (by (try dsimp only); first | assumption | omega | trivial), (by (try dsimp only); first | assumption | omega | trivial), hP, hD, hS, hl⟩
          · skip
            intro kk63
            have hP := hP.sub (ws' := [(h0, .inr (11, MO ma 0 sv_length sv_nodes sv_many sv_directories sv_runsFrom sv_runs sv_read sv_wrong sv_isNamed sv_goes sv_goesSize sv_goesAt sv_targetParts sv_isRoot)), ((ma 0), .inl (cB, 400, .inl fX)), ((ma 1), .inl (cI, 40, .inl fK)), ((ma 2), .inl (cI, 40, .inl fP)), ((ma 4), .inl (cI, 40, .inl fO)), ((ma 5), .inl (cI, 40, .inl fG)), ((ma 6), .inl (cI, 40, .inl fSz)), ((ma 7), .inl (cI, 40, .inl fSd)), ((ma 8), .inl (cB, 1200, .inl fN)), ((ma 9), .inl (cI, 40, .inl fNS)), ((ma 10), .inl (cB, 8000, .inl fT)), ((ma 11), .inl (cI, 40, .inl fTS)), ((ma 3), .inl (cI, 40, .inl fM))]) [0, 1, 2, 3, 4, 5, 6, 7, 8, 9, 10, 11, 12] rfl
            have hD := hD.sub (ws' := [(h0, .inr (11, MO ma 0 sv_length sv_nodes sv_many sv_directories sv_runsFrom sv_runs sv_read sv_wrong sv_isNamed sv_goes sv_goesSize sv_goesAt sv_targetParts sv_isRoot)), ((ma 0), .inl (cB, 400, .inl fX)), ((ma 1), .inl (cI, 40, .inl fK)), ((ma 2), .inl (cI, 40, .inl fP)), ((ma 4), .inl (cI, 40, .inl fO)), ((ma 5), .inl (cI, 40, .inl fG)), ((ma 6), .inl (cI, 40, .inl fSz)), ((ma 7), .inl (cI, 40, .inl fSd)), ((ma 8), .inl (cB, 1200, .inl fN)), ((ma 9), .inl (cI, 40, .inl fNS)), ((ma 10), .inl (cB, 8000, .inl fT)), ((ma 11), .inl (cI, 40, .inl fTS)), ((ma 3), .inl (cI, 40, .inl fM))]) [0, 1, 2, 3, 4, 5, 6, 7, 8, 9, 10, 11, 12] (by decide) rfl
            have hl := lv_sub hl [2, 3, 4, 5, 1, 0] rfl
            exact kk63 _ _ _ _ _ ⟨rg, v50, rfl, rfl, (by (try dsimp only); first | assumption | omega | trivial), (by (try dsimp only); first | assumption | omega | trivial), (by (try dsimp only); first | assumption | omega | trivial), hP, hD, hS, hl⟩
        · skip
          intro kk56
          refine lv_iload_n hx hb d_DiscMakerModel_link_39 rfl (lv_at hl 0 rfl) ?_
          refine lv_iconst (v := 1) hx hb d_DiscMakerModel_link_40 (by decide) ?_
          refine lv_icmp_lt (tgt := 55) hx hb d_DiscMakerModel_link_41 (by decide) (fun h_9 => ?_) (fun h_9 => ?_)
          · skip
            have g41_258 : v49.toInt < 1 := (i_lt rfl (by decide)).mp h_9
            refine lv_iconst (v := 0) hx hb d_DiscMakerModel_link_55 (by decide) ?_
            have hP := hP.sub (ws' := [(h0, .inr (11, MO ma 0 sv_length sv_nodes sv_many sv_directories sv_runsFrom sv_runs sv_read sv_wrong sv_isNamed sv_goes sv_goesSize sv_goesAt sv_targetParts sv_isRoot)), ((ma 0), .inl (cB, 400, .inl fX)), ((ma 1), .inl (cI, 40, .inl fK)), ((ma 2), .inl (cI, 40, .inl fP)), ((ma 4), .inl (cI, 40, .inl fO)), ((ma 5), .inl (cI, 40, .inl fG)), ((ma 6), .inl (cI, 40, .inl fSz)), ((ma 7), .inl (cI, 40, .inl fSd)), ((ma 8), .inl (cB, 1200, .inl fN)), ((ma 9), .inl (cI, 40, .inl fNS)), ((ma 10), .inl (cB, 8000, .inl fT)), ((ma 11), .inl (cI, 40, .inl fTS)), ((ma 3), .inl (cI, 40, .inl fM))]) [0, 1, 2, 3, 4, 5, 6, 7, 8, 9, 10, 11, 12] rfl
            have hD := hD.sub (ws' := [(h0, .inr (11, MO ma 0 sv_length sv_nodes sv_many sv_directories sv_runsFrom sv_runs sv_read sv_wrong sv_isNamed sv_goes sv_goesSize sv_goesAt sv_targetParts sv_isRoot)), ((ma 0), .inl (cB, 400, .inl fX)), ((ma 1), .inl (cI, 40, .inl fK)), ((ma 2), .inl (cI, 40, .inl fP)), ((ma 4), .inl (cI, 40, .inl fO)), ((ma 5), .inl (cI, 40, .inl fG)), ((ma 6), .inl (cI, 40, .inl fSz)), ((ma 7), .inl (cI, 40, .inl fSd)), ((ma 8), .inl (cB, 1200, .inl fN)), ((ma 9), .inl (cI, 40, .inl fNS)), ((ma 10), .inl (cB, 8000, .inl fT)), ((ma 11), .inl (cI, 40, .inl fTS)), ((ma 3), .inl (cI, 40, .inl fM))]) [0, 1, 2, 3, 4, 5, 6, 7, 8, 9, 10, 11, 12] (by decide) rfl
            have hl := lv_sub hl [1, 2, 3, 0] rfl
            exact kk56 _ _ _ _ _ ⟨0, rfl, rfl, (by (try dsimp only); first | assumption | omega | trivial), (by (try dsimp only); first | assumption | omega | trivial), hP, hD, hS, hl⟩
          · skip
            have g41_258 : ¬ v49.toInt < 1 := fun h8 => h_9 ((i_lt rfl (by decide)).mpr h8)
            refine lv_iload_n hx hb d_DiscMakerModel_link_44 rfl (lv_at hl 0 rfl) ?_
            refine lv_sipush (v := 200) hx hb d_DiscMakerModel_link_45 (by decide) ?_
            refine lv_icmp_gt (tgt := 55) hx hb d_DiscMakerModel_link_48 (by decide) (fun h_9 => ?_) (fun h_9 => ?_)
            · skip
              have g48_263 : 200 < v49.toInt := (i_lt (by decide) rfl).mp h_9
              refine lv_iconst (v := 0) hx hb d_DiscMakerModel_link_55 (by decide) ?_
              have hP := hP.sub (ws' := [(h0, .inr (11, MO ma 0 sv_length sv_nodes sv_many sv_directories sv_runsFrom sv_runs sv_read sv_wrong sv_isNamed sv_goes sv_goesSize sv_goesAt sv_targetParts sv_isRoot)), ((ma 0), .inl (cB, 400, .inl fX)), ((ma 1), .inl (cI, 40, .inl fK)), ((ma 2), .inl (cI, 40, .inl fP)), ((ma 4), .inl (cI, 40, .inl fO)), ((ma 5), .inl (cI, 40, .inl fG)), ((ma 6), .inl (cI, 40, .inl fSz)), ((ma 7), .inl (cI, 40, .inl fSd)), ((ma 8), .inl (cB, 1200, .inl fN)), ((ma 9), .inl (cI, 40, .inl fNS)), ((ma 10), .inl (cB, 8000, .inl fT)), ((ma 11), .inl (cI, 40, .inl fTS)), ((ma 3), .inl (cI, 40, .inl fM))]) [0, 1, 2, 3, 4, 5, 6, 7, 8, 9, 10, 11, 12] rfl
              have hD := hD.sub (ws' := [(h0, .inr (11, MO ma 0 sv_length sv_nodes sv_many sv_directories sv_runsFrom sv_runs sv_read sv_wrong sv_isNamed sv_goes sv_goesSize sv_goesAt sv_targetParts sv_isRoot)), ((ma 0), .inl (cB, 400, .inl fX)), ((ma 1), .inl (cI, 40, .inl fK)), ((ma 2), .inl (cI, 40, .inl fP)), ((ma 4), .inl (cI, 40, .inl fO)), ((ma 5), .inl (cI, 40, .inl fG)), ((ma 6), .inl (cI, 40, .inl fSz)), ((ma 7), .inl (cI, 40, .inl fSd)), ((ma 8), .inl (cB, 1200, .inl fN)), ((ma 9), .inl (cI, 40, .inl fNS)), ((ma 10), .inl (cB, 8000, .inl fT)), ((ma 11), .inl (cI, 40, .inl fTS)), ((ma 3), .inl (cI, 40, .inl fM))]) [0, 1, 2, 3, 4, 5, 6, 7, 8, 9, 10, 11, 12] (by decide) rfl
              have hl := lv_sub hl [1, 2, 3, 0] rfl
              exact kk56 _ _ _ _ _ ⟨0, rfl, rfl, (by (try dsimp only); first | assumption | omega | trivial), (by (try dsimp only); first | assumption | omega | trivial), hP, hD, hS, hl⟩
            · skip
              have g48_263 : ¬ 200 < v49.toInt := fun h8 => h_9 ((i_lt (by decide) rfl).mpr h8)
              refine lv_iconst (v := 1) hx hb d_DiscMakerModel_link_51 (by decide) ?_
              refine lv_goto (tgt := 56) hx hb d_DiscMakerModel_link_52 (by decide) ?_
              have hP := hP.sub (ws' := [(h0, .inr (11, MO ma 0 sv_length sv_nodes sv_many sv_directories sv_runsFrom sv_runs sv_read sv_wrong sv_isNamed sv_goes sv_goesSize sv_goesAt sv_targetParts sv_isRoot)), ((ma 0), .inl (cB, 400, .inl fX)), ((ma 1), .inl (cI, 40, .inl fK)), ((ma 2), .inl (cI, 40, .inl fP)), ((ma 4), .inl (cI, 40, .inl fO)), ((ma 5), .inl (cI, 40, .inl fG)), ((ma 6), .inl (cI, 40, .inl fSz)), ((ma 7), .inl (cI, 40, .inl fSd)), ((ma 8), .inl (cB, 1200, .inl fN)), ((ma 9), .inl (cI, 40, .inl fNS)), ((ma 10), .inl (cB, 8000, .inl fT)), ((ma 11), .inl (cI, 40, .inl fTS)), ((ma 3), .inl (cI, 40, .inl fM))]) [0, 1, 2, 3, 4, 5, 6, 7, 8, 9, 10, 11, 12] rfl
              have hD := hD.sub (ws' := [(h0, .inr (11, MO ma 0 sv_length sv_nodes sv_many sv_directories sv_runsFrom sv_runs sv_read sv_wrong sv_isNamed sv_goes sv_goesSize sv_goesAt sv_targetParts sv_isRoot)), ((ma 0), .inl (cB, 400, .inl fX)), ((ma 1), .inl (cI, 40, .inl fK)), ((ma 2), .inl (cI, 40, .inl fP)), ((ma 4), .inl (cI, 40, .inl fO)), ((ma 5), .inl (cI, 40, .inl fG)), ((ma 6), .inl (cI, 40, .inl fSz)), ((ma 7), .inl (cI, 40, .inl fSd)), ((ma 8), .inl (cB, 1200, .inl fN)), ((ma 9), .inl (cI, 40, .inl fNS)), ((ma 10), .inl (cB, 8000, .inl fT)), ((ma 11), .inl (cI, 40, .inl fTS)), ((ma 3), .inl (cI, 40, .inl fM))]) [0, 1, 2, 3, 4, 5, 6, 7, 8, 9, 10, 11, 12] (by decide) rfl
              have hl := lv_sub hl [1, 2, 3, 0] rfl
              exact kk56 _ _ _ _ _ ⟨1, rfl, rfl, (by (try dsimp only); first | assumption | omega | trivial), (by (try dsimp only); first | assumption | omega | trivial), hP, hD, hS, hl⟩
      · skip
        have g21_141 : ¬ v47.toInt = 0 := fun h8 => h_9 ((i_eq rfl (by decide)).mpr h8)
        obtain ⟨v94, e_v94⟩ : ∃ z : Int32, z = nn + 1 := ⟨_, rfl⟩
        refine lv_iinc (v := v94) hx hb d_DiscMakerModel_link_24 hl (k := 2) rfl e_v94.symm (by decide) rfl (fun ls hl => ?_)
        have t_v94 : v94.toInt = nn.toInt + 1 := by rw [e_v94]; exact i_add rfl (by decide) (by omega) (by omega)
        have hl : lv_has ls 6 [(2, .int v94), (0, .ref h0), (1, .int x)] := hl
        refine lv_goto (tgt := 7) hx hb d_DiscMakerModel_link_27 (by decide) ?_
        have hP := hP.sub (ws' := [(h0, .inr (11, MO ma 0 sv_length sv_nodes sv_many sv_directories sv_runsFrom sv_runs sv_read sv_wrong sv_isNamed sv_goes sv_goesSize sv_goesAt sv_targetParts sv_isRoot)), ((ma 0), .inl (cB, 400, .inl fX)), ((ma 1), .inl (cI, 40, .inl fK)), ((ma 2), .inl (cI, 40, .inl fP)), ((ma 4), .inl (cI, 40, .inl fO)), ((ma 5), .inl (cI, 40, .inl fG)), ((ma 6), .inl (cI, 40, .inl fSz)), ((ma 7), .inl (cI, 40, .inl fSd)), ((ma 8), .inl (cB, 1200, .inl fN)), ((ma 9), .inl (cI, 40, .inl fNS)), ((ma 10), .inl (cB, 8000, .inl fT)), ((ma 11), .inl (cI, 40, .inl fTS)), ((ma 3), .inl (cI, 40, .inl fM))]) [0, 1, 2, 3, 4, 5, 6, 7, 8, 9, 10, 11, 12] rfl
        have hD := hD.sub (ws' := [(h0, .inr (11, MO ma 0 sv_length sv_nodes sv_many sv_directories sv_runsFrom sv_runs sv_read sv_wrong sv_isNamed sv_goes sv_goesSize sv_goesAt sv_targetParts sv_isRoot)), ((ma 0), .inl (cB, 400, .inl fX)), ((ma 1), .inl (cI, 40, .inl fK)), ((ma 2), .inl (cI, 40, .inl fP)), ((ma 4), .inl (cI, 40, .inl fO)), ((ma 5), .inl (cI, 40, .inl fG)), ((ma 6), .inl (cI, 40, .inl fSz)), ((ma 7), .inl (cI, 40, .inl fSd)), ((ma 8), .inl (cB, 1200, .inl fN)), ((ma 9), .inl (cI, 40, .inl fNS)), ((ma 10), .inl (cB, 8000, .inl fT)), ((ma 11), .inl (cI, 40, .inl fTS)), ((ma 3), .inl (cI, 40, .inl fM))]) [0, 1, 2, 3, 4, 5, 6, 7, 8, 9, 10, 11, 12] (by decide) rfl
        have hl := lv_sub hl [1, 2, 0] rfl
        exact ih7 (_) (by first | omega | (dsimp only; omega)) _ _ _ _ ⟨v94, rfl, rfl, (by (try dsimp only); first | assumption | omega | trivial), hP, hD, hS, hl⟩
  · skip
    intro kk7
    have hP := hP.sub (ws' := [(h0, .inr (11, MO ma 0 sv_length sv_nodes sv_many sv_directories sv_runsFrom sv_runs sv_read sv_wrong sv_isNamed sv_goes sv_goesSize sv_goesAt sv_targetParts sv_isRoot)), ((ma 0), .inl (cB, 400, .inl fX)), ((ma 1), .inl (cI, 40, .inl fK)), ((ma 2), .inl (cI, 40, .inl fP)), ((ma 4), .inl (cI, 40, .inl fO)), ((ma 5), .inl (cI, 40, .inl fG)), ((ma 6), .inl (cI, 40, .inl fSz)), ((ma 7), .inl (cI, 40, .inl fSd)), ((ma 8), .inl (cB, 1200, .inl fN)), ((ma 9), .inl (cI, 40, .inl fNS)), ((ma 10), .inl (cB, 8000, .inl fT)), ((ma 11), .inl (cI, 40, .inl fTS)), ((ma 3), .inl (cI, 40, .inl fM))]) [0, 1, 2, 3, 4, 5, 6, 7, 8, 9, 10, 11, 12] rfl
    have hD := hD.sub (ws' := [(h0, .inr (11, MO ma 0 sv_length sv_nodes sv_many sv_directories sv_runsFrom sv_runs sv_read sv_wrong sv_isNamed sv_goes sv_goesSize sv_goesAt sv_targetParts sv_isRoot)), ((ma 0), .inl (cB, 400, .inl fX)), ((ma 1), .inl (cI, 40, .inl fK)), ((ma 2), .inl (cI, 40, .inl fP)), ((ma 4), .inl (cI, 40, .inl fO)), ((ma 5), .inl (cI, 40, .inl fG)), ((ma 6), .inl (cI, 40, .inl fSz)), ((ma 7), .inl (cI, 40, .inl fSd)), ((ma 8), .inl (cB, 1200, .inl fN)), ((ma 9), .inl (cI, 40, .inl fNS)), ((ma 10), .inl (cB, 8000, .inl fT)), ((ma 11), .inl (cI, 40, .inl fTS)), ((ma 3), .inl (cI, 40, .inl fM))]) [0, 1, 2, 3, 4, 5, 6, 7, 8, 9, 10, 11, 12] (by decide) rfl
    have hl := lv_sub hl [1, 2, 0] rfl
    exact kk7 _ _ _ _ _ ⟨0, rfl, rfl, (by (try dsimp only); first | assumption | omega | trivial), hP, hD, hS, hl⟩

theorem d_DiscMakerModel_own_0 : decode b_DiscMakerModel_own 0 = .ok (.aload_n 0, 1) := by decide +kernel
theorem d_DiscMakerModel_own_1 : decode b_DiscMakerModel_own 1 = .ok (.iconst 0, 1) := by decide +kernel
theorem d_DiscMakerModel_own_2 : decode b_DiscMakerModel_own 2 = .ok (.putfield 118, 3) := by decide +kernel
theorem d_DiscMakerModel_own_5 : decode b_DiscMakerModel_own 5 = .ok (.iload_n 1, 1) := by decide +kernel
theorem d_DiscMakerModel_own_6 : decode b_DiscMakerModel_own 6 = .ok (.ifCond .lt 33, 3) := by decide +kernel
theorem d_DiscMakerModel_own_9 : decode b_DiscMakerModel_own 9 = .ok (.iload_n 1, 1) := by decide +kernel
theorem d_DiscMakerModel_own_10 : decode b_DiscMakerModel_own 10 = .ok (.aload_n 0, 1) := by decide +kernel
theorem d_DiscMakerModel_own_11 : decode b_DiscMakerModel_own 11 = .ok (.getfield 114, 3) := by decide +kernel
theorem d_DiscMakerModel_own_14 : decode b_DiscMakerModel_own 14 = .ok (.if_icmp .ge 25, 3) := by decide +kernel
theorem d_DiscMakerModel_own_17 : decode b_DiscMakerModel_own 17 = .ok (.iload_n 2, 1) := by decide +kernel
theorem d_DiscMakerModel_own_18 : decode b_DiscMakerModel_own 18 = .ok (.invokestatic 153, 3) := by decide +kernel
theorem d_DiscMakerModel_own_21 : decode b_DiscMakerModel_own 21 = .ok (.ifCond .eq 18, 3) := by decide +kernel
theorem d_DiscMakerModel_own_24 : decode b_DiscMakerModel_own 24 = .ok (.iload_n 3, 1) := by decide +kernel
theorem d_DiscMakerModel_own_25 : decode b_DiscMakerModel_own 25 = .ok (.invokestatic 153, 3) := by decide +kernel
theorem d_DiscMakerModel_own_28 : decode b_DiscMakerModel_own 28 = .ok (.ifCond .eq 11, 3) := by decide +kernel
theorem d_DiscMakerModel_own_31 : decode b_DiscMakerModel_own 31 = .ok (.iload 4, 2) := by decide +kernel
theorem d_DiscMakerModel_own_33 : decode b_DiscMakerModel_own 33 = .ok (.invokestatic 153, 3) := by decide +kernel
theorem d_DiscMakerModel_own_36 : decode b_DiscMakerModel_own 36 = .ok (.ifCond .ne 5, 3) := by decide +kernel
theorem d_DiscMakerModel_own_39 : decode b_DiscMakerModel_own 39 = .ok (.iconst 0, 1) := by decide +kernel
theorem d_DiscMakerModel_own_40 : decode b_DiscMakerModel_own 40 = .ok (.ireturn, 1) := by decide +kernel
theorem d_DiscMakerModel_own_41 : decode b_DiscMakerModel_own 41 = .ok (.aload_n 0, 1) := by decide +kernel
theorem d_DiscMakerModel_own_42 : decode b_DiscMakerModel_own 42 = .ok (.getfield 20, 3) := by decide +kernel
theorem d_DiscMakerModel_own_45 : decode b_DiscMakerModel_own 45 = .ok (.iload_n 1, 1) := by decide +kernel
theorem d_DiscMakerModel_own_46 : decode b_DiscMakerModel_own 46 = .ok (.iload_n 2, 1) := by decide +kernel
theorem d_DiscMakerModel_own_47 : decode b_DiscMakerModel_own 47 = .ok (.iastore, 1) := by decide +kernel
theorem d_DiscMakerModel_own_48 : decode b_DiscMakerModel_own 48 = .ok (.aload_n 0, 1) := by decide +kernel
theorem d_DiscMakerModel_own_49 : decode b_DiscMakerModel_own 49 = .ok (.getfield 23, 3) := by decide +kernel
theorem d_DiscMakerModel_own_52 : decode b_DiscMakerModel_own 52 = .ok (.iload_n 1, 1) := by decide +kernel
theorem d_DiscMakerModel_own_53 : decode b_DiscMakerModel_own 53 = .ok (.iload_n 3, 1) := by decide +kernel
theorem d_DiscMakerModel_own_54 : decode b_DiscMakerModel_own 54 = .ok (.iastore, 1) := by decide +kernel
theorem d_DiscMakerModel_own_55 : decode b_DiscMakerModel_own 55 = .ok (.aload_n 0, 1) := by decide +kernel
theorem d_DiscMakerModel_own_56 : decode b_DiscMakerModel_own 56 = .ok (.getfield 26, 3) := by decide +kernel
theorem d_DiscMakerModel_own_59 : decode b_DiscMakerModel_own 59 = .ok (.iload_n 1, 1) := by decide +kernel
theorem d_DiscMakerModel_own_60 : decode b_DiscMakerModel_own 60 = .ok (.iload 4, 2) := by decide +kernel
theorem d_DiscMakerModel_own_62 : decode b_DiscMakerModel_own 62 = .ok (.iastore, 1) := by decide +kernel
theorem d_DiscMakerModel_own_63 : decode b_DiscMakerModel_own 63 = .ok (.iconst 1, 1) := by decide +kernel
theorem d_DiscMakerModel_own_64 : decode b_DiscMakerModel_own 64 = .ok (.ireturn, 1) := by decide +kernel
set_option maxHeartbeats 4000000 in
set_option maxRecDepth 100000 in
theorem m_own (l : Launch) (D : va_G) (cB cI cJ cZ cN cF : ClassId) (sz : Nat) (h0 : Nat) (ma : Nat → Nat) (sv_thrown sv_length sv_nodes sv_many sv_directories sv_runsFrom sv_runs sv_read sv_wrong sv_isNamed sv_goes sv_goesSize sv_goesAt sv_targetParts sv_isRoot : Int32) (fM : Nat → Int32) (fO : Nat → Int32) (fG : Nat → Int32) (x : Int32) (y : Int32) (z : Int32) (w : Int32) (hn : 1 ≤ sv_nodes.toInt ∧ sv_nodes.toInt ≤ 40) : Met l y_DiscMakerModel_own w_DiscMakerModel_own ({ frames := 1, cells := 0, slots := 0, locals := 20 }) (va_Pc [.ref h0, .int x, .int y, .int z, .int w] (fun U => U.heap.size = sz ∧ va_P D CL [(h0, .inr (11, MO ma sv_thrown sv_length sv_nodes sv_many sv_directories sv_runsFrom sv_runs sv_read sv_wrong sv_isNamed sv_goes sv_goesSize sv_goesAt sv_targetParts sv_isRoot)), ((ma 3), .inl (cI, 40, .inl fM)), ((ma 4), .inl (cI, 40, .inl fO)), ((ma 5), .inl (cI, 40, .inl fG))] U.heap ∧ va_K D CL (TY cB cI cJ cZ cN cF) U ∧ NN U ∧ va_D (fun _ => True) [(h0, .inr (11, MO ma sv_thrown sv_length sv_nodes sv_many sv_directories sv_runsFrom sv_runs sv_read sv_wrong sv_isNamed sv_goes sv_goesSize sv_goesAt sv_targetParts sv_isRoot)), ((ma 3), .inl (cI, 40, .inl fM)), ((ma 4), .inl (cI, 40, .inl fO)), ((ma 5), .inl (cI, 40, .inl fG))])) (va_Qi (fun (r : Int32) (u : Int32 × (Nat → Int32) × (Nat → Int32) × (Nat → Int32)) => True) (fun (u : Int32 × (Nat → Int32) × (Nat → Int32) × (Nat → Int32)) (t : State) => match u with | (th, gM, gO, gG) => va_P D CL [(h0, .inr (11, MO ma th sv_length sv_nodes sv_many sv_directories sv_runsFrom sv_runs sv_read sv_wrong sv_isNamed sv_goes sv_goesSize sv_goesAt sv_targetParts sv_isRoot)), ((ma 3), .inl (cI, 40, .inl gM)), ((ma 4), .inl (cI, 40, .inl gO)), ((ma 5), .inl (cI, 40, .inl gG))] t.heap ∧ va_D (va_A [(h0, .inr (11, MO ma sv_thrown sv_length sv_nodes sv_many sv_directories sv_runsFrom sv_runs sv_read sv_wrong sv_isNamed sv_goes sv_goesSize sv_goesAt sv_targetParts sv_isRoot)), ((ma 3), .inl (cI, 40, .inl fM)), ((ma 4), .inl (cI, 40, .inl fO)), ((ma 5), .inl (cI, 40, .inl fG))] sz) [(h0, .inr (11, MO ma th sv_length sv_nodes sv_many sv_directories sv_runsFrom sv_runs sv_read sv_wrong sv_isNamed sv_goes sv_goesSize sv_goesAt sv_targetParts sv_isRoot)), ((ma 3), .inl (cI, 40, .inl gM)), ((ma 4), .inl (cI, 40, .inl gO)), ((ma 5), .inl (cI, 40, .inl gG))]) (va_A [(h0, .inr (11, MO ma sv_thrown sv_length sv_nodes sv_many sv_directories sv_runsFrom sv_runs sv_read sv_wrong sv_isNamed sv_goes sv_goesSize sv_goesAt sv_targetParts sv_isRoot)), ((ma 3), .inl (cI, 40, .inl fM)), ((ma 4), .inl (cI, 40, .inl fO)), ((ma 5), .inl (cI, 40, .inl fG))] sz)) 0 0 (va_A [(h0, .inr (11, MO ma sv_thrown sv_length sv_nodes sv_many sv_directories sv_runsFrom sv_runs sv_read sv_wrong sv_isNamed sv_goes sv_goesSize sv_goesAt sv_targetParts sv_isRoot)), ((ma 3), .inl (cI, 40, .inl fM)), ((ma 4), .inl (cI, 40, .inl fO)), ((ma 5), .inl (cI, 40, .inl fG))] sz) := by
  refine Met.ofW (cc := b_DiscMakerModel_own) (maxL := 5) (ret := some .boolean) (by decide) rfl ?_
  intro p e s m args below meth c s₁ B hml hv
  obtain ⟨rfl, hsz, hP, hK, hN, hD0⟩ := hv
  have hx := B.exec
  have hb := B.bytes
  have hr := B.returns
  have hts := atoms_spec (ws := w_DiscMakerModel_own) B.pre
  have ht9 := fun (w : Cond) (h : w ∈ lw_g) => hts w (List.mem_cons_of_mem _ h)
  have hown : s.vm.findClass "DiscMakerModel" = some m.cls := findClass_of_methodNamed B.named
  have hlocks := B.notSynchronized
  subst hsz
  have hD := hD0.self (sz := s.heap.size)
  generalize hAe : va_A [(h0, .inr (11, MO ma sv_thrown sv_length sv_nodes sv_many sv_directories sv_runsFrom sv_runs sv_read sv_wrong sv_isNamed sv_goes sv_goesSize sv_goesAt sv_targetParts sv_isRoot)), ((ma 3), .inl (cI, 40, .inl fM)), ((ma 4), .inl (cI, 40, .inl fO)), ((ma 5), .inl (cI, 40, .inl fG))] s.heap.size = A at hD ⊢
  have hA : ∀ q : Nat, s.heap.size ≤ q → A q := fun q h => by rw [← hAe]; exact Or.inr h
  have hS : va_S A s.heap s.heap [] := va_S.rf
  have hP : va_P D CL [(h0, .inr (11, MO ma sv_thrown sv_length sv_nodes sv_many sv_directories sv_runsFrom sv_runs sv_read sv_wrong sv_isNamed sv_goes sv_goesSize sv_goesAt sv_targetParts sv_isRoot)), ((ma 3), .inl (cI, 40, .inl fM)), ((ma 4), .inl (cI, 40, .inl fO)), ((ma 5), .inl (cI, 40, .inl fG))] s.heap := hP
  have hl := lv_entry [.ref h0, .int x, .int y, .int z, .int w] (n := 5) (Nat.le_of_ble_eq_true rfl)
  rw [lg_entry_eq]
  generalize (lg_sl [.ref h0, .int x, .int y, .int z, .int w] ++ List.replicate (5 - (lg_sl [.ref h0, .int x, .int y, .int z, .int w]).length) Slot.unset).toArray = ls at hl ⊢
  have hl : lv_has ls 5 [(0, .ref h0), (1, .int x), (2, .int y), (3, .int z), (4, .int w)] := hl
  have L_m1 : ((-1) : Int32).toInt = (-1) := by decide
  have L_0 : (0 : Int32).toInt = 0 := by decide
  have L_1 : (1 : Int32).toInt = 1 := by decide
  refine lv_aload_n hx hb d_DiscMakerModel_own_0 rfl (lv_at hl 0 rfl) ?_
  refine lv_iconst (v := 0) hx hb d_DiscMakerModel_own_1 (by decide) ?_
  refine va_put (D := D) (ci := 11) (v := .int 0) (ty := .int) (C := "DiscMakerModel") (T := F_DiscMakerModel) (N := 48) hx hb ht9 in_DiscMakerModel t_DiscMakerModel t_DiscMakerModel_ok n_DiscMakerModel hown hK hP hD hS 0 rfl rfl 0 (by decide) (ht9 _ k1431) (fun _ h9 => h9) rfl (by decide +kernel) rfl rfl (Nat.le_of_ble_eq_true rfl) d_DiscMakerModel_own_2 (fun H locs hP hD hS => ?_)
  have hP : va_P D CL [(h0, .inr (11, MO ma 0 sv_length sv_nodes sv_many sv_directories sv_runsFrom sv_runs sv_read sv_wrong sv_isNamed sv_goes sv_goesSize sv_goesAt sv_targetParts sv_isRoot)), ((ma 3), .inl (cI, 40, .inl fM)), ((ma 4), .inl (cI, 40, .inl fO)), ((ma 5), .inl (cI, 40, .inl fG))] H := hP
  have hD : va_D A [(h0, .inr (11, MO ma 0 sv_length sv_nodes sv_many sv_directories sv_runsFrom sv_runs sv_read sv_wrong sv_isNamed sv_goes sv_goesSize sv_goesAt sv_targetParts sv_isRoot)), ((ma 3), .inl (cI, 40, .inl fM)), ((ma 4), .inl (cI, 40, .inl fO)), ((ma 5), .inl (cI, 40, .inl fG))] := hD
  refine lv_iload_n hx hb d_DiscMakerModel_own_5 rfl (lv_at hl 1 rfl) ?_
  refine lv_if_lt (tgt := 39) hx hb d_DiscMakerModel_own_6 (by decide) (fun h_9 => ?_) (fun h_9 => ?_)
  · skip
    have g6_5 : x.toInt < 0 := (i_lt rfl (by decide)).mp h_9
    refine lv_iconst (v := 0) hx hb d_DiscMakerModel_own_39 (by decide) ?_
    have hP9 := hP.sub (ws' := [(h0, .inr (11, MO ma 0 sv_length sv_nodes sv_many sv_directories sv_runsFrom sv_runs sv_read sv_wrong sv_isNamed sv_goes sv_goesSize sv_goesAt sv_targetParts sv_isRoot)), ((ma 3), .inl (cI, 40, .inl fM)), ((ma 4), .inl (cI, 40, .inl fO)), ((ma 5), .inl (cI, 40, .inl fG))]) [0, 1, 2, 3] rfl
    have hD9 := hD.sub (ws' := [(h0, .inr (11, MO ma 0 sv_length sv_nodes sv_many sv_directories sv_runsFrom sv_runs sv_read sv_wrong sv_isNamed sv_goes sv_goesSize sv_goesAt sv_targetParts sv_isRoot)), ((ma 3), .inl (cI, 40, .inl fM)), ((ma 4), .inl (cI, 40, .inl fO)), ((ma 5), .inl (cI, 40, .inl fG))]) [0, 1, 2, 3] (by decide) rfl
    exact W.zret (v := 0) hx hb hr (by first | rfl | decide | exact i_narZ (by omega)) (fun t ht hW => ⟨⟨0, (0, fM, fO, fG), rfl, trivial, by rw [ht]; exact hP9, hD9⟩, hS.F ht⟩) hS.2.2 d_DiscMakerModel_own_40
  · skip
    have g6_5 : ¬ x.toInt < 0 := fun h8 => h_9 ((i_lt rfl (by decide)).mpr h8)
    refine lv_iload_n hx hb d_DiscMakerModel_own_9 rfl (lv_at hl 1 rfl) ?_
    refine lv_aload_n hx hb d_DiscMakerModel_own_10 rfl (lv_at hl 0 rfl) ?_
    refine va_get (D := D) (ci := 11) (v := .int sv_nodes) (C := "DiscMakerModel") (T := F_DiscMakerModel) (N := 48) hx hb ht9 in_DiscMakerModel hown hK hP 0 rfl rfl 3 (by decide) (ht9 _ k1434) (fun _ h9 => h9) rfl d_DiscMakerModel_own_11 ?_
    refine lv_icmp_ge (tgt := 39) hx hb d_DiscMakerModel_own_14 (by decide) (fun h_9 => ?_) (fun h_9 => ?_)
    · skip
      have g14_11 : sv_nodes.toInt ≤ x.toInt := (i_le rfl rfl).mp h_9
      refine lv_iconst (v := 0) hx hb d_DiscMakerModel_own_39 (by decide) ?_
      have hP9 := hP.sub (ws' := [(h0, .inr (11, MO ma 0 sv_length sv_nodes sv_many sv_directories sv_runsFrom sv_runs sv_read sv_wrong sv_isNamed sv_goes sv_goesSize sv_goesAt sv_targetParts sv_isRoot)), ((ma 3), .inl (cI, 40, .inl fM)), ((ma 4), .inl (cI, 40, .inl fO)), ((ma 5), .inl (cI, 40, .inl fG))]) [0, 1, 2, 3] rfl
      have hD9 := hD.sub (ws' := [(h0, .inr (11, MO ma 0 sv_length sv_nodes sv_many sv_directories sv_runsFrom sv_runs sv_read sv_wrong sv_isNamed sv_goes sv_goesSize sv_goesAt sv_targetParts sv_isRoot)), ((ma 3), .inl (cI, 40, .inl fM)), ((ma 4), .inl (cI, 40, .inl fO)), ((ma 5), .inl (cI, 40, .inl fG))]) [0, 1, 2, 3] (by decide) rfl
      exact W.zret (v := 0) hx hb hr (by first | rfl | decide | exact i_narZ (by omega)) (fun t ht hW => ⟨⟨0, (0, fM, fO, fG), rfl, trivial, by rw [ht]; exact hP9, hD9⟩, hS.F ht⟩) hS.2.2 d_DiscMakerModel_own_40
    · skip
      have g14_11 : ¬ sv_nodes.toInt ≤ x.toInt := fun h8 => h_9 ((i_le rfl rfl).mpr h8)
      refine lv_iload_n hx hb d_DiscMakerModel_own_17 rfl (lv_at hl 2 rfl) ?_
      have hPc := hP.sub (ws' := []) [] rfl
      have hDc := hD.sub (ws' := []) [] (by decide) rfl
      have hFc := va_free (wc := []) hD hS hA [] rfl
      have hkc : 0 ≤ 0 := by decide
      have hks : 0 ≤ 0 := by decide
      refine va_calli (va_runS (As := [.int y]) (rest := []) ⟨hx, hb, hml, hown, hts⟩ (m_isNumber l D cB cI cJ cZ cN cF H.size y) (cwS 1 hts (lg_goodS k1590 k1591 k125 kc_DiscMakerModel_isNumber) rfl rfl rfl (by decide +kernel) ⟨Nat.le_of_ble_eq_true rfl, Nat.le_of_ble_eq_true rfl⟩) ⟨fun a U g mk q => by obtain ⟨q0, q1, qP, qK, qN, qD⟩ := q; exact ⟨q0, q1, qP, va_K.moved (u := U) (U := U.calling g mk a) (Vm.Alike.refl U.vm) qK, qN.calling, qD⟩, fun U hU hW => ⟨rfl, by rw [hU], by rw [hU]; exact hPc, va_K.moved hW.alike hK, NN.warm hW hN, hDc.weaken (fun _ _ _ _ => trivial)⟩⟩ rfl rfl hl.1 rfl (lv_room (Nat.le_of_ble_eq_true rfl)) d_DiscMakerModel_own_18 ⟨hkc, hks⟩) hS (fun q _ h => hFc q h) hFc (fun r1 u t H1 locs ht hvm hp_r1 hB hz1 hk1 hS => ?_)
      obtain ⟨hP1, hD1⟩ := hB
      rw [ht] at hP1
      obtain ⟨hP, hD⟩ := va_join (wr := [(h0, .inr (11, MO ma 0 sv_length sv_nodes sv_many sv_directories sv_runsFrom sv_runs sv_read sv_wrong sv_isNamed sv_goes sv_goesSize sv_goesAt sv_targetParts sv_isRoot)), ((ma 3), .inl (cI, 40, .inl fM)), ((ma 4), .inl (cI, 40, .inl fO)), ((ma 5), .inl (cI, 40, .inl fG))]) (w1 := []) hP hD [] [0, 1, 2, 3] rfl rfl (by decide) (by decide) hk1 hFc hP1 hD1
      clear hPc hDc hFc hP1 hD1 hk1 hz1
      generalize H1 = H at hP hS ⊢
      have hP : va_P D CL [(h0, .inr (11, MO ma 0 sv_length sv_nodes sv_many sv_directories sv_runsFrom sv_runs sv_read sv_wrong sv_isNamed sv_goes sv_goesSize sv_goesAt sv_targetParts sv_isRoot)), ((ma 3), .inl (cI, 40, .inl fM)), ((ma 4), .inl (cI, 40, .inl fO)), ((ma 5), .inl (cI, 40, .inl fG))] H := hP
      have hD : va_D A [(h0, .inr (11, MO ma 0 sv_length sv_nodes sv_many sv_directories sv_runsFrom sv_runs sv_read sv_wrong sv_isNamed sv_goes sv_goesSize sv_goesAt sv_targetParts sv_isRoot)), ((ma 3), .inl (cI, 40, .inl fM)), ((ma 4), .inl (cI, 40, .inl fO)), ((ma 5), .inl (cI, 40, .inl fG))] := hD
      try dsimp only at hp_r1
      have hr_2 := hp_r1
      refine lv_if_eq (tgt := 39) hx hb d_DiscMakerModel_own_21 (by decide) (fun h_9 => ?_) (fun h_9 => ?_)
      · skip
        have g21_16 : r1.toInt = 0 := (i_eq rfl (by decide)).mp h_9
        refine lv_iconst (v := 0) hx hb d_DiscMakerModel_own_39 (by decide) ?_
        have hP9 := hP.sub (ws' := [(h0, .inr (11, MO ma 0 sv_length sv_nodes sv_many sv_directories sv_runsFrom sv_runs sv_read sv_wrong sv_isNamed sv_goes sv_goesSize sv_goesAt sv_targetParts sv_isRoot)), ((ma 3), .inl (cI, 40, .inl fM)), ((ma 4), .inl (cI, 40, .inl fO)), ((ma 5), .inl (cI, 40, .inl fG))]) [0, 1, 2, 3] rfl
        have hD9 := hD.sub (ws' := [(h0, .inr (11, MO ma 0 sv_length sv_nodes sv_many sv_directories sv_runsFrom sv_runs sv_read sv_wrong sv_isNamed sv_goes sv_goesSize sv_goesAt sv_targetParts sv_isRoot)), ((ma 3), .inl (cI, 40, .inl fM)), ((ma 4), .inl (cI, 40, .inl fO)), ((ma 5), .inl (cI, 40, .inl fG))]) [0, 1, 2, 3] (by decide) rfl
        exact W.zret (v := 0) hx hb hr (by first | rfl | decide | exact i_narZ (by omega)) (fun t ht hW => ⟨⟨0, (0, fM, fO, fG), rfl, trivial, by rw [ht]; exact hP9, hD9⟩, hS.F ht⟩) hS.2.2 d_DiscMakerModel_own_40
      · skip
        have g21_16 : ¬ r1.toInt = 0 := fun h8 => h_9 ((i_eq rfl (by decide)).mpr h8)
        refine lv_iload_n hx hb d_DiscMakerModel_own_24 rfl (lv_at hl 3 rfl) ?_
        have hPc := hP.sub (ws' := []) [] rfl
        have hDc := hD.sub (ws' := []) [] (by decide) rfl
        have hFc := va_free (wc := []) hD hS hA [] rfl
        have hkc : 0 ≤ 0 := by decide
        have hks : 0 ≤ 0 := by decide
        refine va_calli (va_runS (As := [.int z]) (rest := []) ⟨hx, hb, hml, hown, hts⟩ (m_isNumber l D cB cI cJ cZ cN cF H.size z) (cwS 1 hts (lg_goodS k1590 k1591 k125 kc_DiscMakerModel_isNumber) rfl rfl rfl (by decide +kernel) ⟨Nat.le_of_ble_eq_true rfl, Nat.le_of_ble_eq_true rfl⟩) ⟨fun a U g mk q => by obtain ⟨q0, q1, qP, qK, qN, qD⟩ := q; exact ⟨q0, q1, qP, va_K.moved (u := U) (U := U.calling g mk a) (Vm.Alike.refl U.vm) qK, qN.calling, qD⟩, fun U hU hW => ⟨rfl, by rw [hU], by rw [hU]; exact hPc, va_K.moved hW.alike hK, NN.warm hW hN, hDc.weaken (fun _ _ _ _ => trivial)⟩⟩ rfl rfl hl.1 rfl (lv_room (Nat.le_of_ble_eq_true rfl)) d_DiscMakerModel_own_25 ⟨hkc, hks⟩) hS (fun q _ h => hFc q h) hFc (fun r3 u t H1 locs ht hvm hp_r3 hB hz1 hk1 hS => ?_)
        obtain ⟨hP1, hD1⟩ := hB
        rw [ht] at hP1
        obtain ⟨hP, hD⟩ := va_join (wr := [(h0, .inr (11, MO ma 0 sv_length sv_nodes sv_many sv_directories sv_runsFrom sv_runs sv_read sv_wrong sv_isNamed sv_goes sv_goesSize sv_goesAt sv_targetParts sv_isRoot)), ((ma 3), .inl (cI, 40, .inl fM)), ((ma 4), .inl (cI, 40, .inl fO)), ((ma 5), .inl (cI, 40, .inl fG))]) (w1 := []) hP hD [] [0, 1, 2, 3] rfl rfl (by decide) (by decide) hk1 hFc hP1 hD1
        clear hPc hDc hFc hP1 hD1 hk1 hz1
        generalize H1 = H at hP hS ⊢
        have hP : va_P D CL [(h0, .inr (11, MO ma 0 sv_length sv_nodes sv_many sv_directories sv_runsFrom sv_runs sv_read sv_wrong sv_isNamed sv_goes sv_goesSize sv_goesAt sv_targetParts sv_isRoot)), ((ma 3), .inl (cI, 40, .inl fM)), ((ma 4), .inl (cI, 40, .inl fO)), ((ma 5), .inl (cI, 40, .inl fG))] H := hP
        have hD : va_D A [(h0, .inr (11, MO ma 0 sv_length sv_nodes sv_many sv_directories sv_runsFrom sv_runs sv_read sv_wrong sv_isNamed sv_goes sv_goesSize sv_goesAt sv_targetParts sv_isRoot)), ((ma 3), .inl (cI, 40, .inl fM)), ((ma 4), .inl (cI, 40, .inl fO)), ((ma 5), .inl (cI, 40, .inl fG))] := hD
        try dsimp only at hp_r3
        have hr_4 := hp_r3
        refine lv_if_eq (tgt := 39) hx hb d_DiscMakerModel_own_28 (by decide) (fun h_9 => ?_) (fun h_9 => ?_)
        · skip
          have g28_21 : r3.toInt = 0 := (i_eq rfl (by decide)).mp h_9
          refine lv_iconst (v := 0) hx hb d_DiscMakerModel_own_39 (by decide) ?_
          have hP9 := hP.sub (ws' := [(h0, .inr (11, MO ma 0 sv_length sv_nodes sv_many sv_directories sv_runsFrom sv_runs sv_read sv_wrong sv_isNamed sv_goes sv_goesSize sv_goesAt sv_targetParts sv_isRoot)), ((ma 3), .inl (cI, 40, .inl fM)), ((ma 4), .inl (cI, 40, .inl fO)), ((ma 5), .inl (cI, 40, .inl fG))]) [0, 1, 2, 3] rfl
          have hD9 := hD.sub (ws' := [(h0, .inr (11, MO ma 0 sv_length sv_nodes sv_many sv_directories sv_runsFrom sv_runs sv_read sv_wrong sv_isNamed sv_goes sv_goesSize sv_goesAt sv_targetParts sv_isRoot)), ((ma 3), .inl (cI, 40, .inl fM)), ((ma 4), .inl (cI, 40, .inl fO)), ((ma 5), .inl (cI, 40, .inl fG))]) [0, 1, 2, 3] (by decide) rfl
          exact W.zret (v := 0) hx hb hr (by first | rfl | decide | exact i_narZ (by omega)) (fun t ht hW => ⟨⟨0, (0, fM, fO, fG), rfl, trivial, by rw [ht]; exact hP9, hD9⟩, hS.F ht⟩) hS.2.2 d_DiscMakerModel_own_40
        · skip
          have g28_21 : ¬ r3.toInt = 0 := fun h8 => h_9 ((i_eq rfl (by decide)).mpr h8)
          refine lv_iload hx hb d_DiscMakerModel_own_31 (lv_at hl 4 rfl) ?_
          have hPc := hP.sub (ws' := []) [] rfl
          have hDc := hD.sub (ws' := []) [] (by decide) rfl
          have hFc := va_free (wc := []) hD hS hA [] rfl
          have hkc : 0 ≤ 0 := by decide
          have hks : 0 ≤ 0 := by decide
          refine va_calli (va_runS (As := [.int w]) (rest := []) ⟨hx, hb, hml, hown, hts⟩ (m_isNumber l D cB cI cJ cZ cN cF H.size w) (cwS 1 hts (lg_goodS k1590 k1591 k125 kc_DiscMakerModel_isNumber) rfl rfl rfl (by decide +kernel) ⟨Nat.le_of_ble_eq_true rfl, Nat.le_of_ble_eq_true rfl⟩) ⟨fun a U g mk q => by obtain ⟨q0, q1, qP, qK, qN, qD⟩ := q; exact ⟨q0, q1, qP, va_K.moved (u := U) (U := U.calling g mk a) (Vm.Alike.refl U.vm) qK, qN.calling, qD⟩, fun U hU hW => ⟨rfl, by rw [hU], by rw [hU]; exact hPc, va_K.moved hW.alike hK, NN.warm hW hN, hDc.weaken (fun _ _ _ _ => trivial)⟩⟩ rfl rfl hl.1 rfl (lv_room (Nat.le_of_ble_eq_true rfl)) d_DiscMakerModel_own_33 ⟨hkc, hks⟩) hS (fun q _ h => hFc q h) hFc (fun r5 u t H1 locs ht hvm hp_r5 hB hz1 hk1 hS => ?_)
          obtain ⟨hP1, hD1⟩ := hB
          rw [ht] at hP1
          obtain ⟨hP, hD⟩ := va_join (wr := [(h0, .inr (11, MO ma 0 sv_length sv_nodes sv_many sv_directories sv_runsFrom sv_runs sv_read sv_wrong sv_isNamed sv_goes sv_goesSize sv_goesAt sv_targetParts sv_isRoot)), ((ma 3), .inl (cI, 40, .inl fM)), ((ma 4), .inl (cI, 40, .inl fO)), ((ma 5), .inl (cI, 40, .inl fG))]) (w1 := []) hP hD [] [0, 1, 2, 3] rfl rfl (by decide) (by decide) hk1 hFc hP1 hD1
          clear hPc hDc hFc hP1 hD1 hk1 hz1
          generalize H1 = H at hP hS ⊢
          have hP : va_P D CL [(h0, .inr (11, MO ma 0 sv_length sv_nodes sv_many sv_directories sv_runsFrom sv_runs sv_read sv_wrong sv_isNamed sv_goes sv_goesSize sv_goesAt sv_targetParts sv_isRoot)), ((ma 3), .inl (cI, 40, .inl fM)), ((ma 4), .inl (cI, 40, .inl fO)), ((ma 5), .inl (cI, 40, .inl fG))] H := hP
          have hD : va_D A [(h0, .inr (11, MO ma 0 sv_length sv_nodes sv_many sv_directories sv_runsFrom sv_runs sv_read sv_wrong sv_isNamed sv_goes sv_goesSize sv_goesAt sv_targetParts sv_isRoot)), ((ma 3), .inl (cI, 40, .inl fM)), ((ma 4), .inl (cI, 40, .inl fO)), ((ma 5), .inl (cI, 40, .inl fG))] := hD
          try dsimp only at hp_r5
          have hr_6 := hp_r5
          refine lv_if_ne (tgt := 41) hx hb d_DiscMakerModel_own_36 (by decide) (fun h_9 => ?_) (fun h_9 => ?_)
          · skip
            have g36_26 : ¬ r5.toInt = 0 := fun h8 => h_9 ((i_eq rfl (by decide)).mpr h8)
            refine lv_aload_n hx hb d_DiscMakerModel_own_41 rfl (lv_at hl 0 rfl) ?_
            refine va_get (D := D) (ci := 11) (v := .ref (ma 3)) (C := "DiscMakerModel") (T := F_DiscMakerModel) (N := 48) hx hb ht9 in_DiscMakerModel hown hK hP 0 rfl rfl 6 (by decide) (ht9 _ k1437) (fun _ h9 => h9) rfl d_DiscMakerModel_own_42 ?_
            refine lv_iload_n hx hb d_DiscMakerModel_own_45 rfl (lv_at hl 1 rfl) ?_
            refine lv_iload_n hx hb d_DiscMakerModel_own_46 rfl (lv_at hl 2 rfl) ?_
            refine zq_iast hx hb hK hP hD hS 1 1 rfl rfl (vp_in_iff.mpr ⟨by omega, by omega⟩) d_DiscMakerModel_own_47 (fun f7 e_f7 H locs hP hD hS => ?_)
            have hP : va_P D CL [(h0, .inr (11, MO ma 0 sv_length sv_nodes sv_many sv_directories sv_runsFrom sv_runs sv_read sv_wrong sv_isNamed sv_goes sv_goesSize sv_goesAt sv_targetParts sv_isRoot)), ((ma 3), .inl (cI, 40, .inl f7)), ((ma 4), .inl (cI, 40, .inl fO)), ((ma 5), .inl (cI, 40, .inl fG))] H := hP
            have hD : va_D A [(h0, .inr (11, MO ma 0 sv_length sv_nodes sv_many sv_directories sv_runsFrom sv_runs sv_read sv_wrong sv_isNamed sv_goes sv_goesSize sv_goesAt sv_targetParts sv_isRoot)), ((ma 3), .inl (cI, 40, .inl f7)), ((ma 4), .inl (cI, 40, .inl fO)), ((ma 5), .inl (cI, 40, .inl fG))] := hD
            have s_f7 : f7 x.toNatClampNeg = y := by rw [e_f7]; unfold upd; rw [if_pos (by first | rfl | decide)]
            refine lv_aload_n hx hb d_DiscMakerModel_own_48 rfl (lv_at hl 0 rfl) ?_
            refine va_get (D := D) (ci := 11) (v := .ref (ma 4)) (C := "DiscMakerModel") (T := F_DiscMakerModel) (N := 48) hx hb ht9 in_DiscMakerModel hown hK hP 0 rfl rfl 7 (by decide) (ht9 _ k1438) (fun _ h9 => h9) rfl d_DiscMakerModel_own_49 ?_
            refine lv_iload_n hx hb d_DiscMakerModel_own_52 rfl (lv_at hl 1 rfl) ?_
            refine lv_iload_n hx hb d_DiscMakerModel_own_53 rfl (lv_at hl 3 rfl) ?_
            refine zq_iast hx hb hK hP hD hS 2 1 rfl rfl (vp_in_iff.mpr ⟨by omega, by omega⟩) d_DiscMakerModel_own_54 (fun f8 e_f8 H locs hP hD hS => ?_)
            have hP : va_P D CL [(h0, .inr (11, MO ma 0 sv_length sv_nodes sv_many sv_directories sv_runsFrom sv_runs sv_read sv_wrong sv_isNamed sv_goes sv_goesSize sv_goesAt sv_targetParts sv_isRoot)), ((ma 3), .inl (cI, 40, .inl f7)), ((ma 4), .inl (cI, 40, .inl f8)), ((ma 5), .inl (cI, 40, .inl fG))] H := hP
            have hD : va_D A [(h0, .inr (11, MO ma 0 sv_length sv_nodes sv_many sv_directories sv_runsFrom sv_runs sv_read sv_wrong sv_isNamed sv_goes sv_goesSize sv_goesAt sv_targetParts sv_isRoot)), ((ma 3), .inl (cI, 40, .inl f7)), ((ma 4), .inl (cI, 40, .inl f8)), ((ma 5), .inl (cI, 40, .inl fG))] := hD
            have s_f8 : f8 x.toNatClampNeg = z := by rw [e_f8]; unfold upd; rw [if_pos (by first | rfl | decide)]
            refine lv_aload_n hx hb d_DiscMakerModel_own_55 rfl (lv_at hl 0 rfl) ?_
            refine va_get (D := D) (ci := 11) (v := .ref (ma 5)) (C := "DiscMakerModel") (T := F_DiscMakerModel) (N := 48) hx hb ht9 in_DiscMakerModel hown hK hP 0 rfl rfl 8 (by decide) (ht9 _ k1439) (fun _ h9 => h9) rfl d_DiscMakerModel_own_56 ?_
            refine lv_iload_n hx hb d_DiscMakerModel_own_59 rfl (lv_at hl 1 rfl) ?_
            refine lv_iload hx hb d_DiscMakerModel_own_60 (lv_at hl 4 rfl) ?_
            refine zq_iast hx hb hK hP hD hS 3 1 rfl rfl (vp_in_iff.mpr ⟨by omega, by omega⟩) d_DiscMakerModel_own_62 (fun f9 e_f9 H locs hP hD hS => ?_)
            have hP : va_P D CL [(h0, .inr (11, MO ma 0 sv_length sv_nodes sv_many sv_directories sv_runsFrom sv_runs sv_read sv_wrong sv_isNamed sv_goes sv_goesSize sv_goesAt sv_targetParts sv_isRoot)), ((ma 3), .inl (cI, 40, .inl f7)), ((ma 4), .inl (cI, 40, .inl f8)), ((ma 5), .inl (cI, 40, .inl f9))] H := hP
            have hD : va_D A [(h0, .inr (11, MO ma 0 sv_length sv_nodes sv_many sv_directories sv_runsFrom sv_runs sv_read sv_wrong sv_isNamed sv_goes sv_goesSize sv_goesAt sv_targetParts sv_isRoot)), ((ma 3), .inl (cI, 40, .inl f7)), ((ma 4), .inl (cI, 40, .inl f8)), ((ma 5), .inl (cI, 40, .inl f9))] := hD
            have s_f9 : f9 x.toNatClampNeg = w := by rw [e_f9]; unfold upd; rw [if_pos (by first | rfl | decide)]
            refine lv_iconst (v := 1) hx hb d_DiscMakerModel_own_63 (by decide) ?_
            have hP9 := hP.sub (ws' := [(h0, .inr (11, MO ma 0 sv_length sv_nodes sv_many sv_directories sv_runsFrom sv_runs sv_read sv_wrong sv_isNamed sv_goes sv_goesSize sv_goesAt sv_targetParts sv_isRoot)), ((ma 3), .inl (cI, 40, .inl f7)), ((ma 4), .inl (cI, 40, .inl f8)), ((ma 5), .inl (cI, 40, .inl f9))]) [0, 1, 2, 3] rfl
            have hD9 := hD.sub (ws' := [(h0, .inr (11, MO ma 0 sv_length sv_nodes sv_many sv_directories sv_runsFrom sv_runs sv_read sv_wrong sv_isNamed sv_goes sv_goesSize sv_goesAt sv_targetParts sv_isRoot)), ((ma 3), .inl (cI, 40, .inl f7)), ((ma 4), .inl (cI, 40, .inl f8)), ((ma 5), .inl (cI, 40, .inl f9))]) [0, 1, 2, 3] (by decide) rfl
            exact W.zret (v := 1) hx hb hr (by first | rfl | decide | exact i_narZ (by omega)) (fun t ht hW => ⟨⟨1, (0, f7, f8, f9), rfl, trivial, by rw [ht]; exact hP9, hD9⟩, hS.F ht⟩) hS.2.2 d_DiscMakerModel_own_64
          · skip
            have g36_26 : r5.toInt = 0 := (i_eq rfl (by decide)).mp h_9
            refine lv_iconst (v := 0) hx hb d_DiscMakerModel_own_39 (by decide) ?_
            have hP9 := hP.sub (ws' := [(h0, .inr (11, MO ma 0 sv_length sv_nodes sv_many sv_directories sv_runsFrom sv_runs sv_read sv_wrong sv_isNamed sv_goes sv_goesSize sv_goesAt sv_targetParts sv_isRoot)), ((ma 3), .inl (cI, 40, .inl fM)), ((ma 4), .inl (cI, 40, .inl fO)), ((ma 5), .inl (cI, 40, .inl fG))]) [0, 1, 2, 3] rfl
            have hD9 := hD.sub (ws' := [(h0, .inr (11, MO ma 0 sv_length sv_nodes sv_many sv_directories sv_runsFrom sv_runs sv_read sv_wrong sv_isNamed sv_goes sv_goesSize sv_goesAt sv_targetParts sv_isRoot)), ((ma 3), .inl (cI, 40, .inl fM)), ((ma 4), .inl (cI, 40, .inl fO)), ((ma 5), .inl (cI, 40, .inl fG))]) [0, 1, 2, 3] (by decide) rfl
            exact W.zret (v := 0) hx hb hr (by first | rfl | decide | exact i_narZ (by omega)) (fun t ht hW => ⟨⟨0, (0, fM, fO, fG), rfl, trivial, by rw [ht]; exact hP9, hD9⟩, hS.F ht⟩) hS.2.2 d_DiscMakerModel_own_40
