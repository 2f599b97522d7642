theorem d_DiscMakerModel_tables_0 : decode b_DiscMakerModel_tables 0 = .ok (.iconst 1, 1) := by decide +kernel
theorem d_DiscMakerModel_tables_1 : decode b_DiscMakerModel_tables 1 = .ok (.istore_n 2, 1) := by decide +kernel
theorem d_DiscMakerModel_tables_2 : decode b_DiscMakerModel_tables 2 = .ok (.aload_n 0, 1) := by decide +kernel
theorem d_DiscMakerModel_tables_3 : decode b_DiscMakerModel_tables 3 = .ok (.getfield 64, 3) := by decide +kernel
theorem d_DiscMakerModel_tables_6 : decode b_DiscMakerModel_tables 6 = .ok (.bipush 12, 2) := by decide +kernel
theorem d_DiscMakerModel_tables_8 : decode b_DiscMakerModel_tables 8 = .ok (.iload_n 1, 1) := by decide +kernel
theorem d_DiscMakerModel_tables_9 : decode b_DiscMakerModel_tables 9 = .ok (.imul, 1) := by decide +kernel
theorem d_DiscMakerModel_tables_10 : decode b_DiscMakerModel_tables 10 = .ok (.iconst 0, 1) := by decide +kernel
theorem d_DiscMakerModel_tables_11 : decode b_DiscMakerModel_tables 11 = .ok (.iastore, 1) := by decide +kernel
theorem d_DiscMakerModel_tables_12 : decode b_DiscMakerModel_tables 12 = .ok (.iconst 0, 1) := by decide +kernel
theorem d_DiscMakerModel_tables_13 : decode b_DiscMakerModel_tables 13 = .ok (.istore_n 3, 1) := by decide +kernel
theorem d_DiscMakerModel_tables_14 : decode b_DiscMakerModel_tables 14 = .ok (.iload_n 3, 1) := by decide +kernel
theorem d_DiscMakerModel_tables_15 : decode b_DiscMakerModel_tables 15 = .ok (.iload_n 2, 1) := by decide +kernel
theorem d_DiscMakerModel_tables_16 : decode b_DiscMakerModel_tables 16 = .ok (.if_icmp .ge 80, 3) := by decide +kernel
theorem d_DiscMakerModel_tables_19 : decode b_DiscMakerModel_tables 19 = .ok (.aload_n 0, 1) := by decide +kernel
theorem d_DiscMakerModel_tables_20 : decode b_DiscMakerModel_tables 20 = .ok (.getfield 64, 3) := by decide +kernel
theorem d_DiscMakerModel_tables_23 : decode b_DiscMakerModel_tables 23 = .ok (.bipush 12, 2) := by decide +kernel
theorem d_DiscMakerModel_tables_25 : decode b_DiscMakerModel_tables 25 = .ok (.iload_n 1, 1) := by decide +kernel
theorem d_DiscMakerModel_tables_26 : decode b_DiscMakerModel_tables 26 = .ok (.imul, 1) := by decide +kernel
theorem d_DiscMakerModel_tables_27 : decode b_DiscMakerModel_tables 27 = .ok (.iload_n 3, 1) := by decide +kernel
theorem d_DiscMakerModel_tables_28 : decode b_DiscMakerModel_tables 28 = .ok (.iadd, 1) := by decide +kernel
theorem d_DiscMakerModel_tables_29 : decode b_DiscMakerModel_tables 29 = .ok (.iaload, 1) := by decide +kernel
theorem d_DiscMakerModel_tables_30 : decode b_DiscMakerModel_tables 30 = .ok (.istore 4, 2) := by decide +kernel
theorem d_DiscMakerModel_tables_32 : decode b_DiscMakerModel_tables 32 = .ok (.aload_n 0, 1) := by decide +kernel
theorem d_DiscMakerModel_tables_33 : decode b_DiscMakerModel_tables 33 = .ok (.iload_n 1, 1) := by decide +kernel
theorem d_DiscMakerModel_tables_34 : decode b_DiscMakerModel_tables 34 = .ok (.iload 4, 2) := by decide +kernel
theorem d_DiscMakerModel_tables_36 : decode b_DiscMakerModel_tables 36 = .ok (.iconst (-1), 1) := by decide +kernel
theorem d_DiscMakerModel_tables_37 : decode b_DiscMakerModel_tables 37 = .ok (.invokevirtual 182, 3) := by decide +kernel
theorem d_DiscMakerModel_tables_40 : decode b_DiscMakerModel_tables 40 = .ok (.istore 5, 2) := by decide +kernel
theorem d_DiscMakerModel_tables_42 : decode b_DiscMakerModel_tables 42 = .ok (.iload 5, 2) := by decide +kernel
theorem d_DiscMakerModel_tables_44 : decode b_DiscMakerModel_tables 44 = .ok (.ifCond .lt 46, 3) := by decide +kernel
theorem d_DiscMakerModel_tables_47 : decode b_DiscMakerModel_tables 47 = .ok (.aload_n 0, 1) := by decide +kernel
theorem d_DiscMakerModel_tables_48 : decode b_DiscMakerModel_tables 48 = .ok (.getfield 13, 3) := by decide +kernel
theorem d_DiscMakerModel_tables_51 : decode b_DiscMakerModel_tables 51 = .ok (.iload 5, 2) := by decide +kernel
theorem d_DiscMakerModel_tables_53 : decode b_DiscMakerModel_tables 53 = .ok (.iaload, 1) := by decide +kernel
theorem d_DiscMakerModel_tables_54 : decode b_DiscMakerModel_tables 54 = .ok (.ifCond .eq 6, 3) := by decide +kernel
theorem d_DiscMakerModel_tables_57 : decode b_DiscMakerModel_tables 57 = .ok (.goto 19, 3) := by decide +kernel
theorem d_DiscMakerModel_tables_60 : decode b_DiscMakerModel_tables 60 = .ok (.aload_n 0, 1) := by decide +kernel
theorem d_DiscMakerModel_tables_61 : decode b_DiscMakerModel_tables 61 = .ok (.getfield 64, 3) := by decide +kernel
theorem d_DiscMakerModel_tables_64 : decode b_DiscMakerModel_tables 64 = .ok (.bipush 12, 2) := by decide +kernel
theorem d_DiscMakerModel_tables_66 : decode b_DiscMakerModel_tables 66 = .ok (.iload_n 1, 1) := by decide +kernel
theorem d_DiscMakerModel_tables_67 : decode b_DiscMakerModel_tables 67 = .ok (.imul, 1) := by decide +kernel
theorem d_DiscMakerModel_tables_68 : decode b_DiscMakerModel_tables 68 = .ok (.iload_n 2, 1) := by decide +kernel
theorem d_DiscMakerModel_tables_69 : decode b_DiscMakerModel_tables 69 = .ok (.iadd, 1) := by decide +kernel
theorem d_DiscMakerModel_tables_70 : decode b_DiscMakerModel_tables 70 = .ok (.iload 5, 2) := by decide +kernel
theorem d_DiscMakerModel_tables_72 : decode b_DiscMakerModel_tables 72 = .ok (.iastore, 1) := by decide +kernel
theorem d_DiscMakerModel_tables_73 : decode b_DiscMakerModel_tables 73 = .ok (.iinc 2 1, 3) := by decide +kernel
theorem d_DiscMakerModel_tables_76 : decode b_DiscMakerModel_tables 76 = .ok (.aload_n 0, 1) := by decide +kernel
theorem d_DiscMakerModel_tables_77 : decode b_DiscMakerModel_tables 77 = .ok (.iload_n 1, 1) := by decide +kernel
theorem d_DiscMakerModel_tables_78 : decode b_DiscMakerModel_tables 78 = .ok (.iload 4, 2) := by decide +kernel
theorem d_DiscMakerModel_tables_80 : decode b_DiscMakerModel_tables 80 = .ok (.iload 5, 2) := by decide +kernel
theorem d_DiscMakerModel_tables_82 : decode b_DiscMakerModel_tables 82 = .ok (.invokevirtual 182, 3) := by decide +kernel
theorem d_DiscMakerModel_tables_85 : decode b_DiscMakerModel_tables 85 = .ok (.istore 5, 2) := by decide +kernel
theorem d_DiscMakerModel_tables_87 : decode b_DiscMakerModel_tables 87 = .ok (.goto (-45), 3) := by decide +kernel
theorem d_DiscMakerModel_tables_90 : decode b_DiscMakerModel_tables 90 = .ok (.iinc 3 1, 3) := by decide +kernel
theorem d_DiscMakerModel_tables_93 : decode b_DiscMakerModel_tables 93 = .ok (.goto (-79), 3) := by decide +kernel
theorem d_DiscMakerModel_tables_96 : decode b_DiscMakerModel_tables 96 = .ok (.aload_n 0, 1) := by decide +kernel
theorem d_DiscMakerModel_tables_97 : decode b_DiscMakerModel_tables 97 = .ok (.iload_n 2, 1) := by decide +kernel
theorem d_DiscMakerModel_tables_98 : decode b_DiscMakerModel_tables 98 = .ok (.putfield 185, 3) := by decide +kernel
theorem d_DiscMakerModel_tables_101 : decode b_DiscMakerModel_tables 101 = .ok (.return_, 1) := by decide +kernel
set_option maxHeartbeats 4000000 in
set_option maxRecDepth 100000 in
theorem m_tables0 (l : Launch) (D : va_G) (cB cI cJ cZ cN cF : ClassId) (sz : Nat) (h0 : Nat) (ma : Nat → Nat) (sv_thrown sv_length sv_nodes sv_many sv_directories sv_runsFrom sv_runs sv_read sv_wrong sv_isNamed sv_goes sv_goesSize sv_goesAt sv_targetParts sv_isRoot : Int32) (fK : Nat → Int32) (fP : Nat → Int32) (fN : Nat → Int32) (fNS : Nat → Int32) (fBa : Nat → Int32) (fBs : Nat → Int32) (fEx : Nat → Int32) (fEs : Nat → Int32) (fTb : Nat → Int32) (fSz : Nat → Int32) (fTS : Nat → Int32) (hT : TI sv_nodes.toInt fK fP fNS fSz fTS) (hU : UN (KF 0 fN fNS fBa fBs fEx fEs) (NL 0) fP sv_nodes.toInt) (hNS : Rg 0 30 40 fNS) (hBa : Rg (-128) 127 320 fBa) (hBs : Rg 0 8 40 fBs) (hEx : Rg (-128) 127 120 fEx) (hEs : Rg 0 3 40 fEs) : Met l y_DiscMakerModel_tables w_DiscMakerModel_tables ({ frames := 4, cells := 0, slots := 0, locals := 97 }) (va_Pc [.ref h0, .int 0] (fun U => U.heap.size = sz ∧ va_P D CL [(h0, .inr (11, MO ma sv_thrown sv_length sv_nodes sv_many sv_directories sv_runsFrom sv_runs sv_read sv_wrong sv_isNamed sv_goes sv_goesSize sv_goesAt sv_targetParts sv_isRoot)), ((ma 1), .inl (cI, 40, .inl fK)), ((ma 2), .inl (cI, 40, .inl fP)), ((ma 8), .inl (cB, 1200, .inl fN)), ((ma 9), .inl (cI, 40, .inl fNS)), ((ma 12), .inl (cB, 320, .inl fBa)), ((ma 13), .inl (cI, 40, .inl fBs)), ((ma 14), .inl (cB, 120, .inl fEx)), ((ma 15), .inl (cI, 40, .inl fEs)), ((ma 17), .inl (cI, 24, .inl fTb))] U.heap ∧ va_K D CL (TY cB cI cJ cZ cN cF) U ∧ NN U ∧ va_D (fun _ => True) [(h0, .inr (11, MO ma sv_thrown sv_length sv_nodes sv_many sv_directories sv_runsFrom sv_runs sv_read sv_wrong sv_isNamed sv_goes sv_goesSize sv_goesAt sv_targetParts sv_isRoot)), ((ma 1), .inl (cI, 40, .inl fK)), ((ma 2), .inl (cI, 40, .inl fP)), ((ma 8), .inl (cB, 1200, .inl fN)), ((ma 9), .inl (cI, 40, .inl fNS)), ((ma 12), .inl (cB, 320, .inl fBa)), ((ma 13), .inl (cI, 40, .inl fBs)), ((ma 14), .inl (cB, 120, .inl fEx)), ((ma 15), .inl (cI, 40, .inl fEs)), ((ma 17), .inl (cI, 24, .inl fTb))])) (va_Qv (fun (u : Int32 × (Nat → Int32)) => match u with | (dr, gTb) => (1 ≤ dr.toInt ∧ dr.toInt ≤ 12) ∧ (TBi 0 sv_nodes.toInt fK fP gTb dr.toNatClampNeg dr.toNatClampNeg (fun _ => False) (fun _ => True)) ∧ (∀ q : Nat, q < 12 * 0 ∨ 12 * 0 + 12 ≤ q → gTb q = fTb q)) (fun (u : Int32 × (Nat → Int32)) (t : State) => match u with | (dr, gTb) => va_P D CL [(h0, .inr (11, MO ma sv_thrown sv_length sv_nodes sv_many dr sv_runsFrom sv_runs sv_read sv_wrong sv_isNamed sv_goes sv_goesSize sv_goesAt sv_targetParts sv_isRoot)), ((ma 1), .inl (cI, 40, .inl fK)), ((ma 2), .inl (cI, 40, .inl fP)), ((ma 8), .inl (cB, 1200, .inl fN)), ((ma 9), .inl (cI, 40, .inl fNS)), ((ma 12), .inl (cB, 320, .inl fBa)), ((ma 13), .inl (cI, 40, .inl fBs)), ((ma 14), .inl (cB, 120, .inl fEx)), ((ma 15), .inl (cI, 40, .inl fEs)), ((ma 17), .inl (cI, 24, .inl gTb))] t.heap ∧ va_D (va_A [(h0, .inr (11, MO ma sv_thrown sv_length sv_nodes sv_many sv_directories sv_runsFrom sv_runs sv_read sv_wrong sv_isNamed sv_goes sv_goesSize sv_goesAt sv_targetParts sv_isRoot)), ((ma 1), .inl (cI, 40, .inl fK)), ((ma 2), .inl (cI, 40, .inl fP)), ((ma 8), .inl (cB, 1200, .inl fN)), ((ma 9), .inl (cI, 40, .inl fNS)), ((ma 12), .inl (cB, 320, .inl fBa)), ((ma 13), .inl (cI, 40, .inl fBs)), ((ma 14), .inl (cB, 120, .inl fEx)), ((ma 15), .inl (cI, 40, .inl fEs)), ((ma 17), .inl (cI, 24, .inl fTb))] sz) [(h0, .inr (11, MO ma sv_thrown sv_length sv_nodes sv_many dr sv_runsFrom sv_runs sv_read sv_wrong sv_isNamed sv_goes sv_goesSize sv_goesAt sv_targetParts sv_isRoot)), ((ma 1), .inl (cI, 40, .inl fK)), ((ma 2), .inl (cI, 40, .inl fP)), ((ma 8), .inl (cB, 1200, .inl fN)), ((ma 9), .inl (cI, 40, .inl fNS)), ((ma 12), .inl (cB, 320, .inl fBa)), ((ma 13), .inl (cI, 40, .inl fBs)), ((ma 14), .inl (cB, 120, .inl fEx)), ((ma 15), .inl (cI, 40, .inl fEs)), ((ma 17), .inl (cI, 24, .inl gTb))]) (va_A [(h0, .inr (11, MO ma sv_thrown sv_length sv_nodes sv_many sv_directories sv_runsFrom sv_runs sv_read sv_wrong sv_isNamed sv_goes sv_goesSize sv_goesAt sv_targetParts sv_isRoot)), ((ma 1), .inl (cI, 40, .inl fK)), ((ma 2), .inl (cI, 40, .inl fP)), ((ma 8), .inl (cB, 1200, .inl fN)), ((ma 9), .inl (cI, 40, .inl fNS)), ((ma 12), .inl (cB, 320, .inl fBa)), ((ma 13), .inl (cI, 40, .inl fBs)), ((ma 14), .inl (cB, 120, .inl fEx)), ((ma 15), .inl (cI, 40, .inl fEs)), ((ma 17), .inl (cI, 24, .inl fTb))] sz)) 0 0 (va_A [(h0, .inr (11, MO ma sv_thrown sv_length sv_nodes sv_many sv_directories sv_runsFrom sv_runs sv_read sv_wrong sv_isNamed sv_goes sv_goesSize sv_goesAt sv_targetParts sv_isRoot)), ((ma 1), .inl (cI, 40, .inl fK)), ((ma 2), .inl (cI, 40, .inl fP)), ((ma 8), .inl (cB, 1200, .inl fN)), ((ma 9), .inl (cI, 40, .inl fNS)), ((ma 12), .inl (cB, 320, .inl fBa)), ((ma 13), .inl (cI, 40, .inl fBs)), ((ma 14), .inl (cB, 120, .inl fEx)), ((ma 15), .inl (cI, 40, .inl fEs)), ((ma 17), .inl (cI, 24, .inl fTb))] sz) := by
  refine Met.ofW (cc := b_DiscMakerModel_tables) (maxL := 6) (ret := none) (by decide) rfl ?_
  intro p e s m args below meth c s₁ B hml hv
  obtain ⟨rfl, hsz, hP, hK, hN, hD0⟩ := hv
  have hx := B.exec
  have hb := B.bytes
  have hr := B.returns
  have hts := atoms_spec (ws := w_DiscMakerModel_tables) B.pre
  have ht9 := fun (w : Cond) (h : w ∈ lw_g) => hts w (List.mem_cons_of_mem _ h)
  have hown : s.vm.findClass "DiscMakerModel" = some m.cls := findClass_of_methodNamed B.named
  have hlocks := B.notSynchronized
  subst hsz
  have hD := hD0.self (sz := s.heap.size)
  generalize hAe : va_A [(h0, .inr (11, MO ma sv_thrown sv_length sv_nodes sv_many sv_directories sv_runsFrom sv_runs sv_read sv_wrong sv_isNamed sv_goes sv_goesSize sv_goesAt sv_targetParts sv_isRoot)), ((ma 1), .inl (cI, 40, .inl fK)), ((ma 2), .inl (cI, 40, .inl fP)), ((ma 8), .inl (cB, 1200, .inl fN)), ((ma 9), .inl (cI, 40, .inl fNS)), ((ma 12), .inl (cB, 320, .inl fBa)), ((ma 13), .inl (cI, 40, .inl fBs)), ((ma 14), .inl (cB, 120, .inl fEx)), ((ma 15), .inl (cI, 40, .inl fEs)), ((ma 17), .inl (cI, 24, .inl fTb))] s.heap.size = A at hD ⊢
  have hA : ∀ q : Nat, s.heap.size ≤ q → A q := fun q h => by rw [← hAe]; exact Or.inr h
  have hS : va_S A s.heap s.heap [] := va_S.rf
  have hP : va_P D CL [(h0, .inr (11, MO ma sv_thrown sv_length sv_nodes sv_many sv_directories sv_runsFrom sv_runs sv_read sv_wrong sv_isNamed sv_goes sv_goesSize sv_goesAt sv_targetParts sv_isRoot)), ((ma 1), .inl (cI, 40, .inl fK)), ((ma 2), .inl (cI, 40, .inl fP)), ((ma 8), .inl (cB, 1200, .inl fN)), ((ma 9), .inl (cI, 40, .inl fNS)), ((ma 12), .inl (cB, 320, .inl fBa)), ((ma 13), .inl (cI, 40, .inl fBs)), ((ma 14), .inl (cB, 120, .inl fEx)), ((ma 15), .inl (cI, 40, .inl fEs)), ((ma 17), .inl (cI, 24, .inl fTb))] s.heap := hP
  have hl := lv_entry [.ref h0, .int 0] (n := 6) (Nat.le_of_ble_eq_true rfl)
  rw [lg_entry_eq]
  generalize (lg_sl [.ref h0, .int 0] ++ List.replicate (6 - (lg_sl [.ref h0, .int 0]).length) Slot.unset).toArray = ls at hl ⊢
  have hl : lv_has ls 6 [(0, .ref h0), (1, .int 0)] := hl
  have L_m1 : ((-1) : Int32).toInt = (-1) := by decide
  have L_0 : (0 : Int32).toInt = 0 := by decide
  have L_1 : (1 : Int32).toInt = 1 := by decide
  have L_12 : (12 : Int32).toInt = 12 := by decide
  have hn := hT.n1
  have hKi : Rg 0 2 40 fK := hT.kk
  refine lv_iconst (v := 1) hx hb d_DiscMakerModel_tables_0 (by decide) ?_
  refine lv_istore_n hx hb d_DiscMakerModel_tables_1 rfl hl (by decide) rfl (fun ls hl => ?_)
  have hl : lv_has ls 6 [(2, .int 1), (0, .ref h0), (1, .int 0)] := hl
  refine lv_aload_n hx hb d_DiscMakerModel_tables_2 rfl (lv_at hl 1 rfl) ?_
  refine va_get (D := D) (ci := 11) (v := .ref (ma 17)) (C := "DiscMakerModel") (T := F_DiscMakerModel) (N := 48) hx hb ht9 in_DiscMakerModel hown hK hP 0 rfl rfl 21 (by decide) (ht9 _ k1452) (fun _ h9 => h9) rfl d_DiscMakerModel_tables_3 ?_
  refine lv_bipush (v := 12) hx hb d_DiscMakerModel_tables_6 (by decide) ?_
  refine lv_iload_n hx hb d_DiscMakerModel_tables_8 rfl (lv_at hl 2 rfl) ?_
  refine lv_imul hx hb d_DiscMakerModel_tables_9 ?_
  refine W.eq (g2 := F0 m 10 ls [.int 0, .ref (ma 17)]) (by rw [show ((12 : Int32) * 0) = 0 from by decide]) ?_
  refine lv_iconst (v := 0) hx hb d_DiscMakerModel_tables_10 (by decide) ?_
  refine zq_iast hx hb hK hP hD hS 9 1 rfl rfl (by unfold vp_in; decide) d_DiscMakerModel_tables_11 (fun f1 e_f1 H locs hP hD hS => ?_)
  have hP : va_P D CL [(h0, .inr (11, MO ma sv_thrown sv_length sv_nodes sv_many sv_directories sv_runsFrom sv_runs sv_read sv_wrong sv_isNamed sv_goes sv_goesSize sv_goesAt sv_targetParts sv_isRoot)), ((ma 1), .inl (cI, 40, .inl fK)), ((ma 2), .inl (cI, 40, .inl fP)), ((ma 8), .inl (cB, 1200, .inl fN)), ((ma 9), .inl (cI, 40, .inl fNS)), ((ma 12), .inl (cB, 320, .inl fBa)), ((ma 13), .inl (cI, 40, .inl fBs)), ((ma 14), .inl (cB, 120, .inl fEx)), ((ma 15), .inl (cI, 40, .inl fEs)), ((ma 17), .inl (cI, 24, .inl f1))] H := hP
  have hD : va_D A [(h0, .inr (11, MO ma sv_thrown sv_length sv_nodes sv_many sv_directories sv_runsFrom sv_runs sv_read sv_wrong sv_isNamed sv_goes sv_goesSize sv_goesAt sv_targetParts sv_isRoot)), ((ma 1), .inl (cI, 40, .inl fK)), ((ma 2), .inl (cI, 40, .inl fP)), ((ma 8), .inl (cB, 1200, .inl fN)), ((ma 9), .inl (cI, 40, .inl fNS)), ((ma 12), .inl (cB, 320, .inl fBa)), ((ma 13), .inl (cI, 40, .inl fBs)), ((ma 14), .inl (cB, 120, .inl fEx)), ((ma 15), .inl (cI, 40, .inl fEs)), ((ma 17), .inl (cI, 24, .inl f1))] := hD
  have s_f1 : f1 0 = 0 := by rw [e_f1]; unfold upd; rw [if_pos (by first | rfl | decide)]
  refine lv_iconst (v := 0) hx hb d_DiscMakerModel_tables_12 (by decide) ?_
  refine lv_istore_n hx hb d_DiscMakerModel_tables_13 rfl hl (by decide) rfl (fun ls hl => ?_)
  have hl : lv_has ls 6 [(3, .int 0), (2, .int 1), (0, .ref h0), (1, .int 0)] := hl
  refine zz_labM (B := fun (lk : Nat) (K : Heap → List Loc → Array Slot → List Value → Prop) => ∀ (ln : Int32) (li : Int32) (lTb : Nat → Int32) (H : Heap) (locs : List Loc) (ls : Array Slot), lk = (12 - li.toInt).toNat → (0 ≤ li.toInt ∧ li.toInt ≤ ln.toInt ∧ 1 ≤ ln.toInt ∧ ln.toInt ≤ 12) → (TBi 0 sv_nodes.toInt fK fP lTb ln.toNatClampNeg li.toNatClampNeg (fun _ => False) (fun _ => True)) → (∀ q : Nat, q < 12 * 0 ∨ 12 * 0 + 12 ≤ q → lTb q = fTb q) → va_P D CL [(h0, .inr (11, MO ma sv_thrown sv_length sv_nodes sv_many sv_directories sv_runsFrom sv_runs sv_read sv_wrong sv_isNamed sv_goes sv_goesSize sv_goesAt sv_targetParts sv_isRoot)), ((ma 1), .inl (cI, 40, .inl fK)), ((ma 2), .inl (cI, 40, .inl fP)), ((ma 8), .inl (cB, 1200, .inl fN)), ((ma 9), .inl (cI, 40, .inl fNS)), ((ma 12), .inl (cB, 320, .inl fBa)), ((ma 13), .inl (cI, 40, .inl fBs)), ((ma 14), .inl (cB, 120, .inl fEx)), ((ma 15), .inl (cI, 40, .inl fEs)), ((ma 17), .inl (cI, 24, .inl lTb))] H → va_D A [(h0, .inr (11, MO ma sv_thrown sv_length sv_nodes sv_many sv_directories sv_runsFrom sv_runs sv_read sv_wrong sv_isNamed sv_goes sv_goesSize sv_goesAt sv_targetParts sv_isRoot)), ((ma 1), .inl (cI, 40, .inl fK)), ((ma 2), .inl (cI, 40, .inl fP)), ((ma 8), .inl (cB, 1200, .inl fN)), ((ma 9), .inl (cI, 40, .inl fNS)), ((ma 12), .inl (cB, 320, .inl fBa)), ((ma 13), .inl (cI, 40, .inl fBs)), ((ma 14), .inl (cB, 120, .inl fEx)), ((ma 15), .inl (cI, 40, .inl fEs)), ((ma 17), .inl (cI, 24, .inl lTb))] → va_S A s.heap H locs → lv_has ls 6 [(0, .ref h0), (1, .int 0), (2, .int ln), (3, .int li)] → K H locs ls []) 14 ?_ ?_
  · skip
    intro lk ih14 ln li lTb H locs ls hm14 y1 y2 y3 hP hD hS hl
    have hlic := i_cl (a := li) (by omega)
    refine lv_iload_n hx hb d_DiscMakerModel_tables_14 rfl (lv_at hl 3 rfl) ?_
    refine lv_iload_n hx hb d_DiscMakerModel_tables_15 rfl (lv_at hl 2 rfl) ?_
    refine lv_icmp_ge (tgt := 96) hx hb d_DiscMakerModel_tables_16 (by decide) (fun h_9 => ?_) (fun h_9 => ?_)
    · skip
      have g16_14 : ln.toInt ≤ li.toInt := (i_le rfl rfl).mp h_9
      refine lv_aload_n hx hb d_DiscMakerModel_tables_96 rfl (lv_at hl 0 rfl) ?_
      refine lv_iload_n hx hb d_DiscMakerModel_tables_97 rfl (lv_at hl 2 rfl) ?_
      refine va_put (D := D) (ci := 11) (v := .int ln) (ty := .int) (C := "DiscMakerModel") (T := F_DiscMakerModel) (N := 48) hx hb ht9 in_DiscMakerModel t_DiscMakerModel t_DiscMakerModel_ok n_DiscMakerModel hown hK hP hD hS 0 rfl rfl 25 (by decide) (ht9 _ k1456) (fun _ h9 => h9) rfl (by decide +kernel) rfl rfl (Nat.le_of_ble_eq_true rfl) d_DiscMakerModel_tables_98 (fun H locs hP hD hS => ?_)
      have hP : va_P D CL [(h0, .inr (11, MO ma sv_thrown sv_length sv_nodes sv_many ln sv_runsFrom sv_runs sv_read sv_wrong sv_isNamed sv_goes sv_goesSize sv_goesAt sv_targetParts sv_isRoot)), ((ma 1), .inl (cI, 40, .inl fK)), ((ma 2), .inl (cI, 40, .inl fP)), ((ma 8), .inl (cB, 1200, .inl fN)), ((ma 9), .inl (cI, 40, .inl fNS)), ((ma 12), .inl (cB, 320, .inl fBa)), ((ma 13), .inl (cI, 40, .inl fBs)), ((ma 14), .inl (cB, 120, .inl fEx)), ((ma 15), .inl (cI, 40, .inl fEs)), ((ma 17), .inl (cI, 24, .inl lTb))] H := hP
      have hD : va_D A [(h0, .inr (11, MO ma sv_thrown sv_length sv_nodes sv_many ln sv_runsFrom sv_runs sv_read sv_wrong sv_isNamed sv_goes sv_goesSize sv_goesAt sv_targetParts sv_isRoot)), ((ma 1), .inl (cI, 40, .inl fK)), ((ma 2), .inl (cI, 40, .inl fP)), ((ma 8), .inl (cB, 1200, .inl fN)), ((ma 9), .inl (cI, 40, .inl fNS)), ((ma 12), .inl (cB, 320, .inl fBa)), ((ma 13), .inl (cI, 40, .inl fBs)), ((ma 14), .inl (cB, 120, .inl fEx)), ((ma 15), .inl (cI, 40, .inl fEs)), ((ma 17), .inl (cI, 24, .inl lTb))] := hD
      have hP9 := hP.sub (ws' := [(h0, .inr (11, MO ma sv_thrown sv_length sv_nodes sv_many ln sv_runsFrom sv_runs sv_read sv_wrong sv_isNamed sv_goes sv_goesSize sv_goesAt sv_targetParts sv_isRoot)), ((ma 1), .inl (cI, 40, .inl fK)), ((ma 2), .inl (cI, 40, .inl fP)), ((ma 8), .inl (cB, 1200, .inl fN)), ((ma 9), .inl (cI, 40, .inl fNS)), ((ma 12), .inl (cB, 320, .inl fBa)), ((ma 13), .inl (cI, 40, .inl fBs)), ((ma 14), .inl (cB, 120, .inl fEx)), ((ma 15), .inl (cI, 40, .inl fEs)), ((ma 17), .inl (cI, 24, .inl lTb))]) [0, 1, 2, 3, 4, 5, 6, 7, 8, 9] rfl
      have hD9 := hD.sub (ws' := [(h0, .inr (11, MO ma sv_thrown sv_length sv_nodes sv_many ln sv_runsFrom sv_runs sv_read sv_wrong sv_isNamed sv_goes sv_goesSize sv_goesAt sv_targetParts sv_isRoot)), ((ma 1), .inl (cI, 40, .inl fK)), ((ma 2), .inl (cI, 40, .inl fP)), ((ma 8), .inl (cB, 1200, .inl fN)), ((ma 9), .inl (cI, 40, .inl fNS)), ((ma 12), .inl (cB, 320, .inl fBa)), ((ma 13), .inl (cI, 40, .inl fBs)), ((ma 14), .inl (cB, 120, .inl fEx)), ((ma 15), .inl (cI, 40, .inl fEs)), ((ma 17), .inl (cI, 24, .inl lTb))]) [0, 1, 2, 3, 4, 5, 6, 7, 8, 9] (by decide +kernel) rfl
      have hli : li = ln := Int32.toInt_inj.mp (by omega)
      have f2z := y2
      rw [hli] at f2z
      exact W.vret hx hb hr (fun t ht hW => ⟨⟨(ln, lTb), rfl, ⟨(by (try dsimp only); first | assumption | omega | trivial), f2z, y3⟩, by rw [ht]; exact hP9, hD9⟩, hS.F ht⟩) hS.2.2 d_DiscMakerModel_tables_101
    · skip
      have g16_14 : ¬ ln.toInt ≤ li.toInt := fun h8 => h_9 ((i_le rfl rfl).mpr h8)
      refine lv_aload_n hx hb d_DiscMakerModel_tables_19 rfl (lv_at hl 0 rfl) ?_
      refine va_get (D := D) (ci := 11) (v := .ref (ma 17)) (C := "DiscMakerModel") (T := F_DiscMakerModel) (N := 48) hx hb ht9 in_DiscMakerModel hown hK hP 0 rfl rfl 21 (by decide) (ht9 _ k1452) (fun _ h9 => h9) rfl d_DiscMakerModel_tables_20 ?_
      refine lv_bipush (v := 12) hx hb d_DiscMakerModel_tables_23 (by decide) ?_
      refine lv_iload_n hx hb d_DiscMakerModel_tables_25 rfl (lv_at hl 1 rfl) ?_
      refine lv_imul hx hb d_DiscMakerModel_tables_26 ?_
      refine W.eq (g2 := F0 m 27 ls [.int 0, .ref (ma 17)]) (by rw [show ((12 : Int32) * 0) = 0 from by decide]) ?_
      refine lv_iload_n hx hb d_DiscMakerModel_tables_27 rfl (lv_at hl 3 rfl) ?_
      refine lv_iadd hx hb d_DiscMakerModel_tables_28 ?_
      refine lv_topi (fun v2 e_v2 => ?_)
      have t_v2 : v2.toInt = 0 + li.toInt := by rw [e_v2]; exact i_add (by decide) rfl (by omega) (by omega)
      refine va_iald hx hb hK hP 9 1 rfl rfl (vp_in_iff.mpr ⟨by omega, by omega⟩) d_DiscMakerModel_tables_29 ?_
      refine lv_topi (fun v3 e_v3 => ?_)
      have c_v3 := i_cl (a := v2) (by omega)
      have e2_v3 : v3 = lTb (12 * 0 + li.toNatClampNeg) := by rw [e_v3, show v2.toNatClampNeg = 12 * 0 + li.toNatClampNeg by omega]
      have qtv3 : tbv lTb 0 li.toNatClampNeg = v3.toInt := by unfold tbv; rw [e2_v3]
      have qrv3 := y2.rg li.toNatClampNeg (by have := i_cl (a := ln) (by omega); omega)
      refine lv_istore hx hb d_DiscMakerModel_tables_30 hl (by decide) rfl (fun ls hl => ?_)
      have hl : lv_has ls 6 [(4, .int v3), (0, .ref h0), (1, .int 0), (2, .int ln), (3, .int li)] := hl
      refine lv_aload_n hx hb d_DiscMakerModel_tables_32 rfl (lv_at hl 1 rfl) ?_
      refine lv_iload_n hx hb d_DiscMakerModel_tables_33 rfl (lv_at hl 2 rfl) ?_
      refine lv_iload hx hb d_DiscMakerModel_tables_34 (lv_at hl 0 rfl) ?_
      refine lv_iconst (v := (-1)) hx hb d_DiscMakerModel_tables_36 (by decide) ?_
      have hPc := hP.sub (ws' := [(h0, .inr (11, MO ma sv_thrown sv_length sv_nodes sv_many sv_directories sv_runsFrom sv_runs sv_read sv_wrong sv_isNamed sv_goes sv_goesSize sv_goesAt sv_targetParts sv_isRoot)), ((ma 1), .inl (cI, 40, .inl fK)), ((ma 2), .inl (cI, 40, .inl fP)), ((ma 8), .inl (cB, 1200, .inl fN)), ((ma 9), .inl (cI, 40, .inl fNS)), ((ma 12), .inl (cB, 320, .inl fBa)), ((ma 13), .inl (cI, 40, .inl fBs)), ((ma 14), .inl (cB, 120, .inl fEx)), ((ma 15), .inl (cI, 40, .inl fEs))]) [0, 1, 2, 3, 4, 5, 6, 7, 8] rfl
      have hDc := hD.sub (ws' := [(h0, .inr (11, MO ma sv_thrown sv_length sv_nodes sv_many sv_directories sv_runsFrom sv_runs sv_read sv_wrong sv_isNamed sv_goes sv_goesSize sv_goesAt sv_targetParts sv_isRoot)), ((ma 1), .inl (cI, 40, .inl fK)), ((ma 2), .inl (cI, 40, .inl fP)), ((ma 8), .inl (cB, 1200, .inl fN)), ((ma 9), .inl (cI, 40, .inl fNS)), ((ma 12), .inl (cB, 320, .inl fBa)), ((ma 13), .inl (cI, 40, .inl fBs)), ((ma 14), .inl (cB, 120, .inl fEx)), ((ma 15), .inl (cI, 40, .inl fEs))]) [0, 1, 2, 3, 4, 5, 6, 7, 8] (by decide +kernel) rfl
      have hFc := va_free (wc := [(h0, .inr (11, MO ma sv_thrown sv_length sv_nodes sv_many sv_directories sv_runsFrom sv_runs sv_read sv_wrong sv_isNamed sv_goes sv_goesSize sv_goesAt sv_targetParts sv_isRoot)), ((ma 1), .inl (cI, 40, .inl fK)), ((ma 2), .inl (cI, 40, .inl fP)), ((ma 8), .inl (cB, 1200, .inl fN)), ((ma 9), .inl (cI, 40, .inl fNS)), ((ma 12), .inl (cB, 320, .inl fBa)), ((ma 13), .inl (cI, 40, .inl fBs)), ((ma 14), .inl (cB, 120, .inl fEx)), ((ma 15), .inl (cI, 40, .inl fEs))]) hD hS hA [0, 1, 2, 3, 4, 5, 6, 7, 8] rfl
      have hkc : 0 ≤ 0 := by decide
      have hks : 0 ≤ 0 := by decide
      refine va_calli (va_runV (C := "DiscMakerModel") (As := [.int 0, .int v3, .int (-1)]) (rest := []) ⟨hx, hb, hml, hown, hts⟩ (m_next l D cB cI cJ cZ cN cF H.size h0 ma sv_thrown sv_length sv_nodes sv_many sv_directories sv_runsFrom sv_runs sv_read sv_wrong sv_isNamed sv_goes sv_goesSize sv_goesAt sv_targetParts sv_isRoot fK fP fN fNS fBa fBs fEx fEs 0 v3 (-1) (by (try dsimp only); first | assumption | omega | trivial) (by (try dsimp only); first | assumption | omega | trivial) (by (try dsimp only); first | assumption | omega | trivial) (by (try dsimp only); first | assumption | omega | trivial) (by (try dsimp only); first | assumption | omega | trivial) (by (try dsimp only); first | assumption | omega | trivial) (by (try dsimp only); first | assumption | omega | trivial) (by (try dsimp only); first | assumption | omega | trivial)) (cwV 3 hts (lg_goodV k1675 k1677 k66 k125 kc_DiscMakerModel_next) rfl rfl rfl (by decide +kernel) ⟨Nat.le_of_ble_eq_true rfl, Nat.le_of_ble_eq_true rfl⟩) ⟨fun a U g mk q => by obtain ⟨q0, q1, qP, qK, qN, qD⟩ := q; exact ⟨q0, q1, qP, va_K.moved (u := U) (U := U.calling g mk a) (Vm.Alike.refl U.vm) qK, qN.calling, qD⟩, va_recv hK hP (ci := 11) (q0 := 0) rfl rfl, fun U hU hW => ⟨rfl, by rw [hU], by rw [hU]; exact hPc, va_K.moved hW.alike hK, NN.warm hW hN, hDc.weaken (fun _ _ _ _ => trivial)⟩⟩ rfl rfl hl.1 rfl (lv_room (Nat.le_of_ble_eq_true rfl)) d_DiscMakerModel_tables_37 ⟨hkc, hks⟩) hS (fun q _ h => hFc q h) hFc (fun r4 u t H1 locs ht hvm hp_r4 hB hz1 hk1 hS => ?_)
      obtain ⟨hP1, hD1⟩ := hB
      rw [ht] at hP1
      obtain ⟨hP, hD⟩ := va_join (wr := [((ma 17), .inl (cI, 24, .inl lTb))]) (w1 := [(h0, .inr (11, MO ma sv_thrown sv_length sv_nodes sv_many sv_directories sv_runsFrom sv_runs sv_read sv_wrong sv_isNamed sv_goes sv_goesSize sv_goesAt sv_targetParts sv_isRoot)), ((ma 1), .inl (cI, 40, .inl fK)), ((ma 2), .inl (cI, 40, .inl fP)), ((ma 8), .inl (cB, 1200, .inl fN)), ((ma 9), .inl (cI, 40, .inl fNS)), ((ma 12), .inl (cB, 320, .inl fBa)), ((ma 13), .inl (cI, 40, .inl fBs)), ((ma 14), .inl (cB, 120, .inl fEx)), ((ma 15), .inl (cI, 40, .inl fEs))]) hP hD [0, 1, 2, 3, 4, 5, 6, 7, 8] [9] rfl rfl (by decide +kernel) (by decide +kernel) hk1 hFc hP1 hD1
      clear hPc hDc hFc hP1 hD1 hk1 hz1 hkc hks
      generalize H1 = H at hP hS ⊢
      have hP : va_P D CL [((ma 17), .inl (cI, 24, .inl lTb)), (h0, .inr (11, MO ma sv_thrown sv_length sv_nodes sv_many sv_directories sv_runsFrom sv_runs sv_read sv_wrong sv_isNamed sv_goes sv_goesSize sv_goesAt sv_targetParts sv_isRoot)), ((ma 1), .inl (cI, 40, .inl fK)), ((ma 2), .inl (cI, 40, .inl fP)), ((ma 8), .inl (cB, 1200, .inl fN)), ((ma 9), .inl (cI, 40, .inl fNS)), ((ma 12), .inl (cB, 320, .inl fBa)), ((ma 13), .inl (cI, 40, .inl fBs)), ((ma 14), .inl (cB, 120, .inl fEx)), ((ma 15), .inl (cI, 40, .inl fEs))] H := hP
      have hD : va_D A [((ma 17), .inl (cI, 24, .inl lTb)), (h0, .inr (11, MO ma sv_thrown sv_length sv_nodes sv_many sv_directories sv_runsFrom sv_runs sv_read sv_wrong sv_isNamed sv_goes sv_goesSize sv_goesAt sv_targetParts sv_isRoot)), ((ma 1), .inl (cI, 40, .inl fK)), ((ma 2), .inl (cI, 40, .inl fP)), ((ma 8), .inl (cB, 1200, .inl fN)), ((ma 9), .inl (cI, 40, .inl fNS)), ((ma 12), .inl (cB, 320, .inl fBa)), ((ma 13), .inl (cI, 40, .inl fBs)), ((ma 14), .inl (cB, 120, .inl fEx)), ((ma 15), .inl (cI, 40, .inl fEs))] := hD
      try dsimp only at hp_r4
      have hnx_5 := hp_r4
      try rw [L_m1] at hnx_5
      try rw [L_0] at hnx_5
      refine lv_istore hx hb d_DiscMakerModel_tables_40 hl (by decide) rfl (fun ls hl => ?_)
      have hl : lv_has ls 6 [(5, .int r4), (4, .int v3), (0, .ref h0), (1, .int 0), (2, .int ln), (3, .int li)] := hl
      refine zz_labM (B := fun (lk : Nat) (K : Heap → List Loc → Array Slot → List Value → Prop) => ∀ (nn : Int32) (nk : Int32) (nTb : Nat → Int32) (H : Heap) (locs : List Loc) (ls : Array Slot), lk = (if nk.toInt < 0 then 0 else rest (KF 0 fN fNS fBa fBs fEx fEs) (NL 0) fP v3.toInt nk.toInt sv_nodes.toInt.toNat + 1) → (li.toInt < nn.toInt ∧ nn.toInt ≤ 12) → (nk.toInt = -1 ∨ (1 ≤ nk.toInt ∧ nk.toInt < sv_nodes.toInt ∧ (fP nk.toNatClampNeg).toInt = v3.toInt)) → (TBi 0 sv_nodes.toInt fK fP nTb nn.toNatClampNeg li.toNatClampNeg (Cq (KF 0 fN fNS fBa fBs fEx fEs) (NL 0) nk.toInt) (Eq_ (KF 0 fN fNS fBa fBs fEx fEs) (NL 0) nk.toInt)) → (∀ q : Nat, q < 12 * 0 ∨ 12 * 0 + 12 ≤ q → nTb q = fTb q) → (tbv nTb 0 li.toNatClampNeg = v3.toInt) → va_P D CL [((ma 17), .inl (cI, 24, .inl nTb)), (h0, .inr (11, MO ma sv_thrown sv_length sv_nodes sv_many sv_directories sv_runsFrom sv_runs sv_read sv_wrong sv_isNamed sv_goes sv_goesSize sv_goesAt sv_targetParts sv_isRoot)), ((ma 1), .inl (cI, 40, .inl fK)), ((ma 2), .inl (cI, 40, .inl fP)), ((ma 8), .inl (cB, 1200, .inl fN)), ((ma 9), .inl (cI, 40, .inl fNS)), ((ma 12), .inl (cB, 320, .inl fBa)), ((ma 13), .inl (cI, 40, .inl fBs)), ((ma 14), .inl (cB, 120, .inl fEx)), ((ma 15), .inl (cI, 40, .inl fEs))] H → va_D A [((ma 17), .inl (cI, 24, .inl nTb)), (h0, .inr (11, MO ma sv_thrown sv_length sv_nodes sv_many sv_directories sv_runsFrom sv_runs sv_read sv_wrong sv_isNamed sv_goes sv_goesSize sv_goesAt sv_targetParts sv_isRoot)), ((ma 1), .inl (cI, 40, .inl fK)), ((ma 2), .inl (cI, 40, .inl fP)), ((ma 8), .inl (cB, 1200, .inl fN)), ((ma 9), .inl (cI, 40, .inl fNS)), ((ma 12), .inl (cB, 320, .inl fBa)), ((ma 13), .inl (cI, 40, .inl fBs)), ((ma 14), .inl (cB, 120, .inl fEx)), ((ma 15), .inl (cI, 40, .inl fEs))] → va_S A s.heap H locs → lv_has ls 6 [(0, .ref h0), (1, .int 0), (2, .int nn), (3, .int li), (4, .int v3), (5, .int nk)] → K H locs ls []) 42 ?_ ?_
      · skip
        intro lk ih42 nn nk nTb H locs ls hm42 g1 g5 g3 g4 g6 hP hD hS hl
        refine lv_iload hx hb d_DiscMakerModel_tables_42 (lv_at hl 5 rfl) ?_
        refine lv_if_lt (tgt := 90) hx hb d_DiscMakerModel_tables_44 (by decide) (fun h_9 => ?_) (fun h_9 => ?_)
        · skip
          have g44_35 : nk.toInt < 0 := (i_lt rfl (by decide)).mp h_9
          obtain ⟨v6, e_v6⟩ : ∃ z : Int32, z = li + 1 := ⟨_, rfl⟩
          refine lv_iinc (v := v6) hx hb d_DiscMakerModel_tables_90 hl (k := 3) rfl e_v6.symm (by decide +kernel) rfl (fun ls hl => ?_)
          have t_v6 : v6.toInt = li.toInt + 1 := by rw [e_v6]; exact i_add rfl (by decide) (by omega) (by omega)
          have hl : lv_has ls 6 [(3, .int v6), (0, .ref h0), (1, .int 0), (2, .int nn), (4, .int v3), (5, .int nk)] := hl
          refine lv_goto (tgt := 14) hx hb d_DiscMakerModel_tables_93 (by decide) ?_
          have hP := hP.sub (ws' := [(h0, .inr (11, MO ma sv_thrown sv_length sv_nodes sv_many sv_directories sv_runsFrom sv_runs sv_read sv_wrong sv_isNamed sv_goes sv_goesSize sv_goesAt sv_targetParts sv_isRoot)), ((ma 1), .inl (cI, 40, .inl fK)), ((ma 2), .inl (cI, 40, .inl fP)), ((ma 8), .inl (cB, 1200, .inl fN)), ((ma 9), .inl (cI, 40, .inl fNS)), ((ma 12), .inl (cB, 320, .inl fBa)), ((ma 13), .inl (cI, 40, .inl fBs)), ((ma 14), .inl (cB, 120, .inl fEx)), ((ma 15), .inl (cI, 40, .inl fEs)), ((ma 17), .inl (cI, 24, .inl nTb))]) [1, 2, 3, 4, 5, 6, 7, 8, 9, 0] rfl
          have hD := hD.sub (ws' := [(h0, .inr (11, MO ma sv_thrown sv_length sv_nodes sv_many sv_directories sv_runsFrom sv_runs sv_read sv_wrong sv_isNamed sv_goes sv_goesSize sv_goesAt sv_targetParts sv_isRoot)), ((ma 1), .inl (cI, 40, .inl fK)), ((ma 2), .inl (cI, 40, .inl fP)), ((ma 8), .inl (cB, 1200, .inl fN)), ((ma 9), .inl (cI, 40, .inl fNS)), ((ma 12), .inl (cB, 320, .inl fBa)), ((ma 13), .inl (cI, 40, .inl fBs)), ((ma 14), .inl (cB, 120, .inl fEx)), ((ma 15), .inl (cI, 40, .inl fEs)), ((ma 17), .inl (cI, 24, .inl nTb))]) [1, 2, 3, 4, 5, 6, 7, 8, 9, 0] (by decide +kernel) rfl
          have hl := lv_sub hl [1, 2, 3, 0] rfl
          exact ih14 _ (by first | omega | (dsimp only; omega)) nn v6 nTb _ _ _ rfl ((by (try dsimp only); first | assumption | omega | trivial)) ((by have h8 := i_cl (a := li) (by omega); have h9 := i_cl (a := v6) (by omega); rw [show v6.toNatClampNeg = li.toNatClampNeg + 1 by omega]; exact g3.done (fun q h => by have := h.1; omega))) (g4) hP hD hS hl
        · skip
          have g44_35 : ¬ nk.toInt < 0 := fun h8 => h_9 ((i_lt rfl (by decide)).mpr h8)
          refine lv_aload_n hx hb d_DiscMakerModel_tables_47 rfl (lv_at hl 0 rfl) ?_
          refine va_get (D := D) (ci := 11) (v := .ref (ma 1)) (C := "DiscMakerModel") (T := F_DiscMakerModel) (N := 48) hx hb ht9 in_DiscMakerModel hown hK hP 1 rfl rfl 4 (by decide) (ht9 _ k1435) (fun _ h9 => h9) rfl d_DiscMakerModel_tables_48 ?_
          refine lv_iload hx hb d_DiscMakerModel_tables_51 (lv_at hl 5 rfl) ?_
          refine va_iald hx hb hK hP 2 1 rfl rfl (vp_in_iff.mpr ⟨by omega, by omega⟩) d_DiscMakerModel_tables_53 ?_
          refine lv_topi (fun v7 e_v7 => ?_)
          have t_v7 : 0 ≤ v7.toInt ∧ v7.toInt ≤ 2 := by
            rw [e_v7]; exact hKi _ (by have := i_cl (a := nk) (by omega); omega)
          refine lv_if_eq (tgt := 60) hx hb d_DiscMakerModel_tables_54 (by decide) (fun h_9 => ?_) (fun h_9 => ?_)
          · skip
            have g54_43 : v7.toInt = 0 := (i_eq rfl (by decide)).mp h_9
            have hfit : nn.toNatClampNeg < 12 := TBi.fits g3 g6.symm (by omega) (by omega) (by rw [show nk.toInt.toNat = nk.toNatClampNeg from rfl, ← e_v7]; omega) (by rw [show nk.toInt.toNat = nk.toNatClampNeg from rfl]; omega) (by have := i_cl (a := nn) (by omega); have := i_cl (a := li) (by omega); omega) hT.cc
            have hfic := i_cl (a := nn) (by omega)
            refine lv_aload_n hx hb d_DiscMakerModel_tables_60 rfl (lv_at hl 0 rfl) ?_
            refine va_get (D := D) (ci := 11) (v := .ref (ma 17)) (C := "DiscMakerModel") (T := F_DiscMakerModel) (N := 48) hx hb ht9 in_DiscMakerModel hown hK hP 1 rfl rfl 21 (by decide) (ht9 _ k1452) (fun _ h9 => h9) rfl d_DiscMakerModel_tables_61 ?_
            refine lv_bipush (v := 12) hx hb d_DiscMakerModel_tables_64 (by decide) ?_
            refine lv_iload_n hx hb d_DiscMakerModel_tables_66 rfl (lv_at hl 1 rfl) ?_
            refine lv_imul hx hb d_DiscMakerModel_tables_67 ?_
            refine W.eq (g2 := F0 m 68 ls [.int 0, .ref (ma 17)]) (by rw [show ((12 : Int32) * 0) = 0 from by decide]) ?_
            refine lv_iload_n hx hb d_DiscMakerModel_tables_68 rfl (lv_at hl 2 rfl) ?_
            refine lv_iadd hx hb d_DiscMakerModel_tables_69 ?_
            refine lv_topi (fun v8 e_v8 => ?_)
            have t_v8 : v8.toInt = 0 + nn.toInt := by rw [e_v8]; exact i_add (by decide) rfl (by omega) (by omega)
            refine lv_iload hx hb d_DiscMakerModel_tables_70 (lv_at hl 5 rfl) ?_
            refine zq_iast hx hb hK hP hD hS 0 1 rfl rfl (vp_in_iff.mpr ⟨by omega, by omega⟩) d_DiscMakerModel_tables_72 (fun f9 e_f9 H locs hP hD hS => ?_)
            have hP : va_P D CL [((ma 17), .inl (cI, 24, .inl f9)), (h0, .inr (11, MO ma sv_thrown sv_length sv_nodes sv_many sv_directories sv_runsFrom sv_runs sv_read sv_wrong sv_isNamed sv_goes sv_goesSize sv_goesAt sv_targetParts sv_isRoot)), ((ma 1), .inl (cI, 40, .inl fK)), ((ma 2), .inl (cI, 40, .inl fP)), ((ma 8), .inl (cB, 1200, .inl fN)), ((ma 9), .inl (cI, 40, .inl fNS)), ((ma 12), .inl (cB, 320, .inl fBa)), ((ma 13), .inl (cI, 40, .inl fBs)), ((ma 14), .inl (cB, 120, .inl fEx)), ((ma 15), .inl (cI, 40, .inl fEs))] H := hP
            have hD : va_D A [((ma 17), .inl (cI, 24, .inl f9)), (h0, .inr (11, MO ma sv_thrown sv_length sv_nodes sv_many sv_directories sv_runsFrom sv_runs sv_read sv_wrong sv_isNamed sv_goes sv_goesSize sv_goesAt sv_targetParts sv_isRoot)), ((ma 1), .inl (cI, 40, .inl fK)), ((ma 2), .inl (cI, 40, .inl fP)), ((ma 8), .inl (cB, 1200, .inl fN)), ((ma 9), .inl (cI, 40, .inl fNS)), ((ma 12), .inl (cB, 320, .inl fBa)), ((ma 13), .inl (cI, 40, .inl fBs)), ((ma 14), .inl (cB, 120, .inl fEx)), ((ma 15), .inl (cI, 40, .inl fEs))] := hD
            have s_f9 : f9 v8.toNatClampNeg = nk := by rw [e_f9]; unfold upd; rw [if_pos (by first | rfl | decide)]
            have e2x_f9 : f9 = upd nTb (12 * 0 + nn.toNatClampNeg) nk := by rw [e_f9, show v8.toNatClampNeg = 12 * 0 + nn.toNatClampNeg by (have := i_cl (a := v8) (by omega); omega)]
            obtain ⟨v10, e_v10⟩ : ∃ z : Int32, z = nn + 1 := ⟨_, rfl⟩
            refine lv_iinc (v := v10) hx hb d_DiscMakerModel_tables_73 hl (k := 2) rfl e_v10.symm (by decide +kernel) rfl (fun ls hl => ?_)
            have t_v10 : v10.toInt = nn.toInt + 1 := by rw [e_v10]; exact i_add rfl (by decide) (by omega) (by omega)
            have hl : lv_has ls 6 [(2, .int v10), (0, .ref h0), (1, .int 0), (3, .int li), (4, .int v3), (5, .int nk)] := hl
            refine lv_aload_n hx hb d_DiscMakerModel_tables_76 rfl (lv_at hl 1 rfl) ?_
            refine lv_iload_n hx hb d_DiscMakerModel_tables_77 rfl (lv_at hl 2 rfl) ?_
            refine lv_iload hx hb d_DiscMakerModel_tables_78 (lv_at hl 4 rfl) ?_
            refine lv_iload hx hb d_DiscMakerModel_tables_80 (lv_at hl 5 rfl) ?_
            have hPc := hP.sub (ws' := [(h0, .inr (11, MO ma sv_thrown sv_length sv_nodes sv_many sv_directories sv_runsFrom sv_runs sv_read sv_wrong sv_isNamed sv_goes sv_goesSize sv_goesAt sv_targetParts sv_isRoot)), ((ma 1), .inl (cI, 40, .inl fK)), ((ma 2), .inl (cI, 40, .inl fP)), ((ma 8), .inl (cB, 1200, .inl fN)), ((ma 9), .inl (cI, 40, .inl fNS)), ((ma 12), .inl (cB, 320, .inl fBa)), ((ma 13), .inl (cI, 40, .inl fBs)), ((ma 14), .inl (cB, 120, .inl fEx)), ((ma 15), .inl (cI, 40, .inl fEs))]) [1, 2, 3, 4, 5, 6, 7, 8, 9] rfl
            have hDc := hD.sub (ws' := [(h0, .inr (11, MO ma sv_thrown sv_length sv_nodes sv_many sv_directories sv_runsFrom sv_runs sv_read sv_wrong sv_isNamed sv_goes sv_goesSize sv_goesAt sv_targetParts sv_isRoot)), ((ma 1), .inl (cI, 40, .inl fK)), ((ma 2), .inl (cI, 40, .inl fP)), ((ma 8), .inl (cB, 1200, .inl fN)), ((ma 9), .inl (cI, 40, .inl fNS)), ((ma 12), .inl (cB, 320, .inl fBa)), ((ma 13), .inl (cI, 40, .inl fBs)), ((ma 14), .inl (cB, 120, .inl fEx)), ((ma 15), .inl (cI, 40, .inl fEs))]) [1, 2, 3, 4, 5, 6, 7, 8, 9] (by decide +kernel) rfl
            have hFc := va_free (wc := [(h0, .inr (11, MO ma sv_thrown sv_length sv_nodes sv_many sv_directories sv_runsFrom sv_runs sv_read sv_wrong sv_isNamed sv_goes sv_goesSize sv_goesAt sv_targetParts sv_isRoot)), ((ma 1), .inl (cI, 40, .inl fK)), ((ma 2), .inl (cI, 40, .inl fP)), ((ma 8), .inl (cB, 1200, .inl fN)), ((ma 9), .inl (cI, 40, .inl fNS)), ((ma 12), .inl (cB, 320, .inl fBa)), ((ma 13), .inl (cI, 40, .inl fBs)), ((ma 14), .inl (cB, 120, .inl fEx)), ((ma 15), .inl (cI, 40, .inl fEs))]) hD hS hA [1, 2, 3, 4, 5, 6, 7, 8, 9] rfl
            have hkc : 0 ≤ 0 := by decide
            have hks : 0 ≤ 0 := by decide
            refine va_calli (va_runV (C := "DiscMakerModel") (As := [.int 0, .int v3, .int nk]) (rest := []) ⟨hx, hb, hml, hown, hts⟩ (m_next l D cB cI cJ cZ cN cF H.size h0 ma sv_thrown sv_length sv_nodes sv_many sv_directories sv_runsFrom sv_runs sv_read sv_wrong sv_isNamed sv_goes sv_goesSize sv_goesAt sv_targetParts sv_isRoot fK fP fN fNS fBa fBs fEx fEs 0 v3 nk (by (try dsimp only); first | assumption | omega | trivial) (by (try dsimp only); first | assumption | omega | trivial) (by (try dsimp only); first | assumption | omega | trivial) (by (try dsimp only); first | assumption | omega | trivial) (by (try dsimp only); first | assumption | omega | trivial) (by (try dsimp only); first | assumption | omega | trivial) (by (try dsimp only); first | assumption | omega | trivial) (by (try dsimp only); first | assumption | omega | trivial)) (cwV 3 hts (lg_goodV k1675 k1677 k66 k125 kc_DiscMakerModel_next) rfl rfl rfl (by decide +kernel) ⟨Nat.le_of_ble_eq_true rfl, Nat.le_of_ble_eq_true rfl⟩) ⟨fun a U g mk q => by obtain ⟨q0, q1, qP, qK, qN, qD⟩ := q; exact ⟨q0, q1, qP, va_K.moved (u := U) (U := U.calling g mk a) (Vm.Alike.refl U.vm) qK, qN.calling, qD⟩, va_recv hK hP (ci := 11) (q0 := 1) rfl rfl, fun U hU hW => ⟨rfl, by rw [hU], by rw [hU]; exact hPc, va_K.moved hW.alike hK, NN.warm hW hN, hDc.weaken (fun _ _ _ _ => trivial)⟩⟩ rfl rfl hl.1 rfl (lv_room (Nat.le_of_ble_eq_true rfl)) d_DiscMakerModel_tables_82 ⟨hkc, hks⟩) hS (fun q _ h => hFc q h) hFc (fun r11 u t H1 locs ht hvm hp_r11 hB hz1 hk1 hS => ?_)
            obtain ⟨hP1, hD1⟩ := hB
            rw [ht] at hP1
            obtain ⟨hP, hD⟩ := va_join (wr := [((ma 17), .inl (cI, 24, .inl f9))]) (w1 := [(h0, .inr (11, MO ma sv_thrown sv_length sv_nodes sv_many sv_directories sv_runsFrom sv_runs sv_read sv_wrong sv_isNamed sv_goes sv_goesSize sv_goesAt sv_targetParts sv_isRoot)), ((ma 1), .inl (cI, 40, .inl fK)), ((ma 2), .inl (cI, 40, .inl fP)), ((ma 8), .inl (cB, 1200, .inl fN)), ((ma 9), .inl (cI, 40, .inl fNS)), ((ma 12), .inl (cB, 320, .inl fBa)), ((ma 13), .inl (cI, 40, .inl fBs)), ((ma 14), .inl (cB, 120, .inl fEx)), ((ma 15), .inl (cI, 40, .inl fEs))]) hP hD [1, 2, 3, 4, 5, 6, 7, 8, 9] [0] rfl rfl (by decide +kernel) (by decide +kernel) hk1 hFc hP1 hD1
            clear hPc hDc hFc hP1 hD1 hk1 hz1 hkc hks
            generalize H1 = H at hP hS ⊢
            have hP : va_P D CL [((ma 17), .inl (cI, 24, .inl f9)), (h0, .inr (11, MO ma sv_thrown sv_length sv_nodes sv_many sv_directories sv_runsFrom sv_runs sv_read sv_wrong sv_isNamed sv_goes sv_goesSize sv_goesAt sv_targetParts sv_isRoot)), ((ma 1), .inl (cI, 40, .inl fK)), ((ma 2), .inl (cI, 40, .inl fP)), ((ma 8), .inl (cB, 1200, .inl fN)), ((ma 9), .inl (cI, 40, .inl fNS)), ((ma 12), .inl (cB, 320, .inl fBa)), ((ma 13), .inl (cI, 40, .inl fBs)), ((ma 14), .inl (cB, 120, .inl fEx)), ((ma 15), .inl (cI, 40, .inl fEs))] H := hP
            have hD : va_D A [((ma 17), .inl (cI, 24, .inl f9)), (h0, .inr (11, MO ma sv_thrown sv_length sv_nodes sv_many sv_directories sv_runsFrom sv_runs sv_read sv_wrong sv_isNamed sv_goes sv_goesSize sv_goesAt sv_targetParts sv_isRoot)), ((ma 1), .inl (cI, 40, .inl fK)), ((ma 2), .inl (cI, 40, .inl fP)), ((ma 8), .inl (cB, 1200, .inl fN)), ((ma 9), .inl (cI, 40, .inl fNS)), ((ma 12), .inl (cB, 320, .inl fBa)), ((ma 13), .inl (cI, 40, .inl fBs)), ((ma 14), .inl (cB, 120, .inl fEx)), ((ma 15), .inl (cI, 40, .inl fEs))] := hD
            try dsimp only at hp_r11
            have hnx_12 := hp_r11
            try rw [L_0] at hnx_12
            refine lv_istore hx hb d_DiscMakerModel_tables_85 hl (by decide) rfl (fun ls hl => ?_)
            have hl : lv_has ls 6 [(5, .int r11), (2, .int v10), (0, .ref h0), (1, .int 0), (3, .int li), (4, .int v3)] := hl
            refine lv_goto (tgt := 42) hx hb d_DiscMakerModel_tables_87 (by decide) ?_
            have hP := hP.sub (ws' := [((ma 17), .inl (cI, 24, .inl f9)), (h0, .inr (11, MO ma sv_thrown sv_length sv_nodes sv_many sv_directories sv_runsFrom sv_runs sv_read sv_wrong sv_isNamed sv_goes sv_goesSize sv_goesAt sv_targetParts sv_isRoot)), ((ma 1), .inl (cI, 40, .inl fK)), ((ma 2), .inl (cI, 40, .inl fP)), ((ma 8), .inl (cB, 1200, .inl fN)), ((ma 9), .inl (cI, 40, .inl fNS)), ((ma 12), .inl (cB, 320, .inl fBa)), ((ma 13), .inl (cI, 40, .inl fBs)), ((ma 14), .inl (cB, 120, .inl fEx)), ((ma 15), .inl (cI, 40, .inl fEs))]) [0, 1, 2, 3, 4, 5, 6, 7, 8, 9] rfl
            have hD := hD.sub (ws' := [((ma 17), .inl (cI, 24, .inl f9)), (h0, .inr (11, MO ma sv_thrown sv_length sv_nodes sv_many sv_directories sv_runsFrom sv_runs sv_read sv_wrong sv_isNamed sv_goes sv_goesSize sv_goesAt sv_targetParts sv_isRoot)), ((ma 1), .inl (cI, 40, .inl fK)), ((ma 2), .inl (cI, 40, .inl fP)), ((ma 8), .inl (cB, 1200, .inl fN)), ((ma 9), .inl (cI, 40, .inl fNS)), ((ma 12), .inl (cB, 320, .inl fBa)), ((ma 13), .inl (cI, 40, .inl fBs)), ((ma 14), .inl (cB, 120, .inl fEx)), ((ma 15), .inl (cI, 40, .inl fEs))]) [0, 1, 2, 3, 4, 5, 6, 7, 8, 9] (by decide +kernel) rfl
            have hl := lv_sub hl [2, 3, 1, 4, 5, 0] rfl
            exact ih42 _ (by rw [hm42, if_neg (show ¬ nk.toInt < 0 by omega)]; split <;> first | omega | (have := next_rest hnx_12 (by omega); omega)) v10 r11 f9 _ _ _ rfl ((by (try dsimp only); first | assumption | omega | trivial)) ((by have h5 := next_par hnx_12; rw [show r11.toInt.toNat = r11.toNatClampNeg from rfl] at h5; omega)) ((by have h7 := i_cl (a := v10) (by omega); have h8 := i_cl (a := nn) (by omega); have h6 := i_cl (a := li) (by omega); rw [show v10.toNatClampNeg = nn.toNatClampNeg + 1 by omega]; exact TBi.add g3 hnx_12 hU g6.symm (by omega) (by omega) (by rw [show nk.toInt.toNat = nk.toNatClampNeg from rfl, ← e_v7]; omega) (by rw [show nk.toInt.toNat = nk.toNatClampNeg from rfl]; omega) (by omega) (by omega) rfl e2x_f9)) ((fun q hq => by rw [e2x_f9]; unfold upd; rw [if_neg (by have := i_cl (a := nn) (by omega); omega)]; exact g4 q hq)) ((by rw [← g6]; unfold tbv; rw [e2x_f9]; unfold upd; rw [if_neg (by have := i_cl (a := li) (by omega); have := i_cl (a := nn) (by omega); omega)])) hP hD hS hl
          · skip
            have g54_43 : ¬ v7.toInt = 0 := fun h8 => h_9 ((i_eq rfl (by decide)).mpr h8)
            refine lv_goto (tgt := 76) hx hb d_DiscMakerModel_tables_57 (by decide) ?_
            refine lv_aload_n hx hb d_DiscMakerModel_tables_76 rfl (lv_at hl 0 rfl) ?_
            refine lv_iload_n hx hb d_DiscMakerModel_tables_77 rfl (lv_at hl 1 rfl) ?_
            refine lv_iload hx hb d_DiscMakerModel_tables_78 (lv_at hl 4 rfl) ?_
            refine lv_iload hx hb d_DiscMakerModel_tables_80 (lv_at hl 5 rfl) ?_
            have hPc := hP.sub (ws' := [(h0, .inr (11, MO ma sv_thrown sv_length sv_nodes sv_many sv_directories sv_runsFrom sv_runs sv_read sv_wrong sv_isNamed sv_goes sv_goesSize sv_goesAt sv_targetParts sv_isRoot)), ((ma 1), .inl (cI, 40, .inl fK)), ((ma 2), .inl (cI, 40, .inl fP)), ((ma 8), .inl (cB, 1200, .inl fN)), ((ma 9), .inl (cI, 40, .inl fNS)), ((ma 12), .inl (cB, 320, .inl fBa)), ((ma 13), .inl (cI, 40, .inl fBs)), ((ma 14), .inl (cB, 120, .inl fEx)), ((ma 15), .inl (cI, 40, .inl fEs))]) [1, 2, 3, 4, 5, 6, 7, 8, 9] rfl
            have hDc := hD.sub (ws' := [(h0, .inr (11, MO ma sv_thrown sv_length sv_nodes sv_many sv_directories sv_runsFrom sv_runs sv_read sv_wrong sv_isNamed sv_goes sv_goesSize sv_goesAt sv_targetParts sv_isRoot)), ((ma 1), .inl (cI, 40, .inl fK)), ((ma 2), .inl (cI, 40, .inl fP)), ((ma 8), .inl (cB, 1200, .inl fN)), ((ma 9), .inl (cI, 40, .inl fNS)), ((ma 12), .inl (cB, 320, .inl fBa)), ((ma 13), .inl (cI, 40, .inl fBs)), ((ma 14), .inl (cB, 120, .inl fEx)), ((ma 15), .inl (cI, 40, .inl fEs))]) [1, 2, 3, 4, 5, 6, 7, 8, 9] (by decide +kernel) rfl
            have hFc := va_free (wc := [(h0, .inr (11, MO ma sv_thrown sv_length sv_nodes sv_many sv_directories sv_runsFrom sv_runs sv_read sv_wrong sv_isNamed sv_goes sv_goesSize sv_goesAt sv_targetParts sv_isRoot)), ((ma 1), .inl (cI, 40, .inl fK)), ((ma 2), .inl (cI, 40, .inl fP)), ((ma 8), .inl (cB, 1200, .inl fN)), ((ma 9), .inl (cI, 40, .inl fNS)), ((ma 12), .inl (cB, 320, .inl fBa)), ((ma 13), .inl (cI, 40, .inl fBs)), ((ma 14), .inl (cB, 120, .inl fEx)), ((ma 15), .inl (cI, 40, .inl fEs))]) hD hS hA [1, 2, 3, 4, 5, 6, 7, 8, 9] rfl
            have hkc : 0 ≤ 0 := by decide
            have hks : 0 ≤ 0 := by decide
            refine va_calli (va_runV (C := "DiscMakerModel") (As := [.int 0, .int v3, .int nk]) (rest := []) ⟨hx, hb, hml, hown, hts⟩ (m_next l D cB cI cJ cZ cN cF H.size h0 ma sv_thrown sv_length sv_nodes sv_many sv_directories sv_runsFrom sv_runs sv_read sv_wrong sv_isNamed sv_goes sv_goesSize sv_goesAt sv_targetParts sv_isRoot fK fP fN fNS fBa fBs fEx fEs 0 v3 nk (by (try dsimp only); first | assumption | omega | trivial) (by (try dsimp only); first | assumption | omega | trivial) (by (try dsimp only); first | assumption | omega | trivial) (by (try dsimp only); first | assumption | omega | trivial) (by (try dsimp only); first | assumption | omega | trivial) (by (try dsimp only); first | assumption | omega | trivial) (by (try dsimp only); first | assumption | omega | trivial) (by (try dsimp only); first | assumption | omega | trivial)) (cwV 3 hts (lg_goodV k1675 k1677 k66 k125 kc_DiscMakerModel_next) rfl rfl rfl (by decide +kernel) ⟨Nat.le_of_ble_eq_true rfl, Nat.le_of_ble_eq_true rfl⟩) ⟨fun a U g mk q => by obtain ⟨q0, q1, qP, qK, qN, qD⟩ := q; exact ⟨q0, q1, qP, va_K.moved (u := U) (U := U.calling g mk a) (Vm.Alike.refl U.vm) qK, qN.calling, qD⟩, va_recv hK hP (ci := 11) (q0 := 1) rfl rfl, fun U hU hW => ⟨rfl, by rw [hU], by rw [hU]; exact hPc, va_K.moved hW.alike hK, NN.warm hW hN, hDc.weaken (fun _ _ _ _ => trivial)⟩⟩ rfl rfl hl.1 rfl (lv_room (Nat.le_of_ble_eq_true rfl)) d_DiscMakerModel_tables_82 ⟨hkc, hks⟩) hS (fun q _ h => hFc q h) hFc (fun r13 u t H1 locs ht hvm hp_r13 hB hz1 hk1 hS => ?_)
            obtain ⟨hP1, hD1⟩ := hB
            rw [ht] at hP1
            obtain ⟨hP, hD⟩ := va_join (wr := [((ma 17), .inl (cI, 24, .inl nTb))]) (w1 := [(h0, .inr (11, MO ma sv_thrown sv_length sv_nodes sv_many sv_directories sv_runsFrom sv_runs sv_read sv_wrong sv_isNamed sv_goes sv_goesSize sv_goesAt sv_targetParts sv_isRoot)), ((ma 1), .inl (cI, 40, .inl fK)), ((ma 2), .inl (cI, 40, .inl fP)), ((ma 8), .inl (cB, 1200, .inl fN)), ((ma 9), .inl (cI, 40, .inl fNS)), ((ma 12), .inl (cB, 320, .inl fBa)), ((ma 13), .inl (cI, 40, .inl fBs)), ((ma 14), .inl (cB, 120, .inl fEx)), ((ma 15), .inl (cI, 40, .inl fEs))]) hP hD [1, 2, 3, 4, 5, 6, 7, 8, 9] [0] rfl rfl (by decide +kernel) (by decide +kernel) hk1 hFc hP1 hD1
            clear hPc hDc hFc hP1 hD1 hk1 hz1 hkc hks
            generalize H1 = H at hP hS ⊢
            have hP : va_P D CL [((ma 17), .inl (cI, 24, .inl nTb)), (h0, .inr (11, MO ma sv_thrown sv_length sv_nodes sv_many sv_directories sv_runsFrom sv_runs sv_read sv_wrong sv_isNamed sv_goes sv_goesSize sv_goesAt sv_targetParts sv_isRoot)), ((ma 1), .inl (cI, 40, .inl fK)), ((ma 2), .inl (cI, 40, .inl fP)), ((ma 8), .inl (cB, 1200, .inl fN)), ((ma 9), .inl (cI, 40, .inl fNS)), ((ma 12), .inl (cB, 320, .inl fBa)), ((ma 13), .inl (cI, 40, .inl fBs)), ((ma 14), .inl (cB, 120, .inl fEx)), ((ma 15), .inl (cI, 40, .inl fEs))] H := hP
            have hD : va_D A [((ma 17), .inl (cI, 24, .inl nTb)), (h0, .inr (11, MO ma sv_thrown sv_length sv_nodes sv_many sv_directories sv_runsFrom sv_runs sv_read sv_wrong sv_isNamed sv_goes sv_goesSize sv_goesAt sv_targetParts sv_isRoot)), ((ma 1), .inl (cI, 40, .inl fK)), ((ma 2), .inl (cI, 40, .inl fP)), ((ma 8), .inl (cB, 1200, .inl fN)), ((ma 9), .inl (cI, 40, .inl fNS)), ((ma 12), .inl (cB, 320, .inl fBa)), ((ma 13), .inl (cI, 40, .inl fBs)), ((ma 14), .inl (cB, 120, .inl fEx)), ((ma 15), .inl (cI, 40, .inl fEs))] := hD
            try dsimp only at hp_r13
            have hnx_14 := hp_r13
            try rw [L_0] at hnx_14
            refine lv_istore hx hb d_DiscMakerModel_tables_85 hl (by decide) rfl (fun ls hl => ?_)
            have hl : lv_has ls 6 [(5, .int r13), (0, .ref h0), (1, .int 0), (2, .int nn), (3, .int li), (4, .int v3)] := hl
            refine lv_goto (tgt := 42) hx hb d_DiscMakerModel_tables_87 (by decide) ?_
            have hP := hP.sub (ws' := [((ma 17), .inl (cI, 24, .inl nTb)), (h0, .inr (11, MO ma sv_thrown sv_length sv_nodes sv_many sv_directories sv_runsFrom sv_runs sv_read sv_wrong sv_isNamed sv_goes sv_goesSize sv_goesAt sv_targetParts sv_isRoot)), ((ma 1), .inl (cI, 40, .inl fK)), ((ma 2), .inl (cI, 40, .inl fP)), ((ma 8), .inl (cB, 1200, .inl fN)), ((ma 9), .inl (cI, 40, .inl fNS)), ((ma 12), .inl (cB, 320, .inl fBa)), ((ma 13), .inl (cI, 40, .inl fBs)), ((ma 14), .inl (cB, 120, .inl fEx)), ((ma 15), .inl (cI, 40, .inl fEs))]) [0, 1, 2, 3, 4, 5, 6, 7, 8, 9] rfl
            have hD := hD.sub (ws' := [((ma 17), .inl (cI, 24, .inl nTb)), (h0, .inr (11, MO ma sv_thrown sv_length sv_nodes sv_many sv_directories sv_runsFrom sv_runs sv_read sv_wrong sv_isNamed sv_goes sv_goesSize sv_goesAt sv_targetParts sv_isRoot)), ((ma 1), .inl (cI, 40, .inl fK)), ((ma 2), .inl (cI, 40, .inl fP)), ((ma 8), .inl (cB, 1200, .inl fN)), ((ma 9), .inl (cI, 40, .inl fNS)), ((ma 12), .inl (cB, 320, .inl fBa)), ((ma 13), .inl (cI, 40, .inl fBs)), ((ma 14), .inl (cB, 120, .inl fEx)), ((ma 15), .inl (cI, 40, .inl fEs))]) [0, 1, 2, 3, 4, 5, 6, 7, 8, 9] (by decide +kernel) rfl
            have hl := lv_sub hl [1, 2, 3, 4, 5, 0] rfl
            exact ih42 _ (by rw [hm42, if_neg (show ¬ nk.toInt < 0 by omega)]; split <;> first | omega | (have := next_rest hnx_14 (by omega); omega)) nn r13 nTb _ _ _ rfl ((by (try dsimp only); first | assumption | omega | trivial)) ((by have h5 := next_par hnx_14; rw [show r13.toInt.toNat = r13.toNatClampNeg from rfl] at h5; omega)) ((TBi.skip g3 hnx_14 hU g6.symm (by omega) (by intro h9; rw [show nk.toInt.toNat = nk.toNatClampNeg from rfl, ← e_v7] at h9; omega))) (g4) (g6) hP hD hS hl
      · skip
        intro kk42
        have hP := hP.sub (ws' := [((ma 17), .inl (cI, 24, .inl lTb)), (h0, .inr (11, MO ma sv_thrown sv_length sv_nodes sv_many sv_directories sv_runsFrom sv_runs sv_read sv_wrong sv_isNamed sv_goes sv_goesSize sv_goesAt sv_targetParts sv_isRoot)), ((ma 1), .inl (cI, 40, .inl fK)), ((ma 2), .inl (cI, 40, .inl fP)), ((ma 8), .inl (cB, 1200, .inl fN)), ((ma 9), .inl (cI, 40, .inl fNS)), ((ma 12), .inl (cB, 320, .inl fBa)), ((ma 13), .inl (cI, 40, .inl fBs)), ((ma 14), .inl (cB, 120, .inl fEx)), ((ma 15), .inl (cI, 40, .inl fEs))]) [0, 1, 2, 3, 4, 5, 6, 7, 8, 9] rfl
        have hD := hD.sub (ws' := [((ma 17), .inl (cI, 24, .inl lTb)), (h0, .inr (11, MO ma sv_thrown sv_length sv_nodes sv_many sv_directories sv_runsFrom sv_runs sv_read sv_wrong sv_isNamed sv_goes sv_goesSize sv_goesAt sv_targetParts sv_isRoot)), ((ma 1), .inl (cI, 40, .inl fK)), ((ma 2), .inl (cI, 40, .inl fP)), ((ma 8), .inl (cB, 1200, .inl fN)), ((ma 9), .inl (cI, 40, .inl fNS)), ((ma 12), .inl (cB, 320, .inl fBa)), ((ma 13), .inl (cI, 40, .inl fBs)), ((ma 14), .inl (cB, 120, .inl fEx)), ((ma 15), .inl (cI, 40, .inl fEs))]) [0, 1, 2, 3, 4, 5, 6, 7, 8, 9] (by decide +kernel) rfl
        have hl := lv_sub hl [2, 3, 4, 5, 1, 0] rfl
        exact kk42 _ ln r4 lTb _ _ _ rfl ((by (try dsimp only); first | assumption | omega | trivial)) ((by have h5 := next_par hnx_5; rw [show r4.toInt.toNat = r4.toNatClampNeg from rfl] at h5; omega)) ((TBi.first y2 hnx_5 hU qtv3.symm)) (y3) (qtv3) hP hD hS hl
  · skip
    intro kk14
    have hP := hP.sub (ws' := [(h0, .inr (11, MO ma sv_thrown sv_length sv_nodes sv_many sv_directories sv_runsFrom sv_runs sv_read sv_wrong sv_isNamed sv_goes sv_goesSize sv_goesAt sv_targetParts sv_isRoot)), ((ma 1), .inl (cI, 40, .inl fK)), ((ma 2), .inl (cI, 40, .inl fP)), ((ma 8), .inl (cB, 1200, .inl fN)), ((ma 9), .inl (cI, 40, .inl fNS)), ((ma 12), .inl (cB, 320, .inl fBa)), ((ma 13), .inl (cI, 40, .inl fBs)), ((ma 14), .inl (cB, 120, .inl fEx)), ((ma 15), .inl (cI, 40, .inl fEs)), ((ma 17), .inl (cI, 24, .inl f1))]) [0, 1, 2, 3, 4, 5, 6, 7, 8, 9] rfl
    have hD := hD.sub (ws' := [(h0, .inr (11, MO ma sv_thrown sv_length sv_nodes sv_many sv_directories sv_runsFrom sv_runs sv_read sv_wrong sv_isNamed sv_goes sv_goesSize sv_goesAt sv_targetParts sv_isRoot)), ((ma 1), .inl (cI, 40, .inl fK)), ((ma 2), .inl (cI, 40, .inl fP)), ((ma 8), .inl (cB, 1200, .inl fN)), ((ma 9), .inl (cI, 40, .inl fNS)), ((ma 12), .inl (cB, 320, .inl fBa)), ((ma 13), .inl (cI, 40, .inl fBs)), ((ma 14), .inl (cB, 120, .inl fEx)), ((ma 15), .inl (cI, 40, .inl fEs)), ((ma 17), .inl (cI, 24, .inl f1))]) [0, 1, 2, 3, 4, 5, 6, 7, 8, 9] (by decide +kernel) rfl
    have hl := lv_sub hl [2, 3, 1, 0] rfl
    exact kk14 _ 1 0 f1 _ _ _ rfl ((by (try dsimp only); first | assumption | omega | trivial)) ((TBi_0 (by decide) (by decide) (by rw [e_f1, show ((0 : Int32)).toNatClampNeg = 12 * 0 from by decide]; unfold upd; rw [if_pos rfl]; decide) hT.k0 (by omega))) ((fun q hq => by rw [e_f1]; unfold upd; rw [if_neg (by rw [show ((0 : Int32)).toNatClampNeg = 12 * 0 from by decide]; omega)])) hP hD hS hl

set_option maxHeartbeats 4000000 in
set_option maxRecDepth 100000 in
theorem m_tables1 (l : Launch) (D : va_G) (cB cI cJ cZ cN cF : ClassId) (sz : Nat) (h0 : Nat) (ma : Nat → Nat) (sv_thrown sv_length sv_nodes sv_many sv_directories sv_runsFrom sv_runs sv_read sv_wrong sv_isNamed sv_goes sv_goesSize sv_goesAt sv_targetParts sv_isRoot : Int32) (fK : Nat → Int32) (fP : Nat → Int32) (fN : Nat → Int32) (fNS : Nat → Int32) (fBa : Nat → Int32) (fBs : Nat → Int32) (fEx : Nat → Int32) (fEs : Nat → Int32) (fTb : Nat → Int32) (fSz : Nat → Int32) (fTS : Nat → Int32) (hT : TI sv_nodes.toInt fK fP fNS fSz fTS) (hU : UN (KF 1 fN fNS fBa fBs fEx fEs) (NL 1) fP sv_nodes.toInt) (hNS : Rg 0 30 40 fNS) (hBa : Rg (-128) 127 320 fBa) (hBs : Rg 0 8 40 fBs) (hEx : Rg (-128) 127 120 fEx) (hEs : Rg 0 3 40 fEs) : Met l y_DiscMakerModel_tables w_DiscMakerModel_tables ({ frames := 4, cells := 0, slots := 0, locals := 97 }) (va_Pc [.ref h0, .int 1] (fun U => U.heap.size = sz ∧ va_P D CL [(h0, .inr (11, MO ma sv_thrown sv_length sv_nodes sv_many sv_directories sv_runsFrom sv_runs sv_read sv_wrong sv_isNamed sv_goes sv_goesSize sv_goesAt sv_targetParts sv_isRoot)), ((ma 1), .inl (cI, 40, .inl fK)), ((ma 2), .inl (cI, 40, .inl fP)), ((ma 8), .inl (cB, 1200, .inl fN)), ((ma 9), .inl (cI, 40, .inl fNS)), ((ma 12), .inl (cB, 320, .inl fBa)), ((ma 13), .inl (cI, 40, .inl fBs)), ((ma 14), .inl (cB, 120, .inl fEx)), ((ma 15), .inl (cI, 40, .inl fEs)), ((ma 17), .inl (cI, 24, .inl fTb))] U.heap ∧ va_K D CL (TY cB cI cJ cZ cN cF) U ∧ NN U ∧ va_D (fun _ => True) [(h0, .inr (11, MO ma sv_thrown sv_length sv_nodes sv_many sv_directories sv_runsFrom sv_runs sv_read sv_wrong sv_isNamed sv_goes sv_goesSize sv_goesAt sv_targetParts sv_isRoot)), ((ma 1), .inl (cI, 40, .inl fK)), ((ma 2), .inl (cI, 40, .inl fP)), ((ma 8), .inl (cB, 1200, .inl fN)), ((ma 9), .inl (cI, 40, .inl fNS)), ((ma 12), .inl (cB, 320, .inl fBa)), ((ma 13), .inl (cI, 40, .inl fBs)), ((ma 14), .inl (cB, 120, .inl fEx)), ((ma 15), .inl (cI, 40, .inl fEs)), ((ma 17), .inl (cI, 24, .inl fTb))])) (va_Qv (fun (u : Int32 × (Nat → Int32)) => match u with | (dr, gTb) => (1 ≤ dr.toInt ∧ dr.toInt ≤ 12) ∧ (TBi 1 sv_nodes.toInt fK fP gTb dr.toNatClampNeg dr.toNatClampNeg (fun _ => False) (fun _ => True)) ∧ (∀ q : Nat, q < 12 * 1 ∨ 12 * 1 + 12 ≤ q → gTb q = fTb q)) (fun (u : Int32 × (Nat → Int32)) (t : State) => match u with | (dr, gTb) => va_P D CL [(h0, .inr (11, MO ma sv_thrown sv_length sv_nodes sv_many dr sv_runsFrom sv_runs sv_read sv_wrong sv_isNamed sv_goes sv_goesSize sv_goesAt sv_targetParts sv_isRoot)), ((ma 1), .inl (cI, 40, .inl fK)), ((ma 2), .inl (cI, 40, .inl fP)), ((ma 8), .inl (cB, 1200, .inl fN)), ((ma 9), .inl (cI, 40, .inl fNS)), ((ma 12), .inl (cB, 320, .inl fBa)), ((ma 13), .inl (cI, 40, .inl fBs)), ((ma 14), .inl (cB, 120, .inl fEx)), ((ma 15), .inl (cI, 40, .inl fEs)), ((ma 17), .inl (cI, 24, .inl gTb))] t.heap ∧ va_D (va_A [(h0, .inr (11, MO ma sv_thrown sv_length sv_nodes sv_many sv_directories sv_runsFrom sv_runs sv_read sv_wrong sv_isNamed sv_goes sv_goesSize sv_goesAt sv_targetParts sv_isRoot)), ((ma 1), .inl (cI, 40, .inl fK)), ((ma 2), .inl (cI, 40, .inl fP)), ((ma 8), .inl (cB, 1200, .inl fN)), ((ma 9), .inl (cI, 40, .inl fNS)), ((ma 12), .inl (cB, 320, .inl fBa)), ((ma 13), .inl (cI, 40, .inl fBs)), ((ma 14), .inl (cB, 120, .inl fEx)), ((ma 15), .inl (cI, 40, .inl fEs)), ((ma 17), .inl (cI, 24, .inl fTb))] sz) [(h0, .inr (11, MO ma sv_thrown sv_length sv_nodes sv_many dr sv_runsFrom sv_runs sv_read sv_wrong sv_isNamed sv_goes sv_goesSize sv_goesAt sv_targetParts sv_isRoot)), ((ma 1), .inl (cI, 40, .inl fK)), ((ma 2), .inl (cI, 40, .inl fP)), ((ma 8), .inl (cB, 1200, .inl fN)), ((ma 9), .inl (cI, 40, .inl fNS)), ((ma 12), .inl (cB, 320, .inl fBa)), ((ma 13), .inl (cI, 40, .inl fBs)), ((ma 14), .inl (cB, 120, .inl fEx)), ((ma 15), .inl (cI, 40, .inl fEs)), ((ma 17), .inl (cI, 24, .inl gTb))]) (va_A [(h0, .inr (11, MO ma sv_thrown sv_length sv_nodes sv_many sv_directories sv_runsFrom sv_runs sv_read sv_wrong sv_isNamed sv_goes sv_goesSize sv_goesAt sv_targetParts sv_isRoot)), ((ma 1), .inl (cI, 40, .inl fK)), ((ma 2), .inl (cI, 40, .inl fP)), ((ma 8), .inl (cB, 1200, .inl fN)), ((ma 9), .inl (cI, 40, .inl fNS)), ((ma 12), .inl (cB, 320, .inl fBa)), ((ma 13), .inl (cI, 40, .inl fBs)), ((ma 14), .inl (cB, 120, .inl fEx)), ((ma 15), .inl (cI, 40, .inl fEs)), ((ma 17), .inl (cI, 24, .inl fTb))] sz)) 0 0 (va_A [(h0, .inr (11, MO ma sv_thrown sv_length sv_nodes sv_many sv_directories sv_runsFrom sv_runs sv_read sv_wrong sv_isNamed sv_goes sv_goesSize sv_goesAt sv_targetParts sv_isRoot)), ((ma 1), .inl (cI, 40, .inl fK)), ((ma 2), .inl (cI, 40, .inl fP)), ((ma 8), .inl (cB, 1200, .inl fN)), ((ma 9), .inl (cI, 40, .inl fNS)), ((ma 12), .inl (cB, 320, .inl fBa)), ((ma 13), .inl (cI, 40, .inl fBs)), ((ma 14), .inl (cB, 120, .inl fEx)), ((ma 15), .inl (cI, 40, .inl fEs)), ((ma 17), .inl (cI, 24, .inl fTb))] sz) := by
  refine Met.ofW (cc := b_DiscMakerModel_tables) (maxL := 6) (ret := none) (by decide) rfl ?_
  intro p e s m args below meth c s₁ B hml hv
  obtain ⟨rfl, hsz, hP, hK, hN, hD0⟩ := hv
  have hx := B.exec
  have hb := B.bytes
  have hr := B.returns
  have hts := atoms_spec (ws := w_DiscMakerModel_tables) B.pre
  have ht9 := fun (w : Cond) (h : w ∈ lw_g) => hts w (List.mem_cons_of_mem _ h)
  have hown : s.vm.findClass "DiscMakerModel" = some m.cls := findClass_of_methodNamed B.named
  have hlocks := B.notSynchronized
  subst hsz
  have hD := hD0.self (sz := s.heap.size)
  generalize hAe : va_A [(h0, .inr (11, MO ma sv_thrown sv_length sv_nodes sv_many sv_directories sv_runsFrom sv_runs sv_read sv_wrong sv_isNamed sv_goes sv_goesSize sv_goesAt sv_targetParts sv_isRoot)), ((ma 1), .inl (cI, 40, .inl fK)), ((ma 2), .inl (cI, 40, .inl fP)), ((ma 8), .inl (cB, 1200, .inl fN)), ((ma 9), .inl (cI, 40, .inl fNS)), ((ma 12), .inl (cB, 320, .inl fBa)), ((ma 13), .inl (cI, 40, .inl fBs)), ((ma 14), .inl (cB, 120, .inl fEx)), ((ma 15), .inl (cI, 40, .inl fEs)), ((ma 17), .inl (cI, 24, .inl fTb))] s.heap.size = A at hD ⊢
  have hA : ∀ q : Nat, s.heap.size ≤ q → A q := fun q h => by rw [← hAe]; exact Or.inr h
  have hS : va_S A s.heap s.heap [] := va_S.rf
  have hP : va_P D CL [(h0, .inr (11, MO ma sv_thrown sv_length sv_nodes sv_many sv_directories sv_runsFrom sv_runs sv_read sv_wrong sv_isNamed sv_goes sv_goesSize sv_goesAt sv_targetParts sv_isRoot)), ((ma 1), .inl (cI, 40, .inl fK)), ((ma 2), .inl (cI, 40, .inl fP)), ((ma 8), .inl (cB, 1200, .inl fN)), ((ma 9), .inl (cI, 40, .inl fNS)), ((ma 12), .inl (cB, 320, .inl fBa)), ((ma 13), .inl (cI, 40, .inl fBs)), ((ma 14), .inl (cB, 120, .inl fEx)), ((ma 15), .inl (cI, 40, .inl fEs)), ((ma 17), .inl (cI, 24, .inl fTb))] s.heap := hP
  have hl := lv_entry [.ref h0, .int 1] (n := 6) (Nat.le_of_ble_eq_true rfl)
  rw [lg_entry_eq]
  generalize (lg_sl [.ref h0, .int 1] ++ List.replicate (6 - (lg_sl [.ref h0, .int 1]).length) Slot.unset).toArray = ls at hl ⊢
  have hl : lv_has ls 6 [(0, .ref h0), (1, .int 1)] := hl
  have L_m1 : ((-1) : Int32).toInt = (-1) := by decide
  have L_0 : (0 : Int32).toInt = 0 := by decide
  have L_1 : (1 : Int32).toInt = 1 := by decide
  have L_12 : (12 : Int32).toInt = 12 := by decide
  have hn := hT.n1
  have hKi : Rg 0 2 40 fK := hT.kk
  refine lv_iconst (v := 1) hx hb d_DiscMakerModel_tables_0 (by decide) ?_
  refine lv_istore_n hx hb d_DiscMakerModel_tables_1 rfl hl (by decide) rfl (fun ls hl => ?_)
  have hl : lv_has ls 6 [(2, .int 1), (0, .ref h0), (1, .int 1)] := hl
  refine lv_aload_n hx hb d_DiscMakerModel_tables_2 rfl (lv_at hl 1 rfl) ?_
  refine va_get (D := D) (ci := 11) (v := .ref (ma 17)) (C := "DiscMakerModel") (T := F_DiscMakerModel) (N := 48) hx hb ht9 in_DiscMakerModel hown hK hP 0 rfl rfl 21 (by decide) (ht9 _ k1452) (fun _ h9 => h9) rfl d_DiscMakerModel_tables_3 ?_
  refine lv_bipush (v := 12) hx hb d_DiscMakerModel_tables_6 (by decide) ?_
  refine lv_iload_n hx hb d_DiscMakerModel_tables_8 rfl (lv_at hl 2 rfl) ?_
  refine lv_imul hx hb d_DiscMakerModel_tables_9 ?_
  refine W.eq (g2 := F0 m 10 ls [.int 12, .ref (ma 17)]) (by rw [show ((12 : Int32) * 1) = 12 from by decide]) ?_
  refine lv_iconst (v := 0) hx hb d_DiscMakerModel_tables_10 (by decide) ?_
  refine zq_iast hx hb hK hP hD hS 9 1 rfl rfl (by unfold vp_in; decide) d_DiscMakerModel_tables_11 (fun f1 e_f1 H locs hP hD hS => ?_)
  have hP : va_P D CL [(h0, .inr (11, MO ma sv_thrown sv_length sv_nodes sv_many sv_directories sv_runsFrom sv_runs sv_read sv_wrong sv_isNamed sv_goes sv_goesSize sv_goesAt sv_targetParts sv_isRoot)), ((ma 1), .inl (cI, 40, .inl fK)), ((ma 2), .inl (cI, 40, .inl fP)), ((ma 8), .inl (cB, 1200, .inl fN)), ((ma 9), .inl (cI, 40, .inl fNS)), ((ma 12), .inl (cB, 320, .inl fBa)), ((ma 13), .inl (cI, 40, .inl fBs)), ((ma 14), .inl (cB, 120, .inl fEx)), ((ma 15), .inl (cI, 40, .inl fEs)), ((ma 17), .inl (cI, 24, .inl f1))] H := hP
  have hD : va_D A [(h0, .inr (11, MO ma sv_thrown sv_length sv_nodes sv_many sv_directories sv_runsFrom sv_runs sv_read sv_wrong sv_isNamed sv_goes sv_goesSize sv_goesAt sv_targetParts sv_isRoot)), ((ma 1), .inl (cI, 40, .inl fK)), ((ma 2), .inl (cI, 40, .inl fP)), ((ma 8), .inl (cB, 1200, .inl fN)), ((ma 9), .inl (cI, 40, .inl fNS)), ((ma 12), .inl (cB, 320, .inl fBa)), ((ma 13), .inl (cI, 40, .inl fBs)), ((ma 14), .inl (cB, 120, .inl fEx)), ((ma 15), .inl (cI, 40, .inl fEs)), ((ma 17), .inl (cI, 24, .inl f1))] := hD
  have s_f1 : f1 12 = 0 := by rw [e_f1]; unfold upd; rw [if_pos (by first | rfl | decide)]
  refine lv_iconst (v := 0) hx hb d_DiscMakerModel_tables_12 (by decide) ?_
  refine lv_istore_n hx hb d_DiscMakerModel_tables_13 rfl hl (by decide) rfl (fun ls hl => ?_)
  have hl : lv_has ls 6 [(3, .int 0), (2, .int 1), (0, .ref h0), (1, .int 1)] := hl
  refine zz_labM (B := fun (lk : Nat) (K : Heap → List Loc → Array Slot → List Value → Prop) => ∀ (ln : Int32) (li : Int32) (lTb : Nat → Int32) (H : Heap) (locs : List Loc) (ls : Array Slot), lk = (12 - li.toInt).toNat → (0 ≤ li.toInt ∧ li.toInt ≤ ln.toInt ∧ 1 ≤ ln.toInt ∧ ln.toInt ≤ 12) → (TBi 1 sv_nodes.toInt fK fP lTb ln.toNatClampNeg li.toNatClampNeg (fun _ => False) (fun _ => True)) → (∀ q : Nat, q < 12 * 1 ∨ 12 * 1 + 12 ≤ q → lTb q = fTb q) → va_P D CL [(h0, .inr (11, MO ma sv_thrown sv_length sv_nodes sv_many sv_directories sv_runsFrom sv_runs sv_read sv_wrong sv_isNamed sv_goes sv_goesSize sv_goesAt sv_targetParts sv_isRoot)), ((ma 1), .inl (cI, 40, .inl fK)), ((ma 2), .inl (cI, 40, .inl fP)), ((ma 8), .inl (cB, 1200, .inl fN)), ((ma 9), .inl (cI, 40, .inl fNS)), ((ma 12), .inl (cB, 320, .inl fBa)), ((ma 13), .inl (cI, 40, .inl fBs)), ((ma 14), .inl (cB, 120, .inl fEx)), ((ma 15), .inl (cI, 40, .inl fEs)), ((ma 17), .inl (cI, 24, .inl lTb))] H → va_D A [(h0, .inr (11, MO ma sv_thrown sv_length sv_nodes sv_many sv_directories sv_runsFrom sv_runs sv_read sv_wrong sv_isNamed sv_goes sv_goesSize sv_goesAt sv_targetParts sv_isRoot)), ((ma 1), .inl (cI, 40, .inl fK)), ((ma 2), .inl (cI, 40, .inl fP)), ((ma 8), .inl (cB, 1200, .inl fN)), ((ma 9), .inl (cI, 40, .inl fNS)), ((ma 12), .inl (cB, 320, .inl fBa)), ((ma 13), .inl (cI, 40, .inl fBs)), ((ma 14), .inl (cB, 120, .inl fEx)), ((ma 15), .inl (cI, 40, .inl fEs)), ((ma 17), .inl (cI, 24, .inl lTb))] → va_S A s.heap H locs → lv_has ls 6 [(0, .ref h0), (1, .int 1), (2, .int ln), (3, .int li)] → K H locs ls []) 14 ?_ ?_
  · skip
    intro lk ih14 ln li lTb H locs ls hm14 y1 y2 y3 hP hD hS hl
    have hlic := i_cl (a := li) (by omega)
    refine lv_iload_n hx hb d_DiscMakerModel_tables_14 rfl (lv_at hl 3 rfl) ?_
    refine lv_iload_n hx hb d_DiscMakerModel_tables_15 rfl (lv_at hl 2 rfl) ?_
    refine lv_icmp_ge (tgt := 96) hx hb d_DiscMakerModel_tables_16 (by decide) (fun h_9 => ?_) (fun h_9 => ?_)
    · skip
      have g16_14 : ln.toInt ≤ li.toInt := (i_le rfl rfl).mp h_9
      refine lv_aload_n hx hb d_DiscMakerModel_tables_96 rfl (lv_at hl 0 rfl) ?_
      refine lv_iload_n hx hb d_DiscMakerModel_tables_97 rfl (lv_at hl 2 rfl) ?_
      refine va_put (D := D) (ci := 11) (v := .int ln) (ty := .int) (C := "DiscMakerModel") (T := F_DiscMakerModel) (N := 48) hx hb ht9 in_DiscMakerModel t_DiscMakerModel t_DiscMakerModel_ok n_DiscMakerModel hown hK hP hD hS 0 rfl rfl 25 (by decide) (ht9 _ k1456) (fun _ h9 => h9) rfl (by decide +kernel) rfl rfl (Nat.le_of_ble_eq_true rfl) d_DiscMakerModel_tables_98 (fun H locs hP hD hS => ?_)
      have hP : va_P D CL [(h0, .inr (11, MO ma sv_thrown sv_length sv_nodes sv_many ln sv_runsFrom sv_runs sv_read sv_wrong sv_isNamed sv_goes sv_goesSize sv_goesAt sv_targetParts sv_isRoot)), ((ma 1), .inl (cI, 40, .inl fK)), ((ma 2), .inl (cI, 40, .inl fP)), ((ma 8), .inl (cB, 1200, .inl fN)), ((ma 9), .inl (cI, 40, .inl fNS)), ((ma 12), .inl (cB, 320, .inl fBa)), ((ma 13), .inl (cI, 40, .inl fBs)), ((ma 14), .inl (cB, 120, .inl fEx)), ((ma 15), .inl (cI, 40, .inl fEs)), ((ma 17), .inl (cI, 24, .inl lTb))] H := hP
      have hD : va_D A [(h0, .inr (11, MO ma sv_thrown sv_length sv_nodes sv_many ln sv_runsFrom sv_runs sv_read sv_wrong sv_isNamed sv_goes sv_goesSize sv_goesAt sv_targetParts sv_isRoot)), ((ma 1), .inl (cI, 40, .inl fK)), ((ma 2), .inl (cI, 40, .inl fP)), ((ma 8), .inl (cB, 1200, .inl fN)), ((ma 9), .inl (cI, 40, .inl fNS)), ((ma 12), .inl (cB, 320, .inl fBa)), ((ma 13), .inl (cI, 40, .inl fBs)), ((ma 14), .inl (cB, 120, .inl fEx)), ((ma 15), .inl (cI, 40, .inl fEs)), ((ma 17), .inl (cI, 24, .inl lTb))] := hD
      have hP9 := hP.sub (ws' := [(h0, .inr (11, MO ma sv_thrown sv_length sv_nodes sv_many ln sv_runsFrom sv_runs sv_read sv_wrong sv_isNamed sv_goes sv_goesSize sv_goesAt sv_targetParts sv_isRoot)), ((ma 1), .inl (cI, 40, .inl fK)), ((ma 2), .inl (cI, 40, .inl fP)), ((ma 8), .inl (cB, 1200, .inl fN)), ((ma 9), .inl (cI, 40, .inl fNS)), ((ma 12), .inl (cB, 320, .inl fBa)), ((ma 13), .inl (cI, 40, .inl fBs)), ((ma 14), .inl (cB, 120, .inl fEx)), ((ma 15), .inl (cI, 40, .inl fEs)), ((ma 17), .inl (cI, 24, .inl lTb))]) [0, 1, 2, 3, 4, 5, 6, 7, 8, 9] rfl
      have hD9 := hD.sub (ws' := [(h0, .inr (11, MO ma sv_thrown sv_length sv_nodes sv_many ln sv_runsFrom sv_runs sv_read sv_wrong sv_isNamed sv_goes sv_goesSize sv_goesAt sv_targetParts sv_isRoot)), ((ma 1), .inl (cI, 40, .inl fK)), ((ma 2), .inl (cI, 40, .inl fP)), ((ma 8), .inl (cB, 1200, .inl fN)), ((ma 9), .inl (cI, 40, .inl fNS)), ((ma 12), .inl (cB, 320, .inl fBa)), ((ma 13), .inl (cI, 40, .inl fBs)), ((ma 14), .inl (cB, 120, .inl fEx)), ((ma 15), .inl (cI, 40, .inl fEs)), ((ma 17), .inl (cI, 24, .inl lTb))]) [0, 1, 2, 3, 4, 5, 6, 7, 8, 9] (by decide +kernel) rfl
      have hli : li = ln := Int32.toInt_inj.mp (by omega)
      have f2z := y2
      rw [hli] at f2z
      exact W.vret hx hb hr (fun t ht hW => ⟨⟨(ln, lTb), rfl, ⟨(by (try dsimp only); first | assumption | omega | trivial), f2z, y3⟩, by rw [ht]; exact hP9, hD9⟩, hS.F ht⟩) hS.2.2 d_DiscMakerModel_tables_101
    · skip
      have g16_14 : ¬ ln.toInt ≤ li.toInt := fun h8 => h_9 ((i_le rfl rfl).mpr h8)
      refine lv_aload_n hx hb d_DiscMakerModel_tables_19 rfl (lv_at hl 0 rfl) ?_
      refine va_get (D := D) (ci := 11) (v := .ref (ma 17)) (C := "DiscMakerModel") (T := F_DiscMakerModel) (N := 48) hx hb ht9 in_DiscMakerModel hown hK hP 0 rfl rfl 21 (by decide) (ht9 _ k1452) (fun _ h9 => h9) rfl d_DiscMakerModel_tables_20 ?_
      refine lv_bipush (v := 12) hx hb d_DiscMakerModel_tables_23 (by decide) ?_
      refine lv_iload_n hx hb d_DiscMakerModel_tables_25 rfl (lv_at hl 1 rfl) ?_
      refine lv_imul hx hb d_DiscMakerModel_tables_26 ?_
      refine W.eq (g2 := F0 m 27 ls [.int 12, .ref (ma 17)]) (by rw [show ((12 : Int32) * 1) = 12 from by decide]) ?_
      refine lv_iload_n hx hb d_DiscMakerModel_tables_27 rfl (lv_at hl 3 rfl) ?_
      refine lv_iadd hx hb d_DiscMakerModel_tables_28 ?_
      refine lv_topi (fun v2 e_v2 => ?_)
      have t_v2 : v2.toInt = 12 + li.toInt := by rw [e_v2]; exact i_add (by decide) rfl (by omega) (by omega)
      refine va_iald hx hb hK hP 9 1 rfl rfl (vp_in_iff.mpr ⟨by omega, by omega⟩) d_DiscMakerModel_tables_29 ?_
      refine lv_topi (fun v3 e_v3 => ?_)
      have c_v3 := i_cl (a := v2) (by omega)
      have e2_v3 : v3 = lTb (12 * 1 + li.toNatClampNeg) := by rw [e_v3, show v2.toNatClampNeg = 12 * 1 + li.toNatClampNeg by omega]
      have qtv3 : tbv lTb 1 li.toNatClampNeg = v3.toInt := by unfold tbv; rw [e2_v3]
      have qrv3 := y2.rg li.toNatClampNeg (by have := i_cl (a := ln) (by omega); omega)
      refine lv_istore hx hb d_DiscMakerModel_tables_30 hl (by decide) rfl (fun ls hl => ?_)
      have hl : lv_has ls 6 [(4, .int v3), (0, .ref h0), (1, .int 1), (2, .int ln), (3, .int li)] := hl
      refine lv_aload_n hx hb d_DiscMakerModel_tables_32 rfl (lv_at hl 1 rfl) ?_
      refine lv_iload_n hx hb d_DiscMakerModel_tables_33 rfl (lv_at hl 2 rfl) ?_
      refine lv_iload hx hb d_DiscMakerModel_tables_34 (lv_at hl 0 rfl) ?_
      refine lv_iconst (v := (-1)) hx hb d_DiscMakerModel_tables_36 (by decide) ?_
      have hPc := hP.sub (ws' := [(h0, .inr (11, MO ma sv_thrown sv_length sv_nodes sv_many sv_directories sv_runsFrom sv_runs sv_read sv_wrong sv_isNamed sv_goes sv_goesSize sv_goesAt sv_targetParts sv_isRoot)), ((ma 1), .inl (cI, 40, .inl fK)), ((ma 2), .inl (cI, 40, .inl fP)), ((ma 8), .inl (cB, 1200, .inl fN)), ((ma 9), .inl (cI, 40, .inl fNS)), ((ma 12), .inl (cB, 320, .inl fBa)), ((ma 13), .inl (cI, 40, .inl fBs)), ((ma 14), .inl (cB, 120, .inl fEx)), ((ma 15), .inl (cI, 40, .inl fEs))]) [0, 1, 2, 3, 4, 5, 6, 7, 8] rfl
      have hDc := hD.sub (ws' := [(h0, .inr (11, MO ma sv_thrown sv_length sv_nodes sv_many sv_directories sv_runsFrom sv_runs sv_read sv_wrong sv_isNamed sv_goes sv_goesSize sv_goesAt sv_targetParts sv_isRoot)), ((ma 1), .inl (cI, 40, .inl fK)), ((ma 2), .inl (cI, 40, .inl fP)), ((ma 8), .inl (cB, 1200, .inl fN)), ((ma 9), .inl (cI, 40, .inl fNS)), ((ma 12), .inl (cB, 320, .inl fBa)), ((ma 13), .inl (cI, 40, .inl fBs)), ((ma 14), .inl (cB, 120, .inl fEx)), ((ma 15), .inl (cI, 40, .inl fEs))]) [0, 1, 2, 3, 4, 5, 6, 7, 8] (by decide +kernel) rfl
      have hFc := va_free (wc := [(h0, .inr (11, MO ma sv_thrown sv_length sv_nodes sv_many sv_directories sv_runsFrom sv_runs sv_read sv_wrong sv_isNamed sv_goes sv_goesSize sv_goesAt sv_targetParts sv_isRoot)), ((ma 1), .inl (cI, 40, .inl fK)), ((ma 2), .inl (cI, 40, .inl fP)), ((ma 8), .inl (cB, 1200, .inl fN)), ((ma 9), .inl (cI, 40, .inl fNS)), ((ma 12), .inl (cB, 320, .inl fBa)), ((ma 13), .inl (cI, 40, .inl fBs)), ((ma 14), .inl (cB, 120, .inl fEx)), ((ma 15), .inl (cI, 40, .inl fEs))]) hD hS hA [0, 1, 2, 3, 4, 5, 6, 7, 8] rfl
      have hkc : 0 ≤ 0 := by decide
      have hks : 0 ≤ 0 := by decide
      refine va_calli (va_runV (C := "DiscMakerModel") (As := [.int 1, .int v3, .int (-1)]) (rest := []) ⟨hx, hb, hml, hown, hts⟩ (m_next l D cB cI cJ cZ cN cF H.size h0 ma sv_thrown sv_length sv_nodes sv_many sv_directories sv_runsFrom sv_runs sv_read sv_wrong sv_isNamed sv_goes sv_goesSize sv_goesAt sv_targetParts sv_isRoot fK fP fN fNS fBa fBs fEx fEs 1 v3 (-1) (by (try dsimp only); first | assumption | omega | trivial) (by (try dsimp only); first | assumption | omega | trivial) (by (try dsimp only); first | assumption | omega | trivial) (by (try dsimp only); first | assumption | omega | trivial) (by (try dsimp only); first | assumption | omega | trivial) (by (try dsimp only); first | assumption | omega | trivial) (by (try dsimp only); first | assumption | omega | trivial) (by (try dsimp only); first | assumption | omega | trivial)) (cwV 3 hts (lg_goodV k1675 k1677 k66 k125 kc_DiscMakerModel_next) rfl rfl rfl (by decide +kernel) ⟨Nat.le_of_ble_eq_true rfl, Nat.le_of_ble_eq_true rfl⟩) ⟨fun a U g mk q => by obtain ⟨q0, q1, qP, qK, qN, qD⟩ := q; exact ⟨q0, q1, qP, va_K.moved (u := U) (U := U.calling g mk a) (Vm.Alike.refl U.vm) qK, qN.calling, qD⟩, va_recv hK hP (ci := 11) (q0 := 0) rfl rfl, fun U hU hW => ⟨rfl, by rw [hU], by rw [hU]; exact hPc, va_K.moved hW.alike hK, NN.warm hW hN, hDc.weaken (fun _ _ _ _ => trivial)⟩⟩ rfl rfl hl.1 rfl (lv_room (Nat.le_of_ble_eq_true rfl)) d_DiscMakerModel_tables_37 ⟨hkc, hks⟩) hS (fun q _ h => hFc q h) hFc (fun r4 u t H1 locs ht hvm hp_r4 hB hz1 hk1 hS => ?_)
      obtain ⟨hP1, hD1⟩ := hB
      rw [ht] at hP1
      obtain ⟨hP, hD⟩ := va_join (wr := [((ma 17), .inl (cI, 24, .inl lTb))]) (w1 := [(h0, .inr (11, MO ma sv_thrown sv_length sv_nodes sv_many sv_directories sv_runsFrom sv_runs sv_read sv_wrong sv_isNamed sv_goes sv_goesSize sv_goesAt sv_targetParts sv_isRoot)), ((ma 1), .inl (cI, 40, .inl fK)), ((ma 2), .inl (cI, 40, .inl fP)), ((ma 8), .inl (cB, 1200, .inl fN)), ((ma 9), .inl (cI, 40, .inl fNS)), ((ma 12), .inl (cB, 320, .inl fBa)), ((ma 13), .inl (cI, 40, .inl fBs)), ((ma 14), .inl (cB, 120, .inl fEx)), ((ma 15), .inl (cI, 40, .inl fEs))]) hP hD [0, 1, 2, 3, 4, 5, 6, 7, 8] [9] rfl rfl (by decide +kernel) (by decide +kernel) hk1 hFc hP1 hD1
      clear hPc hDc hFc hP1 hD1 hk1 hz1 hkc hks
      generalize H1 = H at hP hS ⊢
      have hP : va_P D CL [((ma 17), .inl (cI, 24, .inl lTb)), (h0, .inr (11, MO ma sv_thrown sv_length sv_nodes sv_many sv_directories sv_runsFrom sv_runs sv_read sv_wrong sv_isNamed sv_goes sv_goesSize sv_goesAt sv_targetParts sv_isRoot)), ((ma 1), .inl (cI, 40, .inl fK)), ((ma 2), .inl (cI, 40, .inl fP)), ((ma 8), .inl (cB, 1200, .inl fN)), ((ma 9), .inl (cI, 40, .inl fNS)), ((ma 12), .inl (cB, 320, .inl fBa)), ((ma 13), .inl (cI, 40, .inl fBs)), ((ma 14), .inl (cB, 120, .inl fEx)), ((ma 15), .inl (cI, 40, .inl fEs))] H := hP
      have hD : va_D A [((ma 17), .inl (cI, 24, .inl lTb)), (h0, .inr (11, MO ma sv_thrown sv_length sv_nodes sv_many sv_directories sv_runsFrom sv_runs sv_read sv_wrong sv_isNamed sv_goes sv_goesSize sv_goesAt sv_targetParts sv_isRoot)), ((ma 1), .inl (cI, 40, .inl fK)), ((ma 2), .inl (cI, 40, .inl fP)), ((ma 8), .inl (cB, 1200, .inl fN)), ((ma 9), .inl (cI, 40, .inl fNS)), ((ma 12), .inl (cB, 320, .inl fBa)), ((ma 13), .inl (cI, 40, .inl fBs)), ((ma 14), .inl (cB, 120, .inl fEx)), ((ma 15), .inl (cI, 40, .inl fEs))] := hD
      try dsimp only at hp_r4
      have hnx_5 := hp_r4
      try rw [L_m1] at hnx_5
      try rw [L_1] at hnx_5
      refine lv_istore hx hb d_DiscMakerModel_tables_40 hl (by decide) rfl (fun ls hl => ?_)
      have hl : lv_has ls 6 [(5, .int r4), (4, .int v3), (0, .ref h0), (1, .int 1), (2, .int ln), (3, .int li)] := hl
      refine zz_labM (B := fun (lk : Nat) (K : Heap → List Loc → Array Slot → List Value → Prop) => ∀ (nn : Int32) (nk : Int32) (nTb : Nat → Int32) (H : Heap) (locs : List Loc) (ls : Array Slot), lk = (if nk.toInt < 0 then 0 else rest (KF 1 fN fNS fBa fBs fEx fEs) (NL 1) fP v3.toInt nk.toInt sv_nodes.toInt.toNat + 1) → (li.toInt < nn.toInt ∧ nn.toInt ≤ 12) → (nk.toInt = -1 ∨ (1 ≤ nk.toInt ∧ nk.toInt < sv_nodes.toInt ∧ (fP nk.toNatClampNeg).toInt = v3.toInt)) → (TBi 1 sv_nodes.toInt fK fP nTb nn.toNatClampNeg li.toNatClampNeg (Cq (KF 1 fN fNS fBa fBs fEx fEs) (NL 1) nk.toInt) (Eq_ (KF 1 fN fNS fBa fBs fEx fEs) (NL 1) nk.toInt)) → (∀ q : Nat, q < 12 * 1 ∨ 12 * 1 + 12 ≤ q → nTb q = fTb q) → (tbv nTb 1 li.toNatClampNeg = v3.toInt) → va_P D CL [((ma 17), .inl (cI, 24, .inl nTb)), (h0, .inr (11, MO ma sv_thrown sv_length sv_nodes sv_many sv_directories sv_runsFrom sv_runs sv_read sv_wrong sv_isNamed sv_goes sv_goesSize sv_goesAt sv_targetParts sv_isRoot)), ((ma 1), .inl (cI, 40, .inl fK)), ((ma 2), .inl (cI, 40, .inl fP)), ((ma 8), .inl (cB, 1200, .inl fN)), ((ma 9), .inl (cI, 40, .inl fNS)), ((ma 12), .inl (cB, 320, .inl fBa)), ((ma 13), .inl (cI, 40, .inl fBs)), ((ma 14), .inl (cB, 120, .inl fEx)), ((ma 15), .inl (cI, 40, .inl fEs))] H → va_D A [((ma 17), .inl (cI, 24, .inl nTb)), (h0, .inr (11, MO ma sv_thrown sv_length sv_nodes sv_many sv_directories sv_runsFrom sv_runs sv_read sv_wrong sv_isNamed sv_goes sv_goesSize sv_goesAt sv_targetParts sv_isRoot)), ((ma 1), .inl (cI, 40, .inl fK)), ((ma 2), .inl (cI, 40, .inl fP)), ((ma 8), .inl (cB, 1200, .inl fN)), ((ma 9), .inl (cI, 40, .inl fNS)), ((ma 12), .inl (cB, 320, .inl fBa)), ((ma 13), .inl (cI, 40, .inl fBs)), ((ma 14), .inl (cB, 120, .inl fEx)), ((ma 15), .inl (cI, 40, .inl fEs))] → va_S A s.heap H locs → lv_has ls 6 [(0, .ref h0), (1, .int 1), (2, .int nn), (3, .int li), (4, .int v3), (5, .int nk)] → K H locs ls []) 42 ?_ ?_
      · skip
        intro lk ih42 nn nk nTb H locs ls hm42 g1 g5 g3 g4 g6 hP hD hS hl
        refine lv_iload hx hb d_DiscMakerModel_tables_42 (lv_at hl 5 rfl) ?_
        refine lv_if_lt (tgt := 90) hx hb d_DiscMakerModel_tables_44 (by decide) (fun h_9 => ?_) (fun h_9 => ?_)
        · skip
          have g44_35 : nk.toInt < 0 := (i_lt rfl (by decide)).mp h_9
          obtain ⟨v6, e_v6⟩ : ∃ z : Int32, z = li + 1 := ⟨_, rfl⟩
          refine lv_iinc (v := v6) hx hb d_DiscMakerModel_tables_90 hl (k := 3) rfl e_v6.symm (by decide +kernel) rfl (fun ls hl => ?_)
          have t_v6 : v6.toInt = li.toInt + 1 := by rw [e_v6]; exact i_add rfl (by decide) (by omega) (by omega)
          have hl : lv_has ls 6 [(3, .int v6), (0, .ref h0), (1, .int 1), (2, .int nn), (4, .int v3), (5, .int nk)] := hl
          refine lv_goto (tgt := 14) hx hb d_DiscMakerModel_tables_93 (by decide) ?_
          have hP := hP.sub (ws' := [(h0, .inr (11, MO ma sv_thrown sv_length sv_nodes sv_many sv_directories sv_runsFrom sv_runs sv_read sv_wrong sv_isNamed sv_goes sv_goesSize sv_goesAt sv_targetParts sv_isRoot)), ((ma 1), .inl (cI, 40, .inl fK)), ((ma 2), .inl (cI, 40, .inl fP)), ((ma 8), .inl (cB, 1200, .inl fN)), ((ma 9), .inl (cI, 40, .inl fNS)), ((ma 12), .inl (cB, 320, .inl fBa)), ((ma 13), .inl (cI, 40, .inl fBs)), ((ma 14), .inl (cB, 120, .inl fEx)), ((ma 15), .inl (cI, 40, .inl fEs)), ((ma 17), .inl (cI, 24, .inl nTb))]) [1, 2, 3, 4, 5, 6, 7, 8, 9, 0] rfl
          have hD := hD.sub (ws' := [(h0, .inr (11, MO ma sv_thrown sv_length sv_nodes sv_many sv_directories sv_runsFrom sv_runs sv_read sv_wrong sv_isNamed sv_goes sv_goesSize sv_goesAt sv_targetParts sv_isRoot)), ((ma 1), .inl (cI, 40, .inl fK)), ((ma 2), .inl (cI, 40, .inl fP)), ((ma 8), .inl (cB, 1200, .inl fN)), ((ma 9), .inl (cI, 40, .inl fNS)), ((ma 12), .inl (cB, 320, .inl fBa)), ((ma 13), .inl (cI, 40, .inl fBs)), ((ma 14), .inl (cB, 120, .inl fEx)), ((ma 15), .inl (cI, 40, .inl fEs)), ((ma 17), .inl (cI, 24, .inl nTb))]) [1, 2, 3, 4, 5, 6, 7, 8, 9, 0] (by decide +kernel) rfl
          have hl := lv_sub hl [1, 2, 3, 0] rfl
          exact ih14 _ (by first | omega | (dsimp only; omega)) nn v6 nTb _ _ _ rfl ((by (try dsimp only); first | assumption | omega | trivial)) ((by have h8 := i_cl (a := li) (by omega); have h9 := i_cl (a := v6) (by omega); rw [show v6.toNatClampNeg = li.toNatClampNeg + 1 by omega]; exact g3.done (fun q h => by have := h.1; omega))) (g4) hP hD hS hl
        · skip
          have g44_35 : ¬ nk.toInt < 0 := fun h8 => h_9 ((i_lt rfl (by decide)).mpr h8)
          refine lv_aload_n hx hb d_DiscMakerModel_tables_47 rfl (lv_at hl 0 rfl) ?_
          refine va_get (D := D) (ci := 11) (v := .ref (ma 1)) (C := "DiscMakerModel") (T := F_DiscMakerModel) (N := 48) hx hb ht9 in_DiscMakerModel hown hK hP 1 rfl rfl 4 (by decide) (ht9 _ k1435) (fun _ h9 => h9) rfl d_DiscMakerModel_tables_48 ?_
          refine lv_iload hx hb d_DiscMakerModel_tables_51 (lv_at hl 5 rfl) ?_
          refine va_iald hx hb hK hP 2 1 rfl rfl (vp_in_iff.mpr ⟨by omega, by omega⟩) d_DiscMakerModel_tables_53 ?_
          refine lv_topi (fun v7 e_v7 => ?_)
          have t_v7 : 0 ≤ v7.toInt ∧ v7.toInt ≤ 2 := by
            rw [e_v7]; exact hKi _ (by have := i_cl (a := nk) (by omega); omega)
          refine lv_if_eq (tgt := 60) hx hb d_DiscMakerModel_tables_54 (by decide) (fun h_9 => ?_) (fun h_9 => ?_)
          · skip
            have g54_43 : v7.toInt = 0 := (i_eq rfl (by decide)).mp h_9
            have hfit : nn.toNatClampNeg < 12 := TBi.fits g3 g6.symm (by omega) (by omega) (by rw [show nk.toInt.toNat = nk.toNatClampNeg from rfl, ← e_v7]; omega) (by rw [show nk.toInt.toNat = nk.toNatClampNeg from rfl]; omega) (by have := i_cl (a := nn) (by omega); have := i_cl (a := li) (by omega); omega) hT.cc
            have hfic := i_cl (a := nn) (by omega)
            refine lv_aload_n hx hb d_DiscMakerModel_tables_60 rfl (lv_at hl 0 rfl) ?_
            refine va_get (D := D) (ci := 11) (v := .ref (ma 17)) (C := "DiscMakerModel") (T := F_DiscMakerModel) (N := 48) hx hb ht9 in_DiscMakerModel hown hK hP 1 rfl rfl 21 (by decide) (ht9 _ k1452) (fun _ h9 => h9) rfl d_DiscMakerModel_tables_61 ?_
            refine lv_bipush (v := 12) hx hb d_DiscMakerModel_tables_64 (by decide) ?_
            refine lv_iload_n hx hb d_DiscMakerModel_tables_66 rfl (lv_at hl 1 rfl) ?_
            refine lv_imul hx hb d_DiscMakerModel_tables_67 ?_
            refine W.eq (g2 := F0 m 68 ls [.int 12, .ref (ma 17)]) (by rw [show ((12 : Int32) * 1) = 12 from by decide]) ?_
            refine lv_iload_n hx hb d_DiscMakerModel_tables_68 rfl (lv_at hl 2 rfl) ?_
            refine lv_iadd hx hb d_DiscMakerModel_tables_69 ?_
            refine lv_topi (fun v8 e_v8 => ?_)
            have t_v8 : v8.toInt = 12 + nn.toInt := by rw [e_v8]; exact i_add (by decide) rfl (by omega) (by omega)
            refine lv_iload hx hb d_DiscMakerModel_tables_70 (lv_at hl 5 rfl) ?_
            refine zq_iast hx hb hK hP hD hS 0 1 rfl rfl (vp_in_iff.mpr ⟨by omega, by omega⟩) d_DiscMakerModel_tables_72 (fun f9 e_f9 H locs hP hD hS => ?_)
            have hP : va_P D CL [((ma 17), .inl (cI, 24, .inl f9)), (h0, .inr (11, MO ma sv_thrown sv_length sv_nodes sv_many sv_directories sv_runsFrom sv_runs sv_read sv_wrong sv_isNamed sv_goes sv_goesSize sv_goesAt sv_targetParts sv_isRoot)), ((ma 1), .inl (cI, 40, .inl fK)), ((ma 2), .inl (cI, 40, .inl fP)), ((ma 8), .inl (cB, 1200, .inl fN)), ((ma 9), .inl (cI, 40, .inl fNS)), ((ma 12), .inl (cB, 320, .inl fBa)), ((ma 13), .inl (cI, 40, .inl fBs)), ((ma 14), .inl (cB, 120, .inl fEx)), ((ma 15), .inl (cI, 40, .inl fEs))] H := hP
            have hD : va_D A [((ma 17), .inl (cI, 24, .inl f9)), (h0, .inr (11, MO ma sv_thrown sv_length sv_nodes sv_many sv_directories sv_runsFrom sv_runs sv_read sv_wrong sv_isNamed sv_goes sv_goesSize sv_goesAt sv_targetParts sv_isRoot)), ((ma 1), .inl (cI, 40, .inl fK)), ((ma 2), .inl (cI, 40, .inl fP)), ((ma 8), .inl (cB, 1200, .inl fN)), ((ma 9), .inl (cI, 40, .inl fNS)), ((ma 12), .inl (cB, 320, .inl fBa)), ((ma 13), .inl (cI, 40, .inl fBs)), ((ma 14), .inl (cB, 120, .inl fEx)), ((ma 15), .inl (cI, 40, .inl fEs))] := hD
            have s_f9 : f9 v8.toNatClampNeg = nk := by rw [e_f9]; unfold upd; rw [if_pos (by first | rfl | decide)]
            have e2x_f9 : f9 = upd nTb (12 * 1 + nn.toNatClampNeg) nk := by rw [e_f9, show v8.toNatClampNeg = 12 * 1 + nn.toNatClampNeg by (have := i_cl (a := v8) (by omega); omega)]
            obtain ⟨v10, e_v10⟩ : ∃ z : Int32, z = nn + 1 := ⟨_, rfl⟩
            refine lv_iinc (v := v10) hx hb d_DiscMakerModel_tables_73 hl (k := 2) rfl e_v10.symm (by decide +kernel) rfl (fun ls hl => ?_)
            have t_v10 : v10.toInt = nn.toInt + 1 := by rw [e_v10]; exact i_add rfl (by decide) (by omega) (by omega)
            have hl : lv_has ls 6 [(2, .int v10), (0, .ref h0), (1, .int 1), (3, .int li), (4, .int v3), (5, .int nk)] := hl
            refine lv_aload_n hx hb d_DiscMakerModel_tables_76 rfl (lv_at hl 1 rfl) ?_
            refine lv_iload_n hx hb d_DiscMakerModel_tables_77 rfl (lv_at hl 2 rfl) ?_
            refine lv_iload hx hb d_DiscMakerModel_tables_78 (lv_at hl 4 rfl) ?_
            refine lv_iload hx hb d_DiscMakerModel_tables_80 (lv_at hl 5 rfl) ?_
            have hPc := hP.sub (ws' := [(h0, .inr (11, MO ma sv_thrown sv_length sv_nodes sv_many sv_directories sv_runsFrom sv_runs sv_read sv_wrong sv_isNamed sv_goes sv_goesSize sv_goesAt sv_targetParts sv_isRoot)), ((ma 1), .inl (cI, 40, .inl fK)), ((ma 2), .inl (cI, 40, .inl fP)), ((ma 8), .inl (cB, 1200, .inl fN)), ((ma 9), .inl (cI, 40, .inl fNS)), ((ma 12), .inl (cB, 320, .inl fBa)), ((ma 13), .inl (cI, 40, .inl fBs)), ((ma 14), .inl (cB, 120, .inl fEx)), ((ma 15), .inl (cI, 40, .inl fEs))]) [1, 2, 3, 4, 5, 6, 7, 8, 9] rfl
            have hDc := hD.sub (ws' := [(h0, .inr (11, MO ma sv_thrown sv_length sv_nodes sv_many sv_directories sv_runsFrom sv_runs sv_read sv_wrong sv_isNamed sv_goes sv_goesSize sv_goesAt sv_targetParts sv_isRoot)), ((ma 1), .inl (cI, 40, .inl fK)), ((ma 2), .inl (cI, 40, .inl fP)), ((ma 8), .inl (cB, 1200, .inl fN)), ((ma 9), .inl (cI, 40, .inl fNS)), ((ma 12), .inl (cB, 320, .inl fBa)), ((ma 13), .inl (cI, 40, .inl fBs)), ((ma 14), .inl (cB, 120, .inl fEx)), ((ma 15), .inl (cI, 40, .inl fEs))]) [1, 2, 3, 4, 5, 6, 7, 8, 9] (by decide +kernel) rfl
            have hFc := va_free (wc := [(h0, .inr (11, MO ma sv_thrown sv_length sv_nodes sv_many sv_directories sv_runsFrom sv_runs sv_read sv_wrong sv_isNamed sv_goes sv_goesSize sv_goesAt sv_targetParts sv_isRoot)), ((ma 1), .inl (cI, 40, .inl fK)), ((ma 2), .inl (cI, 40, .inl fP)), ((ma 8), .inl (cB, 1200, .inl fN)), ((ma 9), .inl (cI, 40, .inl fNS)), ((ma 12), .inl (cB, 320, .inl fBa)), ((ma 13), .inl (cI, 40, .inl fBs)), ((ma 14), .inl (cB, 120, .inl fEx)), ((ma 15), .inl (cI, 40, .inl fEs))]) hD hS hA [1, 2, 3, 4, 5, 6, 7, 8, 9] rfl
            have hkc : 0 ≤ 0 := by decide
            have hks : 0 ≤ 0 := by decide
            refine va_calli (va_runV (C := "DiscMakerModel") (As := [.int 1, .int v3, .int nk]) (rest := []) ⟨hx, hb, hml, hown, hts⟩ (m_next l D cB cI cJ cZ cN cF H.size h0 ma sv_thrown sv_length sv_nodes sv_many sv_directories sv_runsFrom sv_runs sv_read sv_wrong sv_isNamed sv_goes sv_goesSize sv_goesAt sv_targetParts sv_isRoot fK fP fN fNS fBa fBs fEx fEs 1 v3 nk (by (try dsimp only); first | assumption | omega | trivial) (by (try dsimp only); first | assumption | omega | trivial) (by (try dsimp only); first | assumption | omega | trivial) (by (try dsimp only); first | assumption | omega | trivial) (by (try dsimp only); first | assumption | omega | trivial) (by (try dsimp only); first | assumption | omega | trivial) (by (try dsimp only); first | assumption | omega | trivial) (by (try dsimp only); first | assumption | omega | trivial)) (cwV 3 hts (lg_goodV k1675 k1677 k66 k125 kc_DiscMakerModel_next) rfl rfl rfl (by decide +kernel) ⟨Nat.le_of_ble_eq_true rfl, Nat.le_of_ble_eq_true rfl⟩) ⟨fun a U g mk q => by obtain ⟨q0, q1, qP, qK, qN, qD⟩ := q; exact ⟨q0, q1, qP, va_K.moved (u := U) (U := U.calling g mk a) (Vm.Alike.refl U.vm) qK, qN.calling, qD⟩, va_recv hK hP (ci := 11) (q0 := 1) rfl rfl, fun U hU hW => ⟨rfl, by rw [hU], by rw [hU]; exact hPc, va_K.moved hW.alike hK, NN.warm hW hN, hDc.weaken (fun _ _ _ _ => trivial)⟩⟩ rfl rfl hl.1 rfl (lv_room (Nat.le_of_ble_eq_true rfl)) d_DiscMakerModel_tables_82 ⟨hkc, hks⟩) hS (fun q _ h => hFc q h) hFc (fun r11 u t H1 locs ht hvm hp_r11 hB hz1 hk1 hS => ?_)
            obtain ⟨hP1, hD1⟩ := hB
            rw [ht] at hP1
            obtain ⟨hP, hD⟩ := va_join (wr := [((ma 17), .inl (cI, 24, .inl f9))]) (w1 := [(h0, .inr (11, MO ma sv_thrown sv_length sv_nodes sv_many sv_directories sv_runsFrom sv_runs sv_read sv_wrong sv_isNamed sv_goes sv_goesSize sv_goesAt sv_targetParts sv_isRoot)), ((ma 1), .inl (cI, 40, .inl fK)), ((ma 2), .inl (cI, 40, .inl fP)), ((ma 8), .inl (cB, 1200, .inl fN)), ((ma 9), .inl (cI, 40, .inl fNS)), ((ma 12), .inl (cB, 320, .inl fBa)), ((ma 13), .inl (cI, 40, .inl fBs)), ((ma 14), .inl (cB, 120, .inl fEx)), ((ma 15), .inl (cI, 40, .inl fEs))]) hP hD [1, 2, 3, 4, 5, 6, 7, 8, 9] [0] rfl rfl (by decide +kernel) (by decide +kernel) hk1 hFc hP1 hD1
            clear hPc hDc hFc hP1 hD1 hk1 hz1 hkc hks
            generalize H1 = H at hP hS ⊢
            have hP : va_P D CL [((ma 17), .inl (cI, 24, .inl f9)), (h0, .inr (11, MO ma sv_thrown sv_length sv_nodes sv_many sv_directories sv_runsFrom sv_runs sv_read sv_wrong sv_isNamed sv_goes sv_goesSize sv_goesAt sv_targetParts sv_isRoot)), ((ma 1), .inl (cI, 40, .inl fK)), ((ma 2), .inl (cI, 40, .inl fP)), ((ma 8), .inl (cB, 1200, .inl fN)), ((ma 9), .inl (cI, 40, .inl fNS)), ((ma 12), .inl (cB, 320, .inl fBa)), ((ma 13), .inl (cI, 40, .inl fBs)), ((ma 14), .inl (cB, 120, .inl fEx)), ((ma 15), .inl (cI, 40, .inl fEs))] H := hP
            have hD : va_D A [((ma 17), .inl (cI, 24, .inl f9)), (h0, .inr (11, MO ma sv_thrown sv_length sv_nodes sv_many sv_directories sv_runsFrom sv_runs sv_read sv_wrong sv_isNamed sv_goes sv_goesSize sv_goesAt sv_targetParts sv_isRoot)), ((ma 1), .inl (cI, 40, .inl fK)), ((ma 2), .inl (cI, 40, .inl fP)), ((ma 8), .inl (cB, 1200, .inl fN)), ((ma 9), .inl (cI, 40, .inl fNS)), ((ma 12), .inl (cB, 320, .inl fBa)), ((ma 13), .inl (cI, 40, .inl fBs)), ((ma 14), .inl (cB, 120, .inl fEx)), ((ma 15), .inl (cI, 40, .inl fEs))] := hD
            try dsimp only at hp_r11
            have hnx_12 := hp_r11
            try rw [L_1] at hnx_12
            refine lv_istore hx hb d_DiscMakerModel_tables_85 hl (by decide) rfl (fun ls hl => ?_)
            have hl : lv_has ls 6 [(5, .int r11), (2, .int v10), (0, .ref h0), (1, .int 1), (3, .int li), (4, .int v3)] := hl
            refine lv_goto (tgt := 42) hx hb d_DiscMakerModel_tables_87 (by decide) ?_
            have hP := hP.sub (ws' := [((ma 17), .inl (cI, 24, .inl f9)), (h0, .inr (11, MO ma sv_thrown sv_length sv_nodes sv_many sv_directories sv_runsFrom sv_runs sv_read sv_wrong sv_isNamed sv_goes sv_goesSize sv_goesAt sv_targetParts sv_isRoot)), ((ma 1), .inl (cI, 40, .inl fK)), ((ma 2), .inl (cI, 40, .inl fP)), ((ma 8), .inl (cB, 1200, .inl fN)), ((ma 9), .inl (cI, 40, .inl fNS)), ((ma 12), .inl (cB, 320, .inl fBa)), ((ma 13), .inl (cI, 40, .inl fBs)), ((ma 14), .inl (cB, 120, .inl fEx)), ((ma 15), .inl (cI, 40, .inl fEs))]) [0, 1, 2, 3, 4, 5, 6, 7, 8, 9] rfl
            have hD := hD.sub (ws' := [((ma 17), .inl (cI, 24, .inl f9)), (h0, .inr (11, MO ma sv_thrown sv_length sv_nodes sv_many sv_directories sv_runsFrom sv_runs sv_read sv_wrong sv_isNamed sv_goes sv_goesSize sv_goesAt sv_targetParts sv_isRoot)), ((ma 1), .inl (cI, 40, .inl fK)), ((ma 2), .inl (cI, 40, .inl fP)), ((ma 8), .inl (cB, 1200, .inl fN)), ((ma 9), .inl (cI, 40, .inl fNS)), ((ma 12), .inl (cB, 320, .inl fBa)), ((ma 13), .inl (cI, 40, .inl fBs)), ((ma 14), .inl (cB, 120, .inl fEx)), ((ma 15), .inl (cI, 40, .inl fEs))]) [0, 1, 2, 3, 4, 5, 6, 7, 8, 9] (by decide +kernel) rfl
            have hl := lv_sub hl [2, 3, 1, 4, 5, 0] rfl
            exact ih42 _ (by rw [hm42, if_neg (show ¬ nk.toInt < 0 by omega)]; split <;> first | omega | (have := next_rest hnx_12 (by omega); omega)) v10 r11 f9 _ _ _ rfl ((by (try dsimp only); first | assumption | omega | trivial)) ((by have h5 := next_par hnx_12; rw [show r11.toInt.toNat = r11.toNatClampNeg from rfl] at h5; omega)) ((by have h7 := i_cl (a := v10) (by omega); have h8 := i_cl (a := nn) (by omega); have h6 := i_cl (a := li) (by omega); rw [show v10.toNatClampNeg = nn.toNatClampNeg + 1 by omega]; exact TBi.add g3 hnx_12 hU g6.symm (by omega) (by omega) (by rw [show nk.toInt.toNat = nk.toNatClampNeg from rfl, ← e_v7]; omega) (by rw [show nk.toInt.toNat = nk.toNatClampNeg from rfl]; omega) (by omega) (by omega) rfl e2x_f9)) ((fun q hq => by rw [e2x_f9]; unfold upd; rw [if_neg (by have := i_cl (a := nn) (by omega); omega)]; exact g4 q hq)) ((by rw [← g6]; unfold tbv; rw [e2x_f9]; unfold upd; rw [if_neg (by have := i_cl (a := li) (by omega); have := i_cl (a := nn) (by omega); omega)])) hP hD hS hl
          · skip
            have g54_43 : ¬ v7.toInt = 0 := fun h8 => h_9 ((i_eq rfl (by decide)).mpr h8)
            refine lv_goto (tgt := 76) hx hb d_DiscMakerModel_tables_57 (by decide) ?_
            refine lv_aload_n hx hb d_DiscMakerModel_tables_76 rfl (lv_at hl 0 rfl) ?_
            refine lv_iload_n hx hb d_DiscMakerModel_tables_77 rfl (lv_at hl 1 rfl) ?_
            refine lv_iload hx hb d_DiscMakerModel_tables_78 (lv_at hl 4 rfl) ?_
            refine lv_iload hx hb d_DiscMakerModel_tables_80 (lv_at hl 5 rfl) ?_
            have hPc := hP.sub (ws' := [(h0, .inr (11, MO ma sv_thrown sv_length sv_nodes sv_many sv_directories sv_runsFrom sv_runs sv_read sv_wrong sv_isNamed sv_goes sv_goesSize sv_goesAt sv_targetParts sv_isRoot)), ((ma 1), .inl (cI, 40, .inl fK)), ((ma 2), .inl (cI, 40, .inl fP)), ((ma 8), .inl (cB, 1200, .inl fN)), ((ma 9), .inl (cI, 40, .inl fNS)), ((ma 12), .inl (cB, 320, .inl fBa)), ((ma 13), .inl (cI, 40, .inl fBs)), ((ma 14), .inl (cB, 120, .inl fEx)), ((ma 15), .inl (cI, 40, .inl fEs))]) [1, 2, 3, 4, 5, 6, 7, 8, 9] rfl
            have hDc := hD.sub (ws' := [(h0, .inr (11, MO ma sv_thrown sv_length sv_nodes sv_many sv_directories sv_runsFrom sv_runs sv_read sv_wrong sv_isNamed sv_goes sv_goesSize sv_goesAt sv_targetParts sv_isRoot)), ((ma 1), .inl (cI, 40, .inl fK)), ((ma 2), .inl (cI, 40, .inl fP)), ((ma 8), .inl (cB, 1200, .inl fN)), ((ma 9), .inl (cI, 40, .inl fNS)), ((ma 12), .inl (cB, 320, .inl fBa)), ((ma 13), .inl (cI, 40, .inl fBs)), ((ma 14), .inl (cB, 120, .inl fEx)), ((ma 15), .inl (cI, 40, .inl fEs))]) [1, 2, 3, 4, 5, 6, 7, 8, 9] (by decide +kernel) rfl
            have hFc := va_free (wc := [(h0, .inr (11, MO ma sv_thrown sv_length sv_nodes sv_many sv_directories sv_runsFrom sv_runs sv_read sv_wrong sv_isNamed sv_goes sv_goesSize sv_goesAt sv_targetParts sv_isRoot)), ((ma 1), .inl (cI, 40, .inl fK)), ((ma 2), .inl (cI, 40, .inl fP)), ((ma 8), .inl (cB, 1200, .inl fN)), ((ma 9), .inl (cI, 40, .inl fNS)), ((ma 12), .inl (cB, 320, .inl fBa)), ((ma 13), .inl (cI, 40, .inl fBs)), ((ma 14), .inl (cB, 120, .inl fEx)), ((ma 15), .inl (cI, 40, .inl fEs))]) hD hS hA [1, 2, 3, 4, 5, 6, 7, 8, 9] rfl
            have hkc : 0 ≤ 0 := by decide
            have hks : 0 ≤ 0 := by decide
            refine va_calli (va_runV (C := "DiscMakerModel") (As := [.int 1, .int v3, .int nk]) (rest := []) ⟨hx, hb, hml, hown, hts⟩ (m_next l D cB cI cJ cZ cN cF H.size h0 ma sv_thrown sv_length sv_nodes sv_many sv_directories sv_runsFrom sv_runs sv_read sv_wrong sv_isNamed sv_goes sv_goesSize sv_goesAt sv_targetParts sv_isRoot fK fP fN fNS fBa fBs fEx fEs 1 v3 nk (by (try dsimp only); first | assumption | omega | trivial) (by (try dsimp only); first | assumption | omega | trivial) (by (try dsimp only); first | assumption | omega | trivial) (by (try dsimp only); first | assumption | omega | trivial) (by (try dsimp only); first | assumption | omega | trivial) (by (try dsimp only); first | assumption | omega | trivial) (by (try dsimp only); first | assumption | omega | trivial) (by (try dsimp only); first | assumption | omega | trivial)) (cwV 3 hts (lg_goodV k1675 k1677 k66 k125 kc_DiscMakerModel_next) rfl rfl rfl (by decide +kernel) ⟨Nat.le_of_ble_eq_true rfl, Nat.le_of_ble_eq_true rfl⟩) ⟨fun a U g mk q => by obtain ⟨q0, q1, qP, qK, qN, qD⟩ := q; exact ⟨q0, q1, qP, va_K.moved (u := U) (U := U.calling g mk a) (Vm.Alike.refl U.vm) qK, qN.calling, qD⟩, va_recv hK hP (ci := 11) (q0 := 1) rfl rfl, fun U hU hW => ⟨rfl, by rw [hU], by rw [hU]; exact hPc, va_K.moved hW.alike hK, NN.warm hW hN, hDc.weaken (fun _ _ _ _ => trivial)⟩⟩ rfl rfl hl.1 rfl (lv_room (Nat.le_of_ble_eq_true rfl)) d_DiscMakerModel_tables_82 ⟨hkc, hks⟩) hS (fun q _ h => hFc q h) hFc (fun r13 u t H1 locs ht hvm hp_r13 hB hz1 hk1 hS => ?_)
            obtain ⟨hP1, hD1⟩ := hB
            rw [ht] at hP1
            obtain ⟨hP, hD⟩ := va_join (wr := [((ma 17), .inl (cI, 24, .inl nTb))]) (w1 := [(h0, .inr (11, MO ma sv_thrown sv_length sv_nodes sv_many sv_directories sv_runsFrom sv_runs sv_read sv_wrong sv_isNamed sv_goes sv_goesSize sv_goesAt sv_targetParts sv_isRoot)), ((ma 1), .inl (cI, 40, .inl fK)), ((ma 2), .inl (cI, 40, .inl fP)), ((ma 8), .inl (cB, 1200, .inl fN)), ((ma 9), .inl (cI, 40, .inl fNS)), ((ma 12), .inl (cB, 320, .inl fBa)), ((ma 13), .inl (cI, 40, .inl fBs)), ((ma 14), .inl (cB, 120, .inl fEx)), ((ma 15), .inl (cI, 40, .inl fEs))]) hP hD [1, 2, 3, 4, 5, 6, 7, 8, 9] [0] rfl rfl (by decide +kernel) (by decide +kernel) hk1 hFc hP1 hD1
            clear hPc hDc hFc hP1 hD1 hk1 hz1 hkc hks
            generalize H1 = H at hP hS ⊢
            have hP : va_P D CL [((ma 17), .inl (cI, 24, .inl nTb)), (h0, .inr (11, MO ma sv_thrown sv_length sv_nodes sv_many sv_directories sv_runsFrom sv_runs sv_read sv_wrong sv_isNamed sv_goes sv_goesSize sv_goesAt sv_targetParts sv_isRoot)), ((ma 1), .inl (cI, 40, .inl fK)), ((ma 2), .inl (cI, 40, .inl fP)), ((ma 8), .inl (cB, 1200, .inl fN)), ((ma 9), .inl (cI, 40, .inl fNS)), ((ma 12), .inl (cB, 320, .inl fBa)), ((ma 13), .inl (cI, 40, .inl fBs)), ((ma 14), .inl (cB, 120, .inl fEx)), ((ma 15), .inl (cI, 40, .inl fEs))] H := hP
            have hD : va_D A [((ma 17), .inl (cI, 24, .inl nTb)), (h0, .inr (11, MO ma sv_thrown sv_length sv_nodes sv_many sv_directories sv_runsFrom sv_runs sv_read sv_wrong sv_isNamed sv_goes sv_goesSize sv_goesAt sv_targetParts sv_isRoot)), ((ma 1), .inl (cI, 40, .inl fK)), ((ma 2), .inl (cI, 40, .inl fP)), ((ma 8), .inl (cB, 1200, .inl fN)), ((ma 9), .inl (cI, 40, .inl fNS)), ((ma 12), .inl (cB, 320, .inl fBa)), ((ma 13), .inl (cI, 40, .inl fBs)), ((ma 14), .inl (cB, 120, .inl fEx)), ((ma 15), .inl (cI, 40, .inl fEs))] := hD
            try dsimp only at hp_r13
            have hnx_14 := hp_r13
            try rw [L_1] at hnx_14
            refine lv_istore hx hb d_DiscMakerModel_tables_85 hl (by decide) rfl (fun ls hl => ?_)
            have hl : lv_has ls 6 [(5, .int r13), (0, .ref h0), (1, .int 1), (2, .int nn), (3, .int li), (4, .int v3)] := hl
            refine lv_goto (tgt := 42) hx hb d_DiscMakerModel_tables_87 (by decide) ?_
            have hP := hP.sub (ws' := [((ma 17), .inl (cI, 24, .inl nTb)), (h0, .inr (11, MO ma sv_thrown sv_length sv_nodes sv_many sv_directories sv_runsFrom sv_runs sv_read sv_wrong sv_isNamed sv_goes sv_goesSize sv_goesAt sv_targetParts sv_isRoot)), ((ma 1), .inl (cI, 40, .inl fK)), ((ma 2), .inl (cI, 40, .inl fP)), ((ma 8), .inl (cB, 1200, .inl fN)), ((ma 9), .inl (cI, 40, .inl fNS)), ((ma 12), .inl (cB, 320, .inl fBa)), ((ma 13), .inl (cI, 40, .inl fBs)), ((ma 14), .inl (cB, 120, .inl fEx)), ((ma 15), .inl (cI, 40, .inl fEs))]) [0, 1, 2, 3, 4, 5, 6, 7, 8, 9] rfl
            have hD := hD.sub (ws' := [((ma 17), .inl (cI, 24, .inl nTb)), (h0, .inr (11, MO ma sv_thrown sv_length sv_nodes sv_many sv_directories sv_runsFrom sv_runs sv_read sv_wrong sv_isNamed sv_goes sv_goesSize sv_goesAt sv_targetParts sv_isRoot)), ((ma 1), .inl (cI, 40, .inl fK)), ((ma 2), .inl (cI, 40, .inl fP)), ((ma 8), .inl (cB, 1200, .inl fN)), ((ma 9), .inl (cI, 40, .inl fNS)), ((ma 12), .inl (cB, 320, .inl fBa)), ((ma 13), .inl (cI, 40, .inl fBs)), ((ma 14), .inl (cB, 120, .inl fEx)), ((ma 15), .inl (cI, 40, .inl fEs))]) [0, 1, 2, 3, 4, 5, 6, 7, 8, 9] (by decide +kernel) rfl
            have hl := lv_sub hl [1, 2, 3, 4, 5, 0] rfl
            exact ih42 _ (by rw [hm42, if_neg (show ¬ nk.toInt < 0 by omega)]; split <;> first | omega | (have := next_rest hnx_14 (by omega); omega)) nn r13 nTb _ _ _ rfl ((by (try dsimp only); first | assumption | omega | trivial)) ((by have h5 := next_par hnx_14; rw [show r13.toInt.toNat = r13.toNatClampNeg from rfl] at h5; omega)) ((TBi.skip g3 hnx_14 hU g6.symm (by omega) (by intro h9; rw [show nk.toInt.toNat = nk.toNatClampNeg from rfl, ← e_v7] at h9; omega))) (g4) (g6) hP hD hS hl
      · skip
        intro kk42
        have hP := hP.sub (ws' := [((ma 17), .inl (cI, 24, .inl lTb)), (h0, .inr (11, MO ma sv_thrown sv_length sv_nodes sv_many sv_directories sv_runsFrom sv_runs sv_read sv_wrong sv_isNamed sv_goes sv_goesSize sv_goesAt sv_targetParts sv_isRoot)), ((ma 1), .inl (cI, 40, .inl fK)), ((ma 2), .inl (cI, 40, .inl fP)), ((ma 8), .inl (cB, 1200, .inl fN)), ((ma 9), .inl (cI, 40, .inl fNS)), ((ma 12), .inl (cB, 320, .inl fBa)), ((ma 13), .inl (cI, 40, .inl fBs)), ((ma 14), .inl (cB, 120, .inl fEx)), ((ma 15), .inl (cI, 40, .inl fEs))]) [0, 1, 2, 3, 4, 5, 6, 7, 8, 9] rfl
        have hD := hD.sub (ws' := [((ma 17), .inl (cI, 24, .inl lTb)), (h0, .inr (11, MO ma sv_thrown sv_length sv_nodes sv_many sv_directories sv_runsFrom sv_runs sv_read sv_wrong sv_isNamed sv_goes sv_goesSize sv_goesAt sv_targetParts sv_isRoot)), ((ma 1), .inl (cI, 40, .inl fK)), ((ma 2), .inl (cI, 40, .inl fP)), ((ma 8), .inl (cB, 1200, .inl fN)), ((ma 9), .inl (cI, 40, .inl fNS)), ((ma 12), .inl (cB, 320, .inl fBa)), ((ma 13), .inl (cI, 40, .inl fBs)), ((ma 14), .inl (cB, 120, .inl fEx)), ((ma 15), .inl (cI, 40, .inl fEs))]) [0, 1, 2, 3, 4, 5, 6, 7, 8, 9] (by decide +kernel) rfl
        have hl := lv_sub hl [2, 3, 4, 5, 1, 0] rfl
        exact kk42 _ ln r4 lTb _ _ _ rfl ((by (try dsimp only); first | assumption | omega | trivial)) ((by have h5 := next_par hnx_5; rw [show r4.toInt.toNat = r4.toNatClampNeg from rfl] at h5; omega)) ((TBi.first y2 hnx_5 hU qtv3.symm)) (y3) (qtv3) hP hD hS hl
  · skip
    intro kk14
    have hP := hP.sub (ws' := [(h0, .inr (11, MO ma sv_thrown sv_length sv_nodes sv_many sv_directories sv_runsFrom sv_runs sv_read sv_wrong sv_isNamed sv_goes sv_goesSize sv_goesAt sv_targetParts sv_isRoot)), ((ma 1), .inl (cI, 40, .inl fK)), ((ma 2), .inl (cI, 40, .inl fP)), ((ma 8), .inl (cB, 1200, .inl fN)), ((ma 9), .inl (cI, 40, .inl fNS)), ((ma 12), .inl (cB, 320, .inl fBa)), ((ma 13), .inl (cI, 40, .inl fBs)), ((ma 14), .inl (cB, 120, .inl fEx)), ((ma 15), .inl (cI, 40, .inl fEs)), ((ma 17), .inl (cI, 24, .inl f1))]) [0, 1, 2, 3, 4, 5, 6, 7, 8, 9] rfl
    have hD := hD.sub (ws' := [(h0, .inr (11, MO ma sv_thrown sv_length sv_nodes sv_many sv_directories sv_runsFrom sv_runs sv_read sv_wrong sv_isNamed sv_goes sv_goesSize sv_goesAt sv_targetParts sv_isRoot)), ((ma 1), .inl (cI, 40, .inl fK)), ((ma 2), .inl (cI, 40, .inl fP)), ((ma 8), .inl (cB, 1200, .inl fN)), ((ma 9), .inl (cI, 40, .inl fNS)), ((ma 12), .inl (cB, 320, .inl fBa)), ((ma 13), .inl (cI, 40, .inl fBs)), ((ma 14), .inl (cB, 120, .inl fEx)), ((ma 15), .inl (cI, 40, .inl fEs)), ((ma 17), .inl (cI, 24, .inl f1))]) [0, 1, 2, 3, 4, 5, 6, 7, 8, 9] (by decide +kernel) rfl
    have hl := lv_sub hl [2, 3, 1, 0] rfl
    exact kk14 _ 1 0 f1 _ _ _ rfl ((by (try dsimp only); first | assumption | omega | trivial)) ((TBi_0 (by decide) (by decide) (by rw [e_f1, show ((12 : Int32)).toNatClampNeg = 12 * 1 from by decide]; unfold upd; rw [if_pos rfl]; decide) hT.k0 (by omega))) ((fun q hq => by rw [e_f1]; unfold upd; rw [if_neg (by rw [show ((12 : Int32)).toNatClampNeg = 12 * 1 from by decide]; omega)])) hP hD hS hl

theorem d_DiscMakerModel_numberOf_0 : decode b_DiscMakerModel_numberOf 0 = .ok (.iconst 0, 1) := by decide +kernel
theorem d_DiscMakerModel_numberOf_1 : decode b_DiscMakerModel_numberOf 1 = .ok (.istore_n 3, 1) := by decide +kernel
theorem d_DiscMakerModel_numberOf_2 : decode b_DiscMakerModel_numberOf 2 = .ok (.aload_n 0, 1) := by decide +kernel
theorem d_DiscMakerModel_numberOf_3 : decode b_DiscMakerModel_numberOf 3 = .ok (.getfield 64, 3) := by decide +kernel
theorem d_DiscMakerModel_numberOf_6 : decode b_DiscMakerModel_numberOf 6 = .ok (.bipush 12, 2) := by decide +kernel
theorem d_DiscMakerModel_numberOf_8 : decode b_DiscMakerModel_numberOf 8 = .ok (.iload_n 1, 1) := by decide +kernel
theorem d_DiscMakerModel_numberOf_9 : decode b_DiscMakerModel_numberOf 9 = .ok (.imul, 1) := by decide +kernel
theorem d_DiscMakerModel_numberOf_10 : decode b_DiscMakerModel_numberOf 10 = .ok (.iload_n 3, 1) := by decide +kernel
theorem d_DiscMakerModel_numberOf_11 : decode b_DiscMakerModel_numberOf 11 = .ok (.iadd, 1) := by decide +kernel
theorem d_DiscMakerModel_numberOf_12 : decode b_DiscMakerModel_numberOf 12 = .ok (.iaload, 1) := by decide +kernel
theorem d_DiscMakerModel_numberOf_13 : decode b_DiscMakerModel_numberOf 13 = .ok (.iload_n 2, 1) := by decide +kernel
theorem d_DiscMakerModel_numberOf_14 : decode b_DiscMakerModel_numberOf 14 = .ok (.if_icmp .eq 9, 3) := by decide +kernel
theorem d_DiscMakerModel_numberOf_17 : decode b_DiscMakerModel_numberOf 17 = .ok (.iinc 3 1, 3) := by decide +kernel
theorem d_DiscMakerModel_numberOf_20 : decode b_DiscMakerModel_numberOf 20 = .ok (.goto (-18), 3) := by decide +kernel
theorem d_DiscMakerModel_numberOf_23 : decode b_DiscMakerModel_numberOf 23 = .ok (.iload_n 3, 1) := by decide +kernel
theorem d_DiscMakerModel_numberOf_24 : decode b_DiscMakerModel_numberOf 24 = .ok (.iconst 1, 1) := by decide +kernel
theorem d_DiscMakerModel_numberOf_25 : decode b_DiscMakerModel_numberOf 25 = .ok (.iadd, 1) := by decide +kernel
theorem d_DiscMakerModel_numberOf_26 : decode b_DiscMakerModel_numberOf 26 = .ok (.ireturn, 1) := by decide +kernel
set_option maxHeartbeats 4000000 in
set_option maxRecDepth 100000 in
theorem m_numberOf (l : Launch) (D : va_G) (cB cI cJ cZ cN cF : ClassId) (sz : Nat) (h0 : Nat) (ma : Nat → Nat) (sv_thrown sv_length sv_nodes sv_many sv_directories sv_runsFrom sv_runs sv_read sv_wrong sv_isNamed sv_goes sv_goesSize sv_goesAt sv_targetParts sv_isRoot : Int32) (fTb : Nat → Int32) (x : Int32) (y : Int32) (hx0 : 0 ≤ x.toInt ∧ x.toInt ≤ 1) (hex : ∃ j : Nat, j < 12 ∧ tbv fTb x.toNatClampNeg j = y.toInt) : Met l y_DiscMakerModel_numberOf w_DiscMakerModel_numberOf ({ frames := 0, cells := 0, slots := 0, locals := 0 }) (va_Pc [.ref h0, .int x, .int y] (fun U => U.heap.size = sz ∧ va_P D CL [(h0, .inr (11, MO ma sv_thrown sv_length sv_nodes sv_many sv_directories sv_runsFrom sv_runs sv_read sv_wrong sv_isNamed sv_goes sv_goesSize sv_goesAt sv_targetParts sv_isRoot)), ((ma 17), .inl (cI, 24, .inl fTb))] U.heap ∧ va_K D CL (TY cB cI cJ cZ cN cF) U ∧ NN U ∧ va_D (fun _ => True) [(h0, .inr (11, MO ma sv_thrown sv_length sv_nodes sv_many sv_directories sv_runsFrom sv_runs sv_read sv_wrong sv_isNamed sv_goes sv_goesSize sv_goesAt sv_targetParts sv_isRoot)), ((ma 17), .inl (cI, 24, .inl fTb))])) (va_Qi (fun (r : Int32) (u : Unit) => (1 ≤ r.toInt ∧ r.toInt ≤ 12)) (fun (u : Unit) (t : State) => match u with | () => va_P D CL [(h0, .inr (11, MO ma sv_thrown sv_length sv_nodes sv_many sv_directories sv_runsFrom sv_runs sv_read sv_wrong sv_isNamed sv_goes sv_goesSize sv_goesAt sv_targetParts sv_isRoot)), ((ma 17), .inl (cI, 24, .inl fTb))] t.heap ∧ va_D (va_A [(h0, .inr (11, MO ma sv_thrown sv_length sv_nodes sv_many sv_directories sv_runsFrom sv_runs sv_read sv_wrong sv_isNamed sv_goes sv_goesSize sv_goesAt sv_targetParts sv_isRoot)), ((ma 17), .inl (cI, 24, .inl fTb))] sz) [(h0, .inr (11, MO ma sv_thrown sv_length sv_nodes sv_many sv_directories sv_runsFrom sv_runs sv_read sv_wrong sv_isNamed sv_goes sv_goesSize sv_goesAt sv_targetParts sv_isRoot)), ((ma 17), .inl (cI, 24, .inl fTb))]) (va_A [(h0, .inr (11, MO ma sv_thrown sv_length sv_nodes sv_many sv_directories sv_runsFrom sv_runs sv_read sv_wrong sv_isNamed sv_goes sv_goesSize sv_goesAt sv_targetParts sv_isRoot)), ((ma 17), .inl (cI, 24, .inl fTb))] sz)) 0 0 (va_A [(h0, .inr (11, MO ma sv_thrown sv_length sv_nodes sv_many sv_directories sv_runsFrom sv_runs sv_read sv_wrong sv_isNamed sv_goes sv_goesSize sv_goesAt sv_targetParts sv_isRoot)), ((ma 17), .inl (cI, 24, .inl fTb))] sz) := by
  refine Met.ofW (cc := b_DiscMakerModel_numberOf) (maxL := 4) (ret := some .int) (by decide) rfl ?_
  intro p e s m args below meth c s₁ B hml hv
  obtain ⟨rfl, hsz, hP, hK, hN, hD0⟩ := hv
  have hx := B.exec
  have hb := B.bytes
  have hr := B.returns
  have hts := atoms_spec (ws := w_DiscMakerModel_numberOf) B.pre
  have ht9 := fun (w : Cond) (h : w ∈ lw_g) => hts w (List.mem_cons_of_mem _ h)
  have hown : s.vm.findClass "DiscMakerModel" = some m.cls := findClass_of_methodNamed B.named
  have hlocks := B.notSynchronized
  subst hsz
  have hD := hD0.self (sz := s.heap.size)
  generalize hAe : va_A [(h0, .inr (11, MO ma sv_thrown sv_length sv_nodes sv_many sv_directories sv_runsFrom sv_runs sv_read sv_wrong sv_isNamed sv_goes sv_goesSize sv_goesAt sv_targetParts sv_isRoot)), ((ma 17), .inl (cI, 24, .inl fTb))] s.heap.size = A at hD ⊢
  have hA : ∀ q : Nat, s.heap.size ≤ q → A q := fun q h => by rw [← hAe]; exact Or.inr h
  have hS : va_S A s.heap s.heap [] := va_S.rf
  have hP : va_P D CL [(h0, .inr (11, MO ma sv_thrown sv_length sv_nodes sv_many sv_directories sv_runsFrom sv_runs sv_read sv_wrong sv_isNamed sv_goes sv_goesSize sv_goesAt sv_targetParts sv_isRoot)), ((ma 17), .inl (cI, 24, .inl fTb))] s.heap := hP
  have hl := lv_entry [.ref h0, .int x, .int y] (n := 4) (Nat.le_of_ble_eq_true rfl)
  rw [lg_entry_eq]
  generalize (lg_sl [.ref h0, .int x, .int y] ++ List.replicate (4 - (lg_sl [.ref h0, .int x, .int y]).length) Slot.unset).toArray = ls at hl ⊢
  have hl : lv_has ls 4 [(0, .ref h0), (1, .int x), (2, .int y)] := hl
  have L_m1 : ((-1) : Int32).toInt = (-1) := by decide
  have L_0 : (0 : Int32).toInt = 0 := by decide
  have L_1 : (1 : Int32).toInt = 1 := by decide
  have L_12 : (12 : Int32).toInt = 12 := by decide
  have hxc := i_cl (a := x) (by omega)
  refine lv_iconst (v := 0) hx hb d_DiscMakerModel_numberOf_0 (by decide) ?_
  refine lv_istore_n hx hb d_DiscMakerModel_numberOf_1 rfl hl (by decide) rfl (fun ls hl => ?_)
  have hl : lv_has ls 4 [(3, .int 0), (0, .ref h0), (1, .int x), (2, .int y)] := hl
  refine zz_labM (B := fun (lk : Nat) (K : Heap → List Loc → Array Slot → List Value → Prop) => ∀ (li : Int32) (H : Heap) (locs : List Loc) (ls : Array Slot), lk = (12 - li.toInt).toNat → (0 ≤ li.toInt ∧ li.toInt < 12) → (∃ j : Nat, li.toNatClampNeg ≤ j ∧ j < 12 ∧ tbv fTb x.toNatClampNeg j = y.toInt) → va_P D CL [(h0, .inr (11, MO ma sv_thrown sv_length sv_nodes sv_many sv_directories sv_runsFrom sv_runs sv_read sv_wrong sv_isNamed sv_goes sv_goesSize sv_goesAt sv_targetParts sv_isRoot)), ((ma 17), .inl (cI, 24, .inl fTb))] H → va_D A [(h0, .inr (11, MO ma sv_thrown sv_length sv_nodes sv_many sv_directories sv_runsFrom sv_runs sv_read sv_wrong sv_isNamed sv_goes sv_goesSize sv_goesAt sv_targetParts sv_isRoot)), ((ma 17), .inl (cI, 24, .inl fTb))] → va_S A s.heap H locs → lv_has ls 4 [(0, .ref h0), (1, .int x), (2, .int y), (3, .int li)] → K H locs ls []) 2 ?_ ?_
  · skip
    intro lk ih2 li H locs ls hm2 f1 f2 hP hD hS hl
    have hlic := i_cl (a := li) (by omega)
    refine lv_aload_n hx hb d_DiscMakerModel_numberOf_2 rfl (lv_at hl 0 rfl) ?_
    refine va_get (D := D) (ci := 11) (v := .ref (ma 17)) (C := "DiscMakerModel") (T := F_DiscMakerModel) (N := 48) hx hb ht9 in_DiscMakerModel hown hK hP 0 rfl rfl 21 (by decide) (ht9 _ k1452) (fun _ h9 => h9) rfl d_DiscMakerModel_numberOf_3 ?_
    refine lv_bipush (v := 12) hx hb d_DiscMakerModel_numberOf_6 (by decide) ?_
    refine lv_iload_n hx hb d_DiscMakerModel_numberOf_8 rfl (lv_at hl 1 rfl) ?_
    refine lv_imul hx hb d_DiscMakerModel_numberOf_9 ?_
    refine lv_topi (fun v1 e_v1 => ?_)
    have t_v1 : v1.toInt = 12 * x.toInt := by rw [e_v1]; exact i_mul (by decide) rfl (by omega) (by omega)
    refine lv_iload_n hx hb d_DiscMakerModel_numberOf_10 rfl (lv_at hl 3 rfl) ?_
    refine lv_iadd hx hb d_DiscMakerModel_numberOf_11 ?_
    refine lv_topi (fun v2 e_v2 => ?_)
    have t_v2 : v2.toInt = v1.toInt + li.toInt := by rw [e_v2]; exact i_add rfl rfl (by omega) (by omega)
    refine va_iald hx hb hK hP 1 1 rfl rfl (vp_in_iff.mpr ⟨by omega, by omega⟩) d_DiscMakerModel_numberOf_12 ?_
    refine lv_topi (fun v3 e_v3 => ?_)
    have c_v3 := i_cl (a := v2) (by omega)
    have e2_v3 : v3 = fTb (12 * x.toNatClampNeg + li.toNatClampNeg) := by rw [e_v3, show v2.toNatClampNeg = 12 * x.toNatClampNeg + li.toNatClampNeg by omega]
    refine lv_iload_n hx hb d_DiscMakerModel_numberOf_13 rfl (lv_at hl 2 rfl) ?_
    refine lv_icmp_eq (tgt := 23) hx hb d_DiscMakerModel_numberOf_14 (by decide) (fun h_9 => ?_) (fun h_9 => ?_)
    · skip
      have g14_12 : v3.toInt = y.toInt := (i_eq rfl rfl).mp h_9
      refine lv_iload_n hx hb d_DiscMakerModel_numberOf_23 rfl (lv_at hl 3 rfl) ?_
      refine lv_iconst (v := 1) hx hb d_DiscMakerModel_numberOf_24 (by decide) ?_
      refine lv_iadd hx hb d_DiscMakerModel_numberOf_25 ?_
      refine lv_topi (fun v4 e_v4 => ?_)
      have t_v4 : v4.toInt = li.toInt + 1 := by rw [e_v4]; exact i_add rfl (by decide) (by omega) (by omega)
      have hP9 := hP.sub (ws' := [(h0, .inr (11, MO ma sv_thrown sv_length sv_nodes sv_many sv_directories sv_runsFrom sv_runs sv_read sv_wrong sv_isNamed sv_goes sv_goesSize sv_goesAt sv_targetParts sv_isRoot)), ((ma 17), .inl (cI, 24, .inl fTb))]) [0, 1] rfl
      have hD9 := hD.sub (ws' := [(h0, .inr (11, MO ma sv_thrown sv_length sv_nodes sv_many sv_directories sv_runsFrom sv_runs sv_read sv_wrong sv_isNamed sv_goes sv_goesSize sv_goesAt sv_targetParts sv_isRoot)), ((ma 17), .inl (cI, 24, .inl fTb))]) [0, 1] (by decide +kernel) rfl
      exact W.iret (v := v4) hx hb hr (fun t ht hW => ⟨⟨v4, (), rfl, (by (try dsimp only); first | assumption | omega | trivial), by rw [ht]; exact hP9, hD9⟩, hS.F ht⟩) hS.2.2 d_DiscMakerModel_numberOf_26
    · skip
      have g14_12 : ¬ v3.toInt = y.toInt := fun h8 => h_9 ((i_eq rfl rfl).mpr h8)
      have hnb := numb (k := li.toNatClampNeg + 1) f2 e2_v3 (by omega) rfl
      have hnc := hnb.2
      have hnd := i_cl (a := li) (by omega)
      obtain ⟨v5, e_v5⟩ : ∃ z : Int32, z = li + 1 := ⟨_, rfl⟩
      refine lv_iinc (v := v5) hx hb d_DiscMakerModel_numberOf_17 hl (k := 3) rfl e_v5.symm (by decide +kernel) rfl (fun ls hl => ?_)
      have t_v5 : v5.toInt = li.toInt + 1 := by rw [e_v5]; exact i_add rfl (by decide) (by omega) (by omega)
      have hl : lv_has ls 4 [(3, .int v5), (0, .ref h0), (1, .int x), (2, .int y)] := hl
      refine lv_goto (tgt := 2) hx hb d_DiscMakerModel_numberOf_20 (by decide) ?_
      have hP := hP.sub (ws' := [(h0, .inr (11, MO ma sv_thrown sv_length sv_nodes sv_many sv_directories sv_runsFrom sv_runs sv_read sv_wrong sv_isNamed sv_goes sv_goesSize sv_goesAt sv_targetParts sv_isRoot)), ((ma 17), .inl (cI, 24, .inl fTb))]) [0, 1] rfl
      have hD := hD.sub (ws' := [(h0, .inr (11, MO ma sv_thrown sv_length sv_nodes sv_many sv_directories sv_runsFrom sv_runs sv_read sv_wrong sv_isNamed sv_goes sv_goesSize sv_goesAt sv_targetParts sv_isRoot)), ((ma 17), .inl (cI, 24, .inl fTb))]) [0, 1] (by decide +kernel) rfl
      have hl := lv_sub hl [1, 2, 3, 0] rfl
      exact ih2 _ (by first | omega | (dsimp only; omega)) v5 _ _ _ rfl ((by (try dsimp only); first | assumption | omega | trivial)) ((numb f2 e2_v3 (by omega) (by have h7 := i_cl (a := li) (by omega); have h8 := i_cl (a := v5) (by omega); omega)).1) hP hD hS hl
  · skip
    intro kk2
    have hP := hP.sub (ws' := [(h0, .inr (11, MO ma sv_thrown sv_length sv_nodes sv_many sv_directories sv_runsFrom sv_runs sv_read sv_wrong sv_isNamed sv_goes sv_goesSize sv_goesAt sv_targetParts sv_isRoot)), ((ma 17), .inl (cI, 24, .inl fTb))]) [0, 1] rfl
    have hD := hD.sub (ws' := [(h0, .inr (11, MO ma sv_thrown sv_length sv_nodes sv_many sv_directories sv_runsFrom sv_runs sv_read sv_wrong sv_isNamed sv_goes sv_goesSize sv_goesAt sv_targetParts sv_isRoot)), ((ma 17), .inl (cI, 24, .inl fTb))]) [0, 1] (by decide +kernel) rfl
    have hl := lv_sub hl [1, 2, 3, 0] rfl
    exact kk2 _ 0 _ _ _ rfl ((by (try dsimp only); first | assumption | omega | trivial)) ((by obtain ⟨j, h1, h2⟩ := hex; exact ⟨j, by rw [show (0 : Int32).toNatClampNeg = 0 by decide]; omega, h1, h2⟩)) hP hD hS hl
