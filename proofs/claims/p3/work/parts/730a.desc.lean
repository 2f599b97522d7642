theorem d_DiscMakerModel_entrySize_0 : decode b_DiscMakerModel_entrySize 0 = .ok (.aload_n 0, 1) := by decide +kernel
theorem d_DiscMakerModel_entrySize_1 : decode b_DiscMakerModel_entrySize 1 = .ok (.iload_n 1, 1) := by decide +kernel
theorem d_DiscMakerModel_entrySize_2 : decode b_DiscMakerModel_entrySize 2 = .ok (.iload_n 2, 1) := by decide +kernel
theorem d_DiscMakerModel_entrySize_3 : decode b_DiscMakerModel_entrySize 3 = .ok (.ifCond .ne 7, 3) := by decide +kernel
theorem d_DiscMakerModel_entrySize_6 : decode b_DiscMakerModel_entrySize 6 = .ok (.iconst 0, 1) := by decide +kernel
theorem d_DiscMakerModel_entrySize_7 : decode b_DiscMakerModel_entrySize 7 = .ok (.goto 4, 3) := by decide +kernel
theorem d_DiscMakerModel_entrySize_10 : decode b_DiscMakerModel_entrySize 10 = .ok (.iconst 2, 1) := by decide +kernel
theorem d_DiscMakerModel_entrySize_11 : decode b_DiscMakerModel_entrySize 11 = .ok (.iload_n 2, 1) := by decide +kernel
theorem d_DiscMakerModel_entrySize_12 : decode b_DiscMakerModel_entrySize 12 = .ok (.invokevirtual 210, 3) := by decide +kernel
theorem d_DiscMakerModel_entrySize_15 : decode b_DiscMakerModel_entrySize 15 = .ok (.istore_n 3, 1) := by decide +kernel
theorem d_DiscMakerModel_entrySize_16 : decode b_DiscMakerModel_entrySize 16 = .ok (.bipush 8, 2) := by decide +kernel
theorem d_DiscMakerModel_entrySize_18 : decode b_DiscMakerModel_entrySize 18 = .ok (.iload_n 3, 1) := by decide +kernel
theorem d_DiscMakerModel_entrySize_19 : decode b_DiscMakerModel_entrySize 19 = .ok (.iadd, 1) := by decide +kernel
theorem d_DiscMakerModel_entrySize_20 : decode b_DiscMakerModel_entrySize 20 = .ok (.iload_n 3, 1) := by decide +kernel
theorem d_DiscMakerModel_entrySize_21 : decode b_DiscMakerModel_entrySize 21 = .ok (.iconst 2, 1) := by decide +kernel
theorem d_DiscMakerModel_entrySize_22 : decode b_DiscMakerModel_entrySize 22 = .ok (.irem, 1) := by decide +kernel
theorem d_DiscMakerModel_entrySize_23 : decode b_DiscMakerModel_entrySize 23 = .ok (.iadd, 1) := by decide +kernel
theorem d_DiscMakerModel_entrySize_24 : decode b_DiscMakerModel_entrySize 24 = .ok (.ireturn, 1) := by decide +kernel
set_option maxHeartbeats 4000000 in
set_option maxRecDepth 100000 in
theorem m_entrySize (l : Launch) (D : va_G) (cB cI cJ cZ cN cF : ClassId) (sz : Nat) (h0 : Nat) (ma : Nat → Nat) (sv_thrown sv_length sv_nodes sv_many sv_directories sv_runsFrom sv_runs sv_read sv_wrong sv_isNamed sv_goes sv_goesSize sv_goesAt sv_targetParts sv_isRoot : Int32) (fK : Nat → Int32) (fNS : Nat → Int32) (fBs : Nat → Int32) (fEs : Nat → Int32) (x : Int32) (y : Int32) (hy0 : 0 ≤ y.toInt ∧ y.toInt < 40) (hKi : Rg 0 2 40 fK) (hNS : Rg 0 30 40 fNS) (hBs : Rg 0 8 40 fBs) (hEs : Rg 0 3 40 fEs) : Met l y_DiscMakerModel_entrySize w_DiscMakerModel_entrySize ({ frames := 1, cells := 0, slots := 0, locals := 23 }) (va_Pc [.ref h0, .int x, .int y] (fun U => U.heap.size = sz ∧ va_P D CL [(h0, .inr (11, MO ma sv_thrown sv_length sv_nodes sv_many sv_directories sv_runsFrom sv_runs sv_read sv_wrong sv_isNamed sv_goes sv_goesSize sv_goesAt sv_targetParts sv_isRoot)), ((ma 1), .inl (cI, 40, .inl fK)), ((ma 9), .inl (cI, 40, .inl fNS)), ((ma 13), .inl (cI, 40, .inl fBs)), ((ma 15), .inl (cI, 40, .inl fEs))] U.heap ∧ va_K D CL (TY cB cI cJ cZ cN cF) U ∧ NN U ∧ va_D (fun _ => True) [(h0, .inr (11, MO ma sv_thrown sv_length sv_nodes sv_many sv_directories sv_runsFrom sv_runs sv_read sv_wrong sv_isNamed sv_goes sv_goesSize sv_goesAt sv_targetParts sv_isRoot)), ((ma 1), .inl (cI, 40, .inl fK)), ((ma 9), .inl (cI, 40, .inl fNS)), ((ma 13), .inl (cI, 40, .inl fBs)), ((ma 15), .inl (cI, 40, .inl fEs))])) (va_Qi (fun (r : Int32) (u : Unit) => (8 ≤ r.toInt ∧ r.toInt ≤ 70)) (fun (u : Unit) (t : State) => match u with | () => va_P D CL [(h0, .inr (11, MO ma sv_thrown sv_length sv_nodes sv_many sv_directories sv_runsFrom sv_runs sv_read sv_wrong sv_isNamed sv_goes sv_goesSize sv_goesAt sv_targetParts sv_isRoot)), ((ma 1), .inl (cI, 40, .inl fK)), ((ma 9), .inl (cI, 40, .inl fNS)), ((ma 13), .inl (cI, 40, .inl fBs)), ((ma 15), .inl (cI, 40, .inl fEs))] t.heap ∧ va_D (va_A [(h0, .inr (11, MO ma sv_thrown sv_length sv_nodes sv_many sv_directories sv_runsFrom sv_runs sv_read sv_wrong sv_isNamed sv_goes sv_goesSize sv_goesAt sv_targetParts sv_isRoot)), ((ma 1), .inl (cI, 40, .inl fK)), ((ma 9), .inl (cI, 40, .inl fNS)), ((ma 13), .inl (cI, 40, .inl fBs)), ((ma 15), .inl (cI, 40, .inl fEs))] sz) [(h0, .inr (11, MO ma sv_thrown sv_length sv_nodes sv_many sv_directories sv_runsFrom sv_runs sv_read sv_wrong sv_isNamed sv_goes sv_goesSize sv_goesAt sv_targetParts sv_isRoot)), ((ma 1), .inl (cI, 40, .inl fK)), ((ma 9), .inl (cI, 40, .inl fNS)), ((ma 13), .inl (cI, 40, .inl fBs)), ((ma 15), .inl (cI, 40, .inl fEs))]) (va_A [(h0, .inr (11, MO ma sv_thrown sv_length sv_nodes sv_many sv_directories sv_runsFrom sv_runs sv_read sv_wrong sv_isNamed sv_goes sv_goesSize sv_goesAt sv_targetParts sv_isRoot)), ((ma 1), .inl (cI, 40, .inl fK)), ((ma 9), .inl (cI, 40, .inl fNS)), ((ma 13), .inl (cI, 40, .inl fBs)), ((ma 15), .inl (cI, 40, .inl fEs))] sz)) 0 0 (va_A [(h0, .inr (11, MO ma sv_thrown sv_length sv_nodes sv_many sv_directories sv_runsFrom sv_runs sv_read sv_wrong sv_isNamed sv_goes sv_goesSize sv_goesAt sv_targetParts sv_isRoot)), ((ma 1), .inl (cI, 40, .inl fK)), ((ma 9), .inl (cI, 40, .inl fNS)), ((ma 13), .inl (cI, 40, .inl fBs)), ((ma 15), .inl (cI, 40, .inl fEs))] sz) := by
  refine Met.ofW (cc := b_DiscMakerModel_entrySize) (maxL := 4) (ret := some .int) (by decide) rfl ?_
  intro p e s m args below meth c s₁ B hml hv
  obtain ⟨rfl, hsz, hP, hK, hN, hD0⟩ := hv
  have hx := B.exec
  have hb := B.bytes
  have hr := B.returns
  have hts := atoms_spec (ws := w_DiscMakerModel_entrySize) B.pre
  have ht9 := fun (w : Cond) (h : w ∈ lw_g) => hts w (List.mem_cons_of_mem _ h)
  have hown : s.vm.findClass "DiscMakerModel" = some m.cls := findClass_of_methodNamed B.named
  have hlocks := B.notSynchronized
  subst hsz
  have hD := hD0.self (sz := s.heap.size)
  generalize hAe : va_A [(h0, .inr (11, MO ma sv_thrown sv_length sv_nodes sv_many sv_directories sv_runsFrom sv_runs sv_read sv_wrong sv_isNamed sv_goes sv_goesSize sv_goesAt sv_targetParts sv_isRoot)), ((ma 1), .inl (cI, 40, .inl fK)), ((ma 9), .inl (cI, 40, .inl fNS)), ((ma 13), .inl (cI, 40, .inl fBs)), ((ma 15), .inl (cI, 40, .inl fEs))] s.heap.size = A at hD ⊢
  have hA : ∀ q : Nat, s.heap.size ≤ q → A q := fun q h => by rw [← hAe]; exact Or.inr h
  have hS : va_S A s.heap s.heap [] := va_S.rf
  have hP : va_P D CL [(h0, .inr (11, MO ma sv_thrown sv_length sv_nodes sv_many sv_directories sv_runsFrom sv_runs sv_read sv_wrong sv_isNamed sv_goes sv_goesSize sv_goesAt sv_targetParts sv_isRoot)), ((ma 1), .inl (cI, 40, .inl fK)), ((ma 9), .inl (cI, 40, .inl fNS)), ((ma 13), .inl (cI, 40, .inl fBs)), ((ma 15), .inl (cI, 40, .inl fEs))] s.heap := hP
  have hl := lv_entry [.ref h0, .int x, .int y] (n := 4) (Nat.le_of_ble_eq_true rfl)
  rw [lg_entry_eq]
  generalize (lg_sl [.ref h0, .int x, .int y] ++ List.replicate (4 - (lg_sl [.ref h0, .int x, .int y]).length) Slot.unset).toArray = ls at hl ⊢
  have hl : lv_has ls 4 [(0, .ref h0), (1, .int x), (2, .int y)] := hl
  have L_m1 : ((-1) : Int32).toInt = (-1) := by decide
  have L_0 : (0 : Int32).toInt = 0 := by decide
  have L_1 : (1 : Int32).toInt = 1 := by decide
  have L_2 : (2 : Int32).toInt = 2 := by decide
  have L_8 : (8 : Int32).toInt = 8 := by decide
  refine lv_aload_n hx hb d_DiscMakerModel_entrySize_0 rfl (lv_at hl 0 rfl) ?_
  refine lv_iload_n hx hb d_DiscMakerModel_entrySize_1 rfl (lv_at hl 1 rfl) ?_
  refine lv_iload_n hx hb d_DiscMakerModel_entrySize_2 rfl (lv_at hl 2 rfl) ?_
  refine lv_if_ne (tgt := 10) hx hb d_DiscMakerModel_entrySize_3 (by decide) (fun h_9 => ?_) (fun h_9 => ?_)
  · skip
    have g3_4 : ¬ y.toInt = 0 := fun h8 => h_9 ((i_eq rfl (by decide)).mpr h8)
    refine lv_iconst (v := 2) hx hb d_DiscMakerModel_entrySize_10 (by decide) ?_
    refine lv_iload_n hx hb d_DiscMakerModel_entrySize_11 rfl (lv_at hl 2 rfl) ?_
    have hPc := hP.sub (ws' := [(h0, .inr (11, MO ma sv_thrown sv_length sv_nodes sv_many sv_directories sv_runsFrom sv_runs sv_read sv_wrong sv_isNamed sv_goes sv_goesSize sv_goesAt sv_targetParts sv_isRoot)), ((ma 1), .inl (cI, 40, .inl fK)), ((ma 9), .inl (cI, 40, .inl fNS)), ((ma 13), .inl (cI, 40, .inl fBs)), ((ma 15), .inl (cI, 40, .inl fEs))]) [0, 1, 2, 3, 4] rfl
    have hDc := hD.sub (ws' := [(h0, .inr (11, MO ma sv_thrown sv_length sv_nodes sv_many sv_directories sv_runsFrom sv_runs sv_read sv_wrong sv_isNamed sv_goes sv_goesSize sv_goesAt sv_targetParts sv_isRoot)), ((ma 1), .inl (cI, 40, .inl fK)), ((ma 9), .inl (cI, 40, .inl fNS)), ((ma 13), .inl (cI, 40, .inl fBs)), ((ma 15), .inl (cI, 40, .inl fEs))]) [0, 1, 2, 3, 4] (by decide +kernel) rfl
    have hFc := va_free (wc := [(h0, .inr (11, MO ma sv_thrown sv_length sv_nodes sv_many sv_directories sv_runsFrom sv_runs sv_read sv_wrong sv_isNamed sv_goes sv_goesSize sv_goesAt sv_targetParts sv_isRoot)), ((ma 1), .inl (cI, 40, .inl fK)), ((ma 9), .inl (cI, 40, .inl fNS)), ((ma 13), .inl (cI, 40, .inl fBs)), ((ma 15), .inl (cI, 40, .inl fEs))]) hD hS hA [0, 1, 2, 3, 4] rfl
    have hkc : 0 ≤ 0 := by decide
    have hks : 0 ≤ 0 := by decide
    refine va_calli (va_runV (C := "DiscMakerModel") (As := [.int x, .int 2, .int y]) (rest := []) ⟨hx, hb, hml, hown, hts⟩ (m_idSize l D cB cI cJ cZ cN cF s.heap.size h0 ma sv_thrown sv_length sv_nodes sv_many sv_directories sv_runsFrom sv_runs sv_read sv_wrong sv_isNamed sv_goes sv_goesSize sv_goesAt sv_targetParts sv_isRoot fK fNS fBs fEs x 2 y (by (try dsimp only); first | assumption | omega | trivial) (by (try dsimp only); first | assumption | omega | trivial) (by (try dsimp only); first | assumption | omega | trivial) (by (try dsimp only); first | assumption | omega | trivial) (by (try dsimp only); first | assumption | omega | trivial)) (cwV 3 hts (lg_goodV k1699 k1701 k72 k125 kc_DiscMakerModel_idSize) rfl rfl rfl (by decide +kernel) ⟨Nat.le_of_ble_eq_true rfl, Nat.le_of_ble_eq_true rfl⟩) ⟨fun a U g mk q => by obtain ⟨q0, q1, qP, qK, qN, qD⟩ := q; exact ⟨q0, q1, qP, va_K.moved (u := U) (U := U.calling g mk a) (Vm.Alike.refl U.vm) qK, qN.calling, qD⟩, va_recv hK hP (ci := 11) (q0 := 0) rfl rfl, fun U hU hW => ⟨rfl, by rw [hU], by rw [hU]; exact hPc, va_K.moved hW.alike hK, NN.warm hW hN, hDc.weaken (fun _ _ _ _ => trivial)⟩⟩ rfl rfl hl.1 rfl (lv_room (Nat.le_of_ble_eq_true rfl)) d_DiscMakerModel_entrySize_12 ⟨hkc, hks⟩) hS (fun q _ h => hFc q h) hFc (fun r1 u t H1 locs ht hvm hp_r1 hB hz1 hk1 hS => ?_)
    obtain ⟨hP1, hD1⟩ := hB
    rw [ht] at hP1
    obtain ⟨hP, hD⟩ := va_join (wr := []) (w1 := [(h0, .inr (11, MO ma sv_thrown sv_length sv_nodes sv_many sv_directories sv_runsFrom sv_runs sv_read sv_wrong sv_isNamed sv_goes sv_goesSize sv_goesAt sv_targetParts sv_isRoot)), ((ma 1), .inl (cI, 40, .inl fK)), ((ma 9), .inl (cI, 40, .inl fNS)), ((ma 13), .inl (cI, 40, .inl fBs)), ((ma 15), .inl (cI, 40, .inl fEs))]) hP hD [0, 1, 2, 3, 4] [] rfl rfl (by decide +kernel) (by decide +kernel) hk1 hFc hP1 hD1
    clear hPc hDc hFc hP1 hD1 hk1 hz1 hkc hks
    generalize H1 = H at hP hS ⊢
    have hP : va_P D CL [(h0, .inr (11, MO ma sv_thrown sv_length sv_nodes sv_many sv_directories sv_runsFrom sv_runs sv_read sv_wrong sv_isNamed sv_goes sv_goesSize sv_goesAt sv_targetParts sv_isRoot)), ((ma 1), .inl (cI, 40, .inl fK)), ((ma 9), .inl (cI, 40, .inl fNS)), ((ma 13), .inl (cI, 40, .inl fBs)), ((ma 15), .inl (cI, 40, .inl fEs))] H := hP
    have hD : va_D A [(h0, .inr (11, MO ma sv_thrown sv_length sv_nodes sv_many sv_directories sv_runsFrom sv_runs sv_read sv_wrong sv_isNamed sv_goes sv_goesSize sv_goesAt sv_targetParts sv_isRoot)), ((ma 1), .inl (cI, 40, .inl fK)), ((ma 9), .inl (cI, 40, .inl fNS)), ((ma 13), .inl (cI, 40, .inl fBs)), ((ma 15), .inl (cI, 40, .inl fEs))] := hD
    try dsimp only at hp_r1
    obtain ⟨hv_2, hr_3⟩ := hp_r1
    try rw [L_2] at hv_2
    refine lv_istore_n hx hb d_DiscMakerModel_entrySize_15 rfl hl (by decide) rfl (fun ls hl => ?_)
    have hl : lv_has ls 4 [(3, .int r1), (0, .ref h0), (1, .int x), (2, .int y)] := hl
    refine lv_bipush (v := 8) hx hb d_DiscMakerModel_entrySize_16 (by decide) ?_
    refine lv_iload_n hx hb d_DiscMakerModel_entrySize_18 rfl (lv_at hl 0 rfl) ?_
    refine lv_iadd hx hb d_DiscMakerModel_entrySize_19 ?_
    refine lv_topi (fun v4 e_v4 => ?_)
    have t_v4 : v4.toInt = 8 + r1.toInt := by rw [e_v4]; exact i_add (by decide) rfl (by omega) (by omega)
    refine lv_iload_n hx hb d_DiscMakerModel_entrySize_20 rfl (lv_at hl 0 rfl) ?_
    refine lv_iconst (v := 2) hx hb d_DiscMakerModel_entrySize_21 (by decide) ?_
    refine lv_irem hx hb d_DiscMakerModel_entrySize_22 (by decide) ?_
    refine lv_topi (fun v5 e_v5 => ?_)
    have t_v5 : v5.toInt = r1.toInt % 2 := by rw [e_v5]; exact i_rem rfl (by decide) (by omega) (by omega)
    refine lv_iadd hx hb d_DiscMakerModel_entrySize_23 ?_
    refine lv_topi (fun v6 e_v6 => ?_)
    have t_v6 : v6.toInt = v4.toInt + v5.toInt := by rw [e_v6]; exact i_add rfl rfl (by omega) (by omega)
    have hP9 := hP.sub (ws' := [(h0, .inr (11, MO ma sv_thrown sv_length sv_nodes sv_many sv_directories sv_runsFrom sv_runs sv_read sv_wrong sv_isNamed sv_goes sv_goesSize sv_goesAt sv_targetParts sv_isRoot)), ((ma 1), .inl (cI, 40, .inl fK)), ((ma 9), .inl (cI, 40, .inl fNS)), ((ma 13), .inl (cI, 40, .inl fBs)), ((ma 15), .inl (cI, 40, .inl fEs))]) [0, 1, 2, 3, 4] rfl
    have hD9 := hD.sub (ws' := [(h0, .inr (11, MO ma sv_thrown sv_length sv_nodes sv_many sv_directories sv_runsFrom sv_runs sv_read sv_wrong sv_isNamed sv_goes sv_goesSize sv_goesAt sv_targetParts sv_isRoot)), ((ma 1), .inl (cI, 40, .inl fK)), ((ma 9), .inl (cI, 40, .inl fNS)), ((ma 13), .inl (cI, 40, .inl fBs)), ((ma 15), .inl (cI, 40, .inl fEs))]) [0, 1, 2, 3, 4] (by decide +kernel) rfl
    exact W.iret (v := v6) hx hb hr (fun t ht hW => ⟨⟨v6, (), rfl, (by (try dsimp only); first | assumption | omega | trivial), by rw [ht]; exact hP9, hD9⟩, hS.F ht⟩) hS.2.2 d_DiscMakerModel_entrySize_24
  · skip
    have g3_4 : y.toInt = 0 := (i_eq rfl (by decide)).mp h_9
    refine lv_iconst (v := 0) hx hb d_DiscMakerModel_entrySize_6 (by decide) ?_
    refine lv_goto (tgt := 11) hx hb d_DiscMakerModel_entrySize_7 (by decide) ?_
    refine lv_iload_n hx hb d_DiscMakerModel_entrySize_11 rfl (lv_at hl 2 rfl) ?_
    have hPc := hP.sub (ws' := [(h0, .inr (11, MO ma sv_thrown sv_length sv_nodes sv_many sv_directories sv_runsFrom sv_runs sv_read sv_wrong sv_isNamed sv_goes sv_goesSize sv_goesAt sv_targetParts sv_isRoot)), ((ma 1), .inl (cI, 40, .inl fK)), ((ma 9), .inl (cI, 40, .inl fNS)), ((ma 13), .inl (cI, 40, .inl fBs)), ((ma 15), .inl (cI, 40, .inl fEs))]) [0, 1, 2, 3, 4] rfl
    have hDc := hD.sub (ws' := [(h0, .inr (11, MO ma sv_thrown sv_length sv_nodes sv_many sv_directories sv_runsFrom sv_runs sv_read sv_wrong sv_isNamed sv_goes sv_goesSize sv_goesAt sv_targetParts sv_isRoot)), ((ma 1), .inl (cI, 40, .inl fK)), ((ma 9), .inl (cI, 40, .inl fNS)), ((ma 13), .inl (cI, 40, .inl fBs)), ((ma 15), .inl (cI, 40, .inl fEs))]) [0, 1, 2, 3, 4] (by decide +kernel) rfl
    have hFc := va_free (wc := [(h0, .inr (11, MO ma sv_thrown sv_length sv_nodes sv_many sv_directories sv_runsFrom sv_runs sv_read sv_wrong sv_isNamed sv_goes sv_goesSize sv_goesAt sv_targetParts sv_isRoot)), ((ma 1), .inl (cI, 40, .inl fK)), ((ma 9), .inl (cI, 40, .inl fNS)), ((ma 13), .inl (cI, 40, .inl fBs)), ((ma 15), .inl (cI, 40, .inl fEs))]) hD hS hA [0, 1, 2, 3, 4] rfl
    have hkc : 0 ≤ 0 := by decide
    have hks : 0 ≤ 0 := by decide
    refine va_calli (va_runV (C := "DiscMakerModel") (As := [.int x, .int 0, .int y]) (rest := []) ⟨hx, hb, hml, hown, hts⟩ (m_idSize l D cB cI cJ cZ cN cF s.heap.size h0 ma sv_thrown sv_length sv_nodes sv_many sv_directories sv_runsFrom sv_runs sv_read sv_wrong sv_isNamed sv_goes sv_goesSize sv_goesAt sv_targetParts sv_isRoot fK fNS fBs fEs x 0 y (by (try dsimp only); first | assumption | omega | trivial) (by (try dsimp only); first | assumption | omega | trivial) (by (try dsimp only); first | assumption | omega | trivial) (by (try dsimp only); first | assumption | omega | trivial) (by (try dsimp only); first | assumption | omega | trivial)) (cwV 3 hts (lg_goodV k1699 k1701 k72 k125 kc_DiscMakerModel_idSize) rfl rfl rfl (by decide +kernel) ⟨Nat.le_of_ble_eq_true rfl, Nat.le_of_ble_eq_true rfl⟩) ⟨fun a U g mk q => by obtain ⟨q0, q1, qP, qK, qN, qD⟩ := q; exact ⟨q0, q1, qP, va_K.moved (u := U) (U := U.calling g mk a) (Vm.Alike.refl U.vm) qK, qN.calling, qD⟩, va_recv hK hP (ci := 11) (q0 := 0) rfl rfl, fun U hU hW => ⟨rfl, by rw [hU], by rw [hU]; exact hPc, va_K.moved hW.alike hK, NN.warm hW hN, hDc.weaken (fun _ _ _ _ => trivial)⟩⟩ rfl rfl hl.1 rfl (lv_room (Nat.le_of_ble_eq_true rfl)) d_DiscMakerModel_entrySize_12 ⟨hkc, hks⟩) hS (fun q _ h => hFc q h) hFc (fun r7 u t H1 locs ht hvm hp_r7 hB hz1 hk1 hS => ?_)
    obtain ⟨hP1, hD1⟩ := hB
    rw [ht] at hP1
    obtain ⟨hP, hD⟩ := va_join (wr := []) (w1 := [(h0, .inr (11, MO ma sv_thrown sv_length sv_nodes sv_many sv_directories sv_runsFrom sv_runs sv_read sv_wrong sv_isNamed sv_goes sv_goesSize sv_goesAt sv_targetParts sv_isRoot)), ((ma 1), .inl (cI, 40, .inl fK)), ((ma 9), .inl (cI, 40, .inl fNS)), ((ma 13), .inl (cI, 40, .inl fBs)), ((ma 15), .inl (cI, 40, .inl fEs))]) hP hD [0, 1, 2, 3, 4] [] rfl rfl (by decide +kernel) (by decide +kernel) hk1 hFc hP1 hD1
    clear hPc hDc hFc hP1 hD1 hk1 hz1 hkc hks
    generalize H1 = H at hP hS ⊢
    have hP : va_P D CL [(h0, .inr (11, MO ma sv_thrown sv_length sv_nodes sv_many sv_directories sv_runsFrom sv_runs sv_read sv_wrong sv_isNamed sv_goes sv_goesSize sv_goesAt sv_targetParts sv_isRoot)), ((ma 1), .inl (cI, 40, .inl fK)), ((ma 9), .inl (cI, 40, .inl fNS)), ((ma 13), .inl (cI, 40, .inl fBs)), ((ma 15), .inl (cI, 40, .inl fEs))] H := hP
    have hD : va_D A [(h0, .inr (11, MO ma sv_thrown sv_length sv_nodes sv_many sv_directories sv_runsFrom sv_runs sv_read sv_wrong sv_isNamed sv_goes sv_goesSize sv_goesAt sv_targetParts sv_isRoot)), ((ma 1), .inl (cI, 40, .inl fK)), ((ma 9), .inl (cI, 40, .inl fNS)), ((ma 13), .inl (cI, 40, .inl fBs)), ((ma 15), .inl (cI, 40, .inl fEs))] := hD
    try dsimp only at hp_r7
    obtain ⟨hv_8, hr_9⟩ := hp_r7
    try rw [L_0] at hv_8
    refine lv_istore_n hx hb d_DiscMakerModel_entrySize_15 rfl hl (by decide) rfl (fun ls hl => ?_)
    have hl : lv_has ls 4 [(3, .int r7), (0, .ref h0), (1, .int x), (2, .int y)] := hl
    refine lv_bipush (v := 8) hx hb d_DiscMakerModel_entrySize_16 (by decide) ?_
    refine lv_iload_n hx hb d_DiscMakerModel_entrySize_18 rfl (lv_at hl 0 rfl) ?_
    refine lv_iadd hx hb d_DiscMakerModel_entrySize_19 ?_
    refine lv_topi (fun v10 e_v10 => ?_)
    have t_v10 : v10.toInt = 8 + r7.toInt := by rw [e_v10]; exact i_add (by decide) rfl (by omega) (by omega)
    refine lv_iload_n hx hb d_DiscMakerModel_entrySize_20 rfl (lv_at hl 0 rfl) ?_
    refine lv_iconst (v := 2) hx hb d_DiscMakerModel_entrySize_21 (by decide) ?_
    refine lv_irem hx hb d_DiscMakerModel_entrySize_22 (by decide) ?_
    refine lv_topi (fun v11 e_v11 => ?_)
    have t_v11 : v11.toInt = r7.toInt % 2 := by rw [e_v11]; exact i_rem rfl (by decide) (by omega) (by omega)
    refine lv_iadd hx hb d_DiscMakerModel_entrySize_23 ?_
    refine lv_topi (fun v12 e_v12 => ?_)
    have t_v12 : v12.toInt = v10.toInt + v11.toInt := by rw [e_v12]; exact i_add rfl rfl (by omega) (by omega)
    have hP9 := hP.sub (ws' := [(h0, .inr (11, MO ma sv_thrown sv_length sv_nodes sv_many sv_directories sv_runsFrom sv_runs sv_read sv_wrong sv_isNamed sv_goes sv_goesSize sv_goesAt sv_targetParts sv_isRoot)), ((ma 1), .inl (cI, 40, .inl fK)), ((ma 9), .inl (cI, 40, .inl fNS)), ((ma 13), .inl (cI, 40, .inl fBs)), ((ma 15), .inl (cI, 40, .inl fEs))]) [0, 1, 2, 3, 4] rfl
    have hD9 := hD.sub (ws' := [(h0, .inr (11, MO ma sv_thrown sv_length sv_nodes sv_many sv_directories sv_runsFrom sv_runs sv_read sv_wrong sv_isNamed sv_goes sv_goesSize sv_goesAt sv_targetParts sv_isRoot)), ((ma 1), .inl (cI, 40, .inl fK)), ((ma 9), .inl (cI, 40, .inl fNS)), ((ma 13), .inl (cI, 40, .inl fBs)), ((ma 15), .inl (cI, 40, .inl fEs))]) [0, 1, 2, 3, 4] (by decide +kernel) rfl
    exact W.iret (v := v12) hx hb hr (fun t ht hW => ⟨⟨v12, (), rfl, (by (try dsimp only); first | assumption | omega | trivial), by rw [ht]; exact hP9, hD9⟩, hS.F ht⟩) hS.2.2 d_DiscMakerModel_entrySize_24

theorem d_DiscMakerModel_tableSize_0 : decode b_DiscMakerModel_tableSize 0 = .ok (.iconst 0, 1) := by decide +kernel
theorem d_DiscMakerModel_tableSize_1 : decode b_DiscMakerModel_tableSize 1 = .ok (.istore_n 2, 1) := by decide +kernel
theorem d_DiscMakerModel_tableSize_2 : decode b_DiscMakerModel_tableSize 2 = .ok (.iconst 0, 1) := by decide +kernel
theorem d_DiscMakerModel_tableSize_3 : decode b_DiscMakerModel_tableSize 3 = .ok (.istore_n 3, 1) := by decide +kernel
theorem d_DiscMakerModel_tableSize_4 : decode b_DiscMakerModel_tableSize 4 = .ok (.iload_n 3, 1) := by decide +kernel
theorem d_DiscMakerModel_tableSize_5 : decode b_DiscMakerModel_tableSize 5 = .ok (.aload_n 0, 1) := by decide +kernel
theorem d_DiscMakerModel_tableSize_6 : decode b_DiscMakerModel_tableSize 6 = .ok (.getfield 185, 3) := by decide +kernel
theorem d_DiscMakerModel_tableSize_9 : decode b_DiscMakerModel_tableSize 9 = .ok (.if_icmp .ge 28, 3) := by decide +kernel
theorem d_DiscMakerModel_tableSize_12 : decode b_DiscMakerModel_tableSize 12 = .ok (.iload_n 2, 1) := by decide +kernel
theorem d_DiscMakerModel_tableSize_13 : decode b_DiscMakerModel_tableSize 13 = .ok (.aload_n 0, 1) := by decide +kernel
theorem d_DiscMakerModel_tableSize_14 : decode b_DiscMakerModel_tableSize 14 = .ok (.iload_n 1, 1) := by decide +kernel
theorem d_DiscMakerModel_tableSize_15 : decode b_DiscMakerModel_tableSize 15 = .ok (.aload_n 0, 1) := by decide +kernel
theorem d_DiscMakerModel_tableSize_16 : decode b_DiscMakerModel_tableSize 16 = .ok (.getfield 64, 3) := by decide +kernel
theorem d_DiscMakerModel_tableSize_19 : decode b_DiscMakerModel_tableSize 19 = .ok (.bipush 12, 2) := by decide +kernel
theorem d_DiscMakerModel_tableSize_21 : decode b_DiscMakerModel_tableSize 21 = .ok (.iload_n 1, 1) := by decide +kernel
theorem d_DiscMakerModel_tableSize_22 : decode b_DiscMakerModel_tableSize 22 = .ok (.imul, 1) := by decide +kernel
theorem d_DiscMakerModel_tableSize_23 : decode b_DiscMakerModel_tableSize 23 = .ok (.iload_n 3, 1) := by decide +kernel
theorem d_DiscMakerModel_tableSize_24 : decode b_DiscMakerModel_tableSize 24 = .ok (.iadd, 1) := by decide +kernel
theorem d_DiscMakerModel_tableSize_25 : decode b_DiscMakerModel_tableSize 25 = .ok (.iaload, 1) := by decide +kernel
theorem d_DiscMakerModel_tableSize_26 : decode b_DiscMakerModel_tableSize 26 = .ok (.invokevirtual 291, 3) := by decide +kernel
theorem d_DiscMakerModel_tableSize_29 : decode b_DiscMakerModel_tableSize 29 = .ok (.iadd, 1) := by decide +kernel
theorem d_DiscMakerModel_tableSize_30 : decode b_DiscMakerModel_tableSize 30 = .ok (.istore_n 2, 1) := by decide +kernel
theorem d_DiscMakerModel_tableSize_31 : decode b_DiscMakerModel_tableSize 31 = .ok (.iinc 3 1, 3) := by decide +kernel
theorem d_DiscMakerModel_tableSize_34 : decode b_DiscMakerModel_tableSize 34 = .ok (.goto (-30), 3) := by decide +kernel
theorem d_DiscMakerModel_tableSize_37 : decode b_DiscMakerModel_tableSize 37 = .ok (.iload_n 2, 1) := by decide +kernel
theorem d_DiscMakerModel_tableSize_38 : decode b_DiscMakerModel_tableSize 38 = .ok (.ireturn, 1) := by decide +kernel
set_option maxHeartbeats 4000000 in
set_option maxRecDepth 100000 in
theorem m_tableSize (l : Launch) (D : va_G) (cB cI cJ cZ cN cF : ClassId) (sz : Nat) (h0 : Nat) (ma : Nat → Nat) (sv_thrown sv_length sv_nodes sv_many sv_directories sv_runsFrom sv_runs sv_read sv_wrong sv_isNamed sv_goes sv_goesSize sv_goesAt sv_targetParts sv_isRoot : Int32) (fK : Nat → Int32) (fNS : Nat → Int32) (fBs : Nat → Int32) (fEs : Nat → Int32) (fTb : Nat → Int32) (x : Int32) (hx0 : 0 ≤ x.toInt ∧ x.toInt ≤ 1) (hdr : 0 ≤ sv_directories.toInt ∧ sv_directories.toInt ≤ 12) (htb : ∀ j : Nat, (j : Int) < sv_directories.toInt → 0 ≤ tbv fTb x.toNatClampNeg j ∧ tbv fTb x.toNatClampNeg j < 40) (hKi : Rg 0 2 40 fK) (hNS : Rg 0 30 40 fNS) (hBs : Rg 0 8 40 fBs) (hEs : Rg 0 3 40 fEs) : Met l y_DiscMakerModel_tableSize w_DiscMakerModel_tableSize ({ frames := 2, cells := 0, slots := 0, locals := 46 }) (va_Pc [.ref h0, .int x] (fun U => U.heap.size = sz ∧ va_P D CL [(h0, .inr (11, MO ma sv_thrown sv_length sv_nodes sv_many sv_directories sv_runsFrom sv_runs sv_read sv_wrong sv_isNamed sv_goes sv_goesSize sv_goesAt sv_targetParts sv_isRoot)), ((ma 1), .inl (cI, 40, .inl fK)), ((ma 9), .inl (cI, 40, .inl fNS)), ((ma 13), .inl (cI, 40, .inl fBs)), ((ma 15), .inl (cI, 40, .inl fEs)), ((ma 17), .inl (cI, 24, .inl fTb))] U.heap ∧ va_K D CL (TY cB cI cJ cZ cN cF) U ∧ NN U ∧ va_D (fun _ => True) [(h0, .inr (11, MO ma sv_thrown sv_length sv_nodes sv_many sv_directories sv_runsFrom sv_runs sv_read sv_wrong sv_isNamed sv_goes sv_goesSize sv_goesAt sv_targetParts sv_isRoot)), ((ma 1), .inl (cI, 40, .inl fK)), ((ma 9), .inl (cI, 40, .inl fNS)), ((ma 13), .inl (cI, 40, .inl fBs)), ((ma 15), .inl (cI, 40, .inl fEs)), ((ma 17), .inl (cI, 24, .inl fTb))])) (va_Qi (fun (r : Int32) (u : Unit) => (0 ≤ r.toInt ∧ r.toInt ≤ 840)) (fun (u : Unit) (t : State) => match u with | () => va_P D CL [(h0, .inr (11, MO ma sv_thrown sv_length sv_nodes sv_many sv_directories sv_runsFrom sv_runs sv_read sv_wrong sv_isNamed sv_goes sv_goesSize sv_goesAt sv_targetParts sv_isRoot)), ((ma 1), .inl (cI, 40, .inl fK)), ((ma 9), .inl (cI, 40, .inl fNS)), ((ma 13), .inl (cI, 40, .inl fBs)), ((ma 15), .inl (cI, 40, .inl fEs)), ((ma 17), .inl (cI, 24, .inl fTb))] t.heap ∧ va_D (va_A [(h0, .inr (11, MO ma sv_thrown sv_length sv_nodes sv_many sv_directories sv_runsFrom sv_runs sv_read sv_wrong sv_isNamed sv_goes sv_goesSize sv_goesAt sv_targetParts sv_isRoot)), ((ma 1), .inl (cI, 40, .inl fK)), ((ma 9), .inl (cI, 40, .inl fNS)), ((ma 13), .inl (cI, 40, .inl fBs)), ((ma 15), .inl (cI, 40, .inl fEs)), ((ma 17), .inl (cI, 24, .inl fTb))] sz) [(h0, .inr (11, MO ma sv_thrown sv_length sv_nodes sv_many sv_directories sv_runsFrom sv_runs sv_read sv_wrong sv_isNamed sv_goes sv_goesSize sv_goesAt sv_targetParts sv_isRoot)), ((ma 1), .inl (cI, 40, .inl fK)), ((ma 9), .inl (cI, 40, .inl fNS)), ((ma 13), .inl (cI, 40, .inl fBs)), ((ma 15), .inl (cI, 40, .inl fEs)), ((ma 17), .inl (cI, 24, .inl fTb))]) (va_A [(h0, .inr (11, MO ma sv_thrown sv_length sv_nodes sv_many sv_directories sv_runsFrom sv_runs sv_read sv_wrong sv_isNamed sv_goes sv_goesSize sv_goesAt sv_targetParts sv_isRoot)), ((ma 1), .inl (cI, 40, .inl fK)), ((ma 9), .inl (cI, 40, .inl fNS)), ((ma 13), .inl (cI, 40, .inl fBs)), ((ma 15), .inl (cI, 40, .inl fEs)), ((ma 17), .inl (cI, 24, .inl fTb))] sz)) 0 0 (va_A [(h0, .inr (11, MO ma sv_thrown sv_length sv_nodes sv_many sv_directories sv_runsFrom sv_runs sv_read sv_wrong sv_isNamed sv_goes sv_goesSize sv_goesAt sv_targetParts sv_isRoot)), ((ma 1), .inl (cI, 40, .inl fK)), ((ma 9), .inl (cI, 40, .inl fNS)), ((ma 13), .inl (cI, 40, .inl fBs)), ((ma 15), .inl (cI, 40, .inl fEs)), ((ma 17), .inl (cI, 24, .inl fTb))] sz) := by
  refine Met.ofW (cc := b_DiscMakerModel_tableSize) (maxL := 4) (ret := some .int) (by decide) rfl ?_
  intro p e s m args below meth c s₁ B hml hv
  obtain ⟨rfl, hsz, hP, hK, hN, hD0⟩ := hv
  have hx := B.exec
  have hb := B.bytes
  have hr := B.returns
  have hts := atoms_spec (ws := w_DiscMakerModel_tableSize) B.pre
  have ht9 := fun (w : Cond) (h : w ∈ lw_g) => hts w (List.mem_cons_of_mem _ h)
  have hown : s.vm.findClass "DiscMakerModel" = some m.cls := findClass_of_methodNamed B.named
  have hlocks := B.notSynchronized
  subst hsz
  have hD := hD0.self (sz := s.heap.size)
  generalize hAe : va_A [(h0, .inr (11, MO ma sv_thrown sv_length sv_nodes sv_many sv_directories sv_runsFrom sv_runs sv_read sv_wrong sv_isNamed sv_goes sv_goesSize sv_goesAt sv_targetParts sv_isRoot)), ((ma 1), .inl (cI, 40, .inl fK)), ((ma 9), .inl (cI, 40, .inl fNS)), ((ma 13), .inl (cI, 40, .inl fBs)), ((ma 15), .inl (cI, 40, .inl fEs)), ((ma 17), .inl (cI, 24, .inl fTb))] s.heap.size = A at hD ⊢
  have hA : ∀ q : Nat, s.heap.size ≤ q → A q := fun q h => by rw [← hAe]; exact Or.inr h
  have hS : va_S A s.heap s.heap [] := va_S.rf
  have hP : va_P D CL [(h0, .inr (11, MO ma sv_thrown sv_length sv_nodes sv_many sv_directories sv_runsFrom sv_runs sv_read sv_wrong sv_isNamed sv_goes sv_goesSize sv_goesAt sv_targetParts sv_isRoot)), ((ma 1), .inl (cI, 40, .inl fK)), ((ma 9), .inl (cI, 40, .inl fNS)), ((ma 13), .inl (cI, 40, .inl fBs)), ((ma 15), .inl (cI, 40, .inl fEs)), ((ma 17), .inl (cI, 24, .inl fTb))] s.heap := hP
  have hl := lv_entry [.ref h0, .int x] (n := 4) (Nat.le_of_ble_eq_true rfl)
  rw [lg_entry_eq]
  generalize (lg_sl [.ref h0, .int x] ++ List.replicate (4 - (lg_sl [.ref h0, .int x]).length) Slot.unset).toArray = ls at hl ⊢
  have hl : lv_has ls 4 [(0, .ref h0), (1, .int x)] := hl
  have L_m1 : ((-1) : Int32).toInt = (-1) := by decide
  have L_0 : (0 : Int32).toInt = 0 := by decide
  have L_1 : (1 : Int32).toInt = 1 := by decide
  have L_12 : (12 : Int32).toInt = 12 := by decide
  have hxc := i_cl (a := x) (by omega)
  refine lv_iconst (v := 0) hx hb d_DiscMakerModel_tableSize_0 (by decide) ?_
  refine lv_istore_n hx hb d_DiscMakerModel_tableSize_1 rfl hl (by decide) rfl (fun ls hl => ?_)
  have hl : lv_has ls 4 [(2, .int 0), (0, .ref h0), (1, .int x)] := hl
  refine lv_iconst (v := 0) hx hb d_DiscMakerModel_tableSize_2 (by decide) ?_
  refine lv_istore_n hx hb d_DiscMakerModel_tableSize_3 rfl hl (by decide) rfl (fun ls hl => ?_)
  have hl : lv_has ls 4 [(3, .int 0), (2, .int 0), (0, .ref h0), (1, .int x)] := hl
  refine zz_labM (B := fun (lk : Nat) (K : Heap → List Loc → Array Slot → List Value → Prop) => ∀ (nn : Int32) (ki : Int32) (H : Heap) (locs : List Loc) (ls : Array Slot), lk = (12 - ki.toInt).toNat → (0 ≤ ki.toInt ∧ ki.toInt ≤ sv_directories.toInt) → (0 ≤ nn.toInt ∧ nn.toInt ≤ 70 * ki.toInt) → va_P D CL [(h0, .inr (11, MO ma sv_thrown sv_length sv_nodes sv_many sv_directories sv_runsFrom sv_runs sv_read sv_wrong sv_isNamed sv_goes sv_goesSize sv_goesAt sv_targetParts sv_isRoot)), ((ma 1), .inl (cI, 40, .inl fK)), ((ma 9), .inl (cI, 40, .inl fNS)), ((ma 13), .inl (cI, 40, .inl fBs)), ((ma 15), .inl (cI, 40, .inl fEs)), ((ma 17), .inl (cI, 24, .inl fTb))] H → va_D A [(h0, .inr (11, MO ma sv_thrown sv_length sv_nodes sv_many sv_directories sv_runsFrom sv_runs sv_read sv_wrong sv_isNamed sv_goes sv_goesSize sv_goesAt sv_targetParts sv_isRoot)), ((ma 1), .inl (cI, 40, .inl fK)), ((ma 9), .inl (cI, 40, .inl fNS)), ((ma 13), .inl (cI, 40, .inl fBs)), ((ma 15), .inl (cI, 40, .inl fEs)), ((ma 17), .inl (cI, 24, .inl fTb))] → va_S A s.heap H locs → lv_has ls 4 [(0, .ref h0), (1, .int x), (2, .int nn), (3, .int ki)] → K H locs ls []) 4 ?_ ?_
  · skip
    intro lk ih4 nn ki H locs ls hm4 f1 f2 hP hD hS hl
    have hkc := i_cl (a := ki) (by omega)
    refine lv_iload_n hx hb d_DiscMakerModel_tableSize_4 rfl (lv_at hl 3 rfl) ?_
    refine lv_aload_n hx hb d_DiscMakerModel_tableSize_5 rfl (lv_at hl 0 rfl) ?_
    refine va_get (D := D) (ci := 11) (v := .int sv_directories) (C := "DiscMakerModel") (T := F_DiscMakerModel) (N := 48) hx hb ht9 in_DiscMakerModel hown hK hP 0 rfl rfl 25 (by decide) (ht9 _ k1456) (fun _ h9 => h9) rfl d_DiscMakerModel_tableSize_6 ?_
    refine lv_icmp_ge (tgt := 37) hx hb d_DiscMakerModel_tableSize_9 (by decide) (fun h_9 => ?_) (fun h_9 => ?_)
    · skip
      have g9_8 : sv_directories.toInt ≤ ki.toInt := (i_le rfl rfl).mp h_9
      refine lv_iload_n hx hb d_DiscMakerModel_tableSize_37 rfl (lv_at hl 2 rfl) ?_
      have hP9 := hP.sub (ws' := [(h0, .inr (11, MO ma sv_thrown sv_length sv_nodes sv_many sv_directories sv_runsFrom sv_runs sv_read sv_wrong sv_isNamed sv_goes sv_goesSize sv_goesAt sv_targetParts sv_isRoot)), ((ma 1), .inl (cI, 40, .inl fK)), ((ma 9), .inl (cI, 40, .inl fNS)), ((ma 13), .inl (cI, 40, .inl fBs)), ((ma 15), .inl (cI, 40, .inl fEs)), ((ma 17), .inl (cI, 24, .inl fTb))]) [0, 1, 2, 3, 4, 5] rfl
      have hD9 := hD.sub (ws' := [(h0, .inr (11, MO ma sv_thrown sv_length sv_nodes sv_many sv_directories sv_runsFrom sv_runs sv_read sv_wrong sv_isNamed sv_goes sv_goesSize sv_goesAt sv_targetParts sv_isRoot)), ((ma 1), .inl (cI, 40, .inl fK)), ((ma 9), .inl (cI, 40, .inl fNS)), ((ma 13), .inl (cI, 40, .inl fBs)), ((ma 15), .inl (cI, 40, .inl fEs)), ((ma 17), .inl (cI, 24, .inl fTb))]) [0, 1, 2, 3, 4, 5] (by decide +kernel) rfl
      exact W.iret (v := nn) hx hb hr (fun t ht hW => ⟨⟨nn, (), rfl, (by (try dsimp only); first | assumption | omega | trivial), by rw [ht]; exact hP9, hD9⟩, hS.F ht⟩) hS.2.2 d_DiscMakerModel_tableSize_38
    · skip
      have g9_8 : ¬ sv_directories.toInt ≤ ki.toInt := fun h8 => h_9 ((i_le rfl rfl).mpr h8)
      refine lv_iload_n hx hb d_DiscMakerModel_tableSize_12 rfl (lv_at hl 2 rfl) ?_
      refine lv_aload_n hx hb d_DiscMakerModel_tableSize_13 rfl (lv_at hl 0 rfl) ?_
      refine lv_iload_n hx hb d_DiscMakerModel_tableSize_14 rfl (lv_at hl 1 rfl) ?_
      refine lv_aload_n hx hb d_DiscMakerModel_tableSize_15 rfl (lv_at hl 0 rfl) ?_
      refine va_get (D := D) (ci := 11) (v := .ref (ma 17)) (C := "DiscMakerModel") (T := F_DiscMakerModel) (N := 48) hx hb ht9 in_DiscMakerModel hown hK hP 0 rfl rfl 21 (by decide) (ht9 _ k1452) (fun _ h9 => h9) rfl d_DiscMakerModel_tableSize_16 ?_
      refine lv_bipush (v := 12) hx hb d_DiscMakerModel_tableSize_19 (by decide) ?_
      refine lv_iload_n hx hb d_DiscMakerModel_tableSize_21 rfl (lv_at hl 1 rfl) ?_
      refine lv_imul hx hb d_DiscMakerModel_tableSize_22 ?_
      refine lv_topi (fun v1 e_v1 => ?_)
      have t_v1 : v1.toInt = 12 * x.toInt := by rw [e_v1]; exact i_mul (by decide) rfl (by omega) (by omega)
      refine lv_iload_n hx hb d_DiscMakerModel_tableSize_23 rfl (lv_at hl 3 rfl) ?_
      refine lv_iadd hx hb d_DiscMakerModel_tableSize_24 ?_
      refine lv_topi (fun v2 e_v2 => ?_)
      have t_v2 : v2.toInt = v1.toInt + ki.toInt := by rw [e_v2]; exact i_add rfl rfl (by omega) (by omega)
      refine va_iald hx hb hK hP 5 1 rfl rfl (vp_in_iff.mpr ⟨by omega, by omega⟩) d_DiscMakerModel_tableSize_25 ?_
      refine lv_topi (fun v3 e_v3 => ?_)
      have c_v3 := i_cl (a := v2) (by omega)
      have e2_v3 : v3 = fTb (12 * x.toNatClampNeg + ki.toNatClampNeg) := by rw [e_v3, show v2.toNatClampNeg = 12 * x.toNatClampNeg + ki.toNatClampNeg by omega]
      have qtv3 := htb ki.toNatClampNeg (by omega)
      unfold tbv at qtv3
      rw [← e2_v3] at qtv3
      have hPc := hP.sub (ws' := [(h0, .inr (11, MO ma sv_thrown sv_length sv_nodes sv_many sv_directories sv_runsFrom sv_runs sv_read sv_wrong sv_isNamed sv_goes sv_goesSize sv_goesAt sv_targetParts sv_isRoot)), ((ma 1), .inl (cI, 40, .inl fK)), ((ma 9), .inl (cI, 40, .inl fNS)), ((ma 13), .inl (cI, 40, .inl fBs)), ((ma 15), .inl (cI, 40, .inl fEs))]) [0, 1, 2, 3, 4] rfl
      have hDc := hD.sub (ws' := [(h0, .inr (11, MO ma sv_thrown sv_length sv_nodes sv_many sv_directories sv_runsFrom sv_runs sv_read sv_wrong sv_isNamed sv_goes sv_goesSize sv_goesAt sv_targetParts sv_isRoot)), ((ma 1), .inl (cI, 40, .inl fK)), ((ma 9), .inl (cI, 40, .inl fNS)), ((ma 13), .inl (cI, 40, .inl fBs)), ((ma 15), .inl (cI, 40, .inl fEs))]) [0, 1, 2, 3, 4] (by decide +kernel) rfl
      have hFc := va_free (wc := [(h0, .inr (11, MO ma sv_thrown sv_length sv_nodes sv_many sv_directories sv_runsFrom sv_runs sv_read sv_wrong sv_isNamed sv_goes sv_goesSize sv_goesAt sv_targetParts sv_isRoot)), ((ma 1), .inl (cI, 40, .inl fK)), ((ma 9), .inl (cI, 40, .inl fNS)), ((ma 13), .inl (cI, 40, .inl fBs)), ((ma 15), .inl (cI, 40, .inl fEs))]) hD hS hA [0, 1, 2, 3, 4] rfl
      have hkc : 0 ≤ 0 := by decide
      have hks : 0 ≤ 0 := by decide
      refine va_calli (va_runV (C := "DiscMakerModel") (As := [.int x, .int v3]) (rest := [.int nn]) ⟨hx, hb, hml, hown, hts⟩ (m_entrySize l D cB cI cJ cZ cN cF H.size h0 ma sv_thrown sv_length sv_nodes sv_many sv_directories sv_runsFrom sv_runs sv_read sv_wrong sv_isNamed sv_goes sv_goesSize sv_goesAt sv_targetParts sv_isRoot fK fNS fBs fEs x v3 (by (try dsimp only); first | assumption | omega | trivial) (by (try dsimp only); first | assumption | omega | trivial) (by (try dsimp only); first | assumption | omega | trivial) (by (try dsimp only); first | assumption | omega | trivial) (by (try dsimp only); first | assumption | omega | trivial)) (cwV 2 hts (lg_goodV k1785 k1787 k91 k125 kc_DiscMakerModel_entrySize) rfl rfl rfl (by decide +kernel) ⟨Nat.le_of_ble_eq_true rfl, Nat.le_of_ble_eq_true rfl⟩) ⟨fun a U g mk q => by obtain ⟨q0, q1, qP, qK, qN, qD⟩ := q; exact ⟨q0, q1, qP, va_K.moved (u := U) (U := U.calling g mk a) (Vm.Alike.refl U.vm) qK, qN.calling, qD⟩, va_recv hK hP (ci := 11) (q0 := 0) rfl rfl, fun U hU hW => ⟨rfl, by rw [hU], by rw [hU]; exact hPc, va_K.moved hW.alike hK, NN.warm hW hN, hDc.weaken (fun _ _ _ _ => trivial)⟩⟩ rfl rfl hl.1 rfl (lv_room (Nat.le_of_ble_eq_true rfl)) d_DiscMakerModel_tableSize_26 ⟨hkc, hks⟩) hS (fun q _ h => hFc q h) hFc (fun r4 u t H1 locs ht hvm hp_r4 hB hz1 hk1 hS => ?_)
      obtain ⟨hP1, hD1⟩ := hB
      rw [ht] at hP1
      obtain ⟨hP, hD⟩ := va_join (wr := [((ma 17), .inl (cI, 24, .inl fTb))]) (w1 := [(h0, .inr (11, MO ma sv_thrown sv_length sv_nodes sv_many sv_directories sv_runsFrom sv_runs sv_read sv_wrong sv_isNamed sv_goes sv_goesSize sv_goesAt sv_targetParts sv_isRoot)), ((ma 1), .inl (cI, 40, .inl fK)), ((ma 9), .inl (cI, 40, .inl fNS)), ((ma 13), .inl (cI, 40, .inl fBs)), ((ma 15), .inl (cI, 40, .inl fEs))]) hP hD [0, 1, 2, 3, 4] [5] rfl rfl (by decide +kernel) (by decide +kernel) hk1 hFc hP1 hD1
      clear hPc hDc hFc hP1 hD1 hk1 hz1 hkc hks
      generalize H1 = H at hP hS ⊢
      have hP : va_P D CL [((ma 17), .inl (cI, 24, .inl fTb)), (h0, .inr (11, MO ma sv_thrown sv_length sv_nodes sv_many sv_directories sv_runsFrom sv_runs sv_read sv_wrong sv_isNamed sv_goes sv_goesSize sv_goesAt sv_targetParts sv_isRoot)), ((ma 1), .inl (cI, 40, .inl fK)), ((ma 9), .inl (cI, 40, .inl fNS)), ((ma 13), .inl (cI, 40, .inl fBs)), ((ma 15), .inl (cI, 40, .inl fEs))] H := hP
      have hD : va_D A [((ma 17), .inl (cI, 24, .inl fTb)), (h0, .inr (11, MO ma sv_thrown sv_length sv_nodes sv_many sv_directories sv_runsFrom sv_runs sv_read sv_wrong sv_isNamed sv_goes sv_goesSize sv_goesAt sv_targetParts sv_isRoot)), ((ma 1), .inl (cI, 40, .inl fK)), ((ma 9), .inl (cI, 40, .inl fNS)), ((ma 13), .inl (cI, 40, .inl fBs)), ((ma 15), .inl (cI, 40, .inl fEs))] := hD
      try dsimp only at hp_r4
      have hr_5 := hp_r4
      refine lv_iadd hx hb d_DiscMakerModel_tableSize_29 ?_
      refine lv_topi (fun v6 e_v6 => ?_)
      have t_v6 : v6.toInt = nn.toInt + r4.toInt := by rw [e_v6]; exact i_add rfl rfl (by omega) (by omega)
      refine lv_istore_n hx hb d_DiscMakerModel_tableSize_30 rfl hl (by decide) rfl (fun ls hl => ?_)
      have hl : lv_has ls 4 [(2, .int v6), (0, .ref h0), (1, .int x), (3, .int ki)] := hl
      obtain ⟨v7, e_v7⟩ : ∃ z : Int32, z = ki + 1 := ⟨_, rfl⟩
      refine lv_iinc (v := v7) hx hb d_DiscMakerModel_tableSize_31 hl (k := 3) rfl e_v7.symm (by decide +kernel) rfl (fun ls hl => ?_)
      have t_v7 : v7.toInt = ki.toInt + 1 := by rw [e_v7]; exact i_add rfl (by decide) (by omega) (by omega)
      have hl : lv_has ls 4 [(3, .int v7), (2, .int v6), (0, .ref h0), (1, .int x)] := hl
      refine lv_goto (tgt := 4) hx hb d_DiscMakerModel_tableSize_34 (by decide) ?_
      have hP := hP.sub (ws' := [(h0, .inr (11, MO ma sv_thrown sv_length sv_nodes sv_many sv_directories sv_runsFrom sv_runs sv_read sv_wrong sv_isNamed sv_goes sv_goesSize sv_goesAt sv_targetParts sv_isRoot)), ((ma 1), .inl (cI, 40, .inl fK)), ((ma 9), .inl (cI, 40, .inl fNS)), ((ma 13), .inl (cI, 40, .inl fBs)), ((ma 15), .inl (cI, 40, .inl fEs)), ((ma 17), .inl (cI, 24, .inl fTb))]) [1, 2, 3, 4, 5, 0] rfl
      have hD := hD.sub (ws' := [(h0, .inr (11, MO ma sv_thrown sv_length sv_nodes sv_many sv_directories sv_runsFrom sv_runs sv_read sv_wrong sv_isNamed sv_goes sv_goesSize sv_goesAt sv_targetParts sv_isRoot)), ((ma 1), .inl (cI, 40, .inl fK)), ((ma 9), .inl (cI, 40, .inl fNS)), ((ma 13), .inl (cI, 40, .inl fBs)), ((ma 15), .inl (cI, 40, .inl fEs)), ((ma 17), .inl (cI, 24, .inl fTb))]) [1, 2, 3, 4, 5, 0] (by decide +kernel) rfl
      have hl := lv_sub hl [2, 3, 1, 0] rfl
      exact ih4 _ (by first | omega | (dsimp only; omega)) v6 v7 _ _ _ rfl ((by (try dsimp only); first | assumption | omega | trivial)) ((by (try dsimp only); first | assumption | omega | trivial)) hP hD hS hl
  · skip
    intro kk4
    have hP := hP.sub (ws' := [(h0, .inr (11, MO ma sv_thrown sv_length sv_nodes sv_many sv_directories sv_runsFrom sv_runs sv_read sv_wrong sv_isNamed sv_goes sv_goesSize sv_goesAt sv_targetParts sv_isRoot)), ((ma 1), .inl (cI, 40, .inl fK)), ((ma 9), .inl (cI, 40, .inl fNS)), ((ma 13), .inl (cI, 40, .inl fBs)), ((ma 15), .inl (cI, 40, .inl fEs)), ((ma 17), .inl (cI, 24, .inl fTb))]) [0, 1, 2, 3, 4, 5] rfl
    have hD := hD.sub (ws' := [(h0, .inr (11, MO ma sv_thrown sv_length sv_nodes sv_many sv_directories sv_runsFrom sv_runs sv_read sv_wrong sv_isNamed sv_goes sv_goesSize sv_goesAt sv_targetParts sv_isRoot)), ((ma 1), .inl (cI, 40, .inl fK)), ((ma 9), .inl (cI, 40, .inl fNS)), ((ma 13), .inl (cI, 40, .inl fBs)), ((ma 15), .inl (cI, 40, .inl fEs)), ((ma 17), .inl (cI, 24, .inl fTb))]) [0, 1, 2, 3, 4, 5] (by decide +kernel) rfl
    have hl := lv_sub hl [2, 3, 1, 0] rfl
    exact kk4 _ 0 0 _ _ _ rfl ((by (try dsimp only); first | assumption | omega | trivial)) ((by (try dsimp only); first | assumption | omega | trivial)) hP hD hS hl

theorem d_DiscMakerModel_rootRecord_0 : decode b_DiscMakerModel_rootRecord 0 = .ok (.aload_n 0, 1) := by decide +kernel
theorem d_DiscMakerModel_rootRecord_1 : decode b_DiscMakerModel_rootRecord 1 = .ok (.iload_n 2, 1) := by decide +kernel
theorem d_DiscMakerModel_rootRecord_2 : decode b_DiscMakerModel_rootRecord 2 = .ok (.bipush 34, 2) := by decide +kernel
theorem d_DiscMakerModel_rootRecord_4 : decode b_DiscMakerModel_rootRecord 4 = .ok (.invokevirtual 192, 3) := by decide +kernel
theorem d_DiscMakerModel_rootRecord_7 : decode b_DiscMakerModel_rootRecord 7 = .ok (.aload_n 0, 1) := by decide +kernel
theorem d_DiscMakerModel_rootRecord_8 : decode b_DiscMakerModel_rootRecord 8 = .ok (.iload_n 2, 1) := by decide +kernel
theorem d_DiscMakerModel_rootRecord_9 : decode b_DiscMakerModel_rootRecord 9 = .ok (.iconst 2, 1) := by decide +kernel
theorem d_DiscMakerModel_rootRecord_10 : decode b_DiscMakerModel_rootRecord 10 = .ok (.iadd, 1) := by decide +kernel
theorem d_DiscMakerModel_rootRecord_11 : decode b_DiscMakerModel_rootRecord 11 = .ok (.iconst 4, 1) := by decide +kernel
theorem d_DiscMakerModel_rootRecord_12 : decode b_DiscMakerModel_rootRecord 12 = .ok (.aload_n 0, 1) := by decide +kernel
theorem d_DiscMakerModel_rootRecord_13 : decode b_DiscMakerModel_rootRecord 13 = .ok (.getfield 67, 3) := by decide +kernel
theorem d_DiscMakerModel_rootRecord_16 : decode b_DiscMakerModel_rootRecord 16 = .ok (.bipush 40, 2) := by decide +kernel
theorem d_DiscMakerModel_rootRecord_18 : decode b_DiscMakerModel_rootRecord 18 = .ok (.iload_n 1, 1) := by decide +kernel
theorem d_DiscMakerModel_rootRecord_19 : decode b_DiscMakerModel_rootRecord 19 = .ok (.imul, 1) := by decide +kernel
theorem d_DiscMakerModel_rootRecord_20 : decode b_DiscMakerModel_rootRecord 20 = .ok (.iaload, 1) := by decide +kernel
theorem d_DiscMakerModel_rootRecord_21 : decode b_DiscMakerModel_rootRecord 21 = .ok (.invokevirtual 244, 3) := by decide +kernel
theorem d_DiscMakerModel_rootRecord_24 : decode b_DiscMakerModel_rootRecord 24 = .ok (.aload_n 0, 1) := by decide +kernel
theorem d_DiscMakerModel_rootRecord_25 : decode b_DiscMakerModel_rootRecord 25 = .ok (.iload_n 2, 1) := by decide +kernel
theorem d_DiscMakerModel_rootRecord_26 : decode b_DiscMakerModel_rootRecord 26 = .ok (.bipush 10, 2) := by decide +kernel
theorem d_DiscMakerModel_rootRecord_28 : decode b_DiscMakerModel_rootRecord 28 = .ok (.iadd, 1) := by decide +kernel
theorem d_DiscMakerModel_rootRecord_29 : decode b_DiscMakerModel_rootRecord 29 = .ok (.iconst 4, 1) := by decide +kernel
theorem d_DiscMakerModel_rootRecord_30 : decode b_DiscMakerModel_rootRecord 30 = .ok (.sipush 2048, 3) := by decide +kernel
theorem d_DiscMakerModel_rootRecord_33 : decode b_DiscMakerModel_rootRecord 33 = .ok (.aload_n 0, 1) := by decide +kernel
theorem d_DiscMakerModel_rootRecord_34 : decode b_DiscMakerModel_rootRecord 34 = .ok (.getfield 70, 3) := by decide +kernel
theorem d_DiscMakerModel_rootRecord_37 : decode b_DiscMakerModel_rootRecord 37 = .ok (.bipush 40, 2) := by decide +kernel
theorem d_DiscMakerModel_rootRecord_39 : decode b_DiscMakerModel_rootRecord 39 = .ok (.iload_n 1, 1) := by decide +kernel
theorem d_DiscMakerModel_rootRecord_40 : decode b_DiscMakerModel_rootRecord 40 = .ok (.imul, 1) := by decide +kernel
theorem d_DiscMakerModel_rootRecord_41 : decode b_DiscMakerModel_rootRecord 41 = .ok (.iaload, 1) := by decide +kernel
theorem d_DiscMakerModel_rootRecord_42 : decode b_DiscMakerModel_rootRecord 42 = .ok (.imul, 1) := by decide +kernel
theorem d_DiscMakerModel_rootRecord_43 : decode b_DiscMakerModel_rootRecord 43 = .ok (.invokevirtual 244, 3) := by decide +kernel
theorem d_DiscMakerModel_rootRecord_46 : decode b_DiscMakerModel_rootRecord 46 = .ok (.aload_n 0, 1) := by decide +kernel
theorem d_DiscMakerModel_rootRecord_47 : decode b_DiscMakerModel_rootRecord 47 = .ok (.iload_n 2, 1) := by decide +kernel
theorem d_DiscMakerModel_rootRecord_48 : decode b_DiscMakerModel_rootRecord 48 = .ok (.invokevirtual 247, 3) := by decide +kernel
theorem d_DiscMakerModel_rootRecord_51 : decode b_DiscMakerModel_rootRecord 51 = .ok (.aload_n 0, 1) := by decide +kernel
theorem d_DiscMakerModel_rootRecord_52 : decode b_DiscMakerModel_rootRecord 52 = .ok (.iload_n 2, 1) := by decide +kernel
theorem d_DiscMakerModel_rootRecord_53 : decode b_DiscMakerModel_rootRecord 53 = .ok (.bipush 25, 2) := by decide +kernel
theorem d_DiscMakerModel_rootRecord_55 : decode b_DiscMakerModel_rootRecord 55 = .ok (.iadd, 1) := by decide +kernel
theorem d_DiscMakerModel_rootRecord_56 : decode b_DiscMakerModel_rootRecord 56 = .ok (.iconst 2, 1) := by decide +kernel
theorem d_DiscMakerModel_rootRecord_57 : decode b_DiscMakerModel_rootRecord 57 = .ok (.invokevirtual 192, 3) := by decide +kernel
theorem d_DiscMakerModel_rootRecord_60 : decode b_DiscMakerModel_rootRecord 60 = .ok (.aload_n 0, 1) := by decide +kernel
theorem d_DiscMakerModel_rootRecord_61 : decode b_DiscMakerModel_rootRecord 61 = .ok (.iload_n 2, 1) := by decide +kernel
theorem d_DiscMakerModel_rootRecord_62 : decode b_DiscMakerModel_rootRecord 62 = .ok (.bipush 28, 2) := by decide +kernel
theorem d_DiscMakerModel_rootRecord_64 : decode b_DiscMakerModel_rootRecord 64 = .ok (.iadd, 1) := by decide +kernel
theorem d_DiscMakerModel_rootRecord_65 : decode b_DiscMakerModel_rootRecord 65 = .ok (.iconst 2, 1) := by decide +kernel
theorem d_DiscMakerModel_rootRecord_66 : decode b_DiscMakerModel_rootRecord 66 = .ok (.iconst 1, 1) := by decide +kernel
theorem d_DiscMakerModel_rootRecord_67 : decode b_DiscMakerModel_rootRecord 67 = .ok (.invokevirtual 244, 3) := by decide +kernel
theorem d_DiscMakerModel_rootRecord_70 : decode b_DiscMakerModel_rootRecord 70 = .ok (.aload_n 0, 1) := by decide +kernel
theorem d_DiscMakerModel_rootRecord_71 : decode b_DiscMakerModel_rootRecord 71 = .ok (.iload_n 2, 1) := by decide +kernel
theorem d_DiscMakerModel_rootRecord_72 : decode b_DiscMakerModel_rootRecord 72 = .ok (.bipush 32, 2) := by decide +kernel
theorem d_DiscMakerModel_rootRecord_74 : decode b_DiscMakerModel_rootRecord 74 = .ok (.iadd, 1) := by decide +kernel
theorem d_DiscMakerModel_rootRecord_75 : decode b_DiscMakerModel_rootRecord 75 = .ok (.iconst 1, 1) := by decide +kernel
theorem d_DiscMakerModel_rootRecord_76 : decode b_DiscMakerModel_rootRecord 76 = .ok (.invokevirtual 192, 3) := by decide +kernel
theorem d_DiscMakerModel_rootRecord_79 : decode b_DiscMakerModel_rootRecord 79 = .ok (.return_, 1) := by decide +kernel
set_option maxHeartbeats 4000000 in
set_option maxRecDepth 100000 in
theorem m_rootRecord (l : Launch) (D : va_G) (cB cI cJ cZ cN cF : ClassId) (sz : Nat) (h0 : Nat) (ma : Nat → Nat) (sv_thrown sv_length sv_nodes sv_many sv_directories sv_runsFrom sv_runs sv_read sv_wrong sv_isNamed sv_goes sv_goesSize sv_goesAt sv_targetParts sv_isRoot : Int32) (F : Nat → Int64) (fSe : Nat → Int32) (fSs : Nat → Int32) (x : Int32) (y : Int32) (hx0 : 0 ≤ x.toInt ∧ x.toInt ≤ 1) (hy0 : 0 ≤ y.toInt ∧ y.toInt + 40 ≤ 368640) : Met l y_DiscMakerModel_rootRecord w_DiscMakerModel_rootRecord ({ frames := 3, cells := 0, slots := 0, locals := 70 }) (va_Pc [.ref h0, .int x, .int y] (fun U => U.heap.size = sz ∧ va_P D CL [(h0, .inr (11, MO ma sv_thrown sv_length sv_nodes sv_many sv_directories sv_runsFrom sv_runs sv_read sv_wrong sv_isNamed sv_goes sv_goesSize sv_goesAt sv_targetParts sv_isRoot)), ((ma 16), .inl (cJ, 46080, .inr (.inl F))), ((ma 18), .inl (cI, 80, .inl fSe)), ((ma 19), .inl (cI, 80, .inl fSs))] U.heap ∧ va_K D CL (TY cB cI cJ cZ cN cF) U ∧ NN U ∧ va_D (fun _ => True) [(h0, .inr (11, MO ma sv_thrown sv_length sv_nodes sv_many sv_directories sv_runsFrom sv_runs sv_read sv_wrong sv_isNamed sv_goes sv_goesSize sv_goesAt sv_targetParts sv_isRoot)), ((ma 16), .inl (cJ, 46080, .inr (.inl F))), ((ma 18), .inl (cI, 80, .inl fSe)), ((ma 19), .inl (cI, 80, .inl fSs))])) (va_Qv (fun (u : (Nat → Int64)) => True) (fun (u : (Nat → Int64)) (t : State) => match u with | G => va_P D CL [(h0, .inr (11, MO ma sv_thrown sv_length sv_nodes sv_many sv_directories sv_runsFrom sv_runs sv_read sv_wrong sv_isNamed sv_goes sv_goesSize sv_goesAt sv_targetParts sv_isRoot)), ((ma 16), .inl (cJ, 46080, .inr (.inl G))), ((ma 18), .inl (cI, 80, .inl fSe)), ((ma 19), .inl (cI, 80, .inl fSs))] t.heap ∧ va_D (va_A [(h0, .inr (11, MO ma sv_thrown sv_length sv_nodes sv_many sv_directories sv_runsFrom sv_runs sv_read sv_wrong sv_isNamed sv_goes sv_goesSize sv_goesAt sv_targetParts sv_isRoot)), ((ma 16), .inl (cJ, 46080, .inr (.inl F))), ((ma 18), .inl (cI, 80, .inl fSe)), ((ma 19), .inl (cI, 80, .inl fSs))] sz) [(h0, .inr (11, MO ma sv_thrown sv_length sv_nodes sv_many sv_directories sv_runsFrom sv_runs sv_read sv_wrong sv_isNamed sv_goes sv_goesSize sv_goesAt sv_targetParts sv_isRoot)), ((ma 16), .inl (cJ, 46080, .inr (.inl G))), ((ma 18), .inl (cI, 80, .inl fSe)), ((ma 19), .inl (cI, 80, .inl fSs))]) (va_A [(h0, .inr (11, MO ma sv_thrown sv_length sv_nodes sv_many sv_directories sv_runsFrom sv_runs sv_read sv_wrong sv_isNamed sv_goes sv_goesSize sv_goesAt sv_targetParts sv_isRoot)), ((ma 16), .inl (cJ, 46080, .inr (.inl F))), ((ma 18), .inl (cI, 80, .inl fSe)), ((ma 19), .inl (cI, 80, .inl fSs))] sz)) 0 0 (va_A [(h0, .inr (11, MO ma sv_thrown sv_length sv_nodes sv_many sv_directories sv_runsFrom sv_runs sv_read sv_wrong sv_isNamed sv_goes sv_goesSize sv_goesAt sv_targetParts sv_isRoot)), ((ma 16), .inl (cJ, 46080, .inr (.inl F))), ((ma 18), .inl (cI, 80, .inl fSe)), ((ma 19), .inl (cI, 80, .inl fSs))] sz) := by
  refine Met.ofW (cc := b_DiscMakerModel_rootRecord) (maxL := 3) (ret := none) (by decide) rfl ?_
  intro p e s m args below meth c s₁ B hml hv
  obtain ⟨rfl, hsz, hP, hK, hN, hD0⟩ := hv
  have hx := B.exec
  have hb := B.bytes
  have hr := B.returns
  have hts := atoms_spec (ws := w_DiscMakerModel_rootRecord) B.pre
  have ht9 := fun (w : Cond) (h : w ∈ lw_g) => hts w (List.mem_cons_of_mem _ h)
  have hown : s.vm.findClass "DiscMakerModel" = some m.cls := findClass_of_methodNamed B.named
  have hlocks := B.notSynchronized
  subst hsz
  have hD := hD0.self (sz := s.heap.size)
  generalize hAe : va_A [(h0, .inr (11, MO ma sv_thrown sv_length sv_nodes sv_many sv_directories sv_runsFrom sv_runs sv_read sv_wrong sv_isNamed sv_goes sv_goesSize sv_goesAt sv_targetParts sv_isRoot)), ((ma 16), .inl (cJ, 46080, .inr (.inl F))), ((ma 18), .inl (cI, 80, .inl fSe)), ((ma 19), .inl (cI, 80, .inl fSs))] s.heap.size = A at hD ⊢
  have hA : ∀ q : Nat, s.heap.size ≤ q → A q := fun q h => by rw [← hAe]; exact Or.inr h
  have hS : va_S A s.heap s.heap [] := va_S.rf
  have hP : va_P D CL [(h0, .inr (11, MO ma sv_thrown sv_length sv_nodes sv_many sv_directories sv_runsFrom sv_runs sv_read sv_wrong sv_isNamed sv_goes sv_goesSize sv_goesAt sv_targetParts sv_isRoot)), ((ma 16), .inl (cJ, 46080, .inr (.inl F))), ((ma 18), .inl (cI, 80, .inl fSe)), ((ma 19), .inl (cI, 80, .inl fSs))] s.heap := hP
  have hl := lv_entry [.ref h0, .int x, .int y] (n := 3) (Nat.le_of_ble_eq_true rfl)
  rw [lg_entry_eq]
  generalize (lg_sl [.ref h0, .int x, .int y] ++ List.replicate (3 - (lg_sl [.ref h0, .int x, .int y]).length) Slot.unset).toArray = ls at hl ⊢
  have hl : lv_has ls 3 [(0, .ref h0), (1, .int x), (2, .int y)] := hl
  have L_m1 : ((-1) : Int32).toInt = (-1) := by decide
  have L_0 : (0 : Int32).toInt = 0 := by decide
  have L_1 : (1 : Int32).toInt = 1 := by decide
  have L_2 : (2 : Int32).toInt = 2 := by decide
  have L_4 : (4 : Int32).toInt = 4 := by decide
  have L_10 : (10 : Int32).toInt = 10 := by decide
  have L_25 : (25 : Int32).toInt = 25 := by decide
  have L_28 : (28 : Int32).toInt = 28 := by decide
  have L_32 : (32 : Int32).toInt = 32 := by decide
  have L_34 : (34 : Int32).toInt = 34 := by decide
  have L_40 : (40 : Int32).toInt = 40 := by decide
  have L_2048 : (2048 : Int32).toInt = 2048 := by decide
  refine lv_aload_n hx hb d_DiscMakerModel_rootRecord_0 rfl (lv_at hl 0 rfl) ?_
  refine lv_iload_n hx hb d_DiscMakerModel_rootRecord_1 rfl (lv_at hl 2 rfl) ?_
  refine lv_bipush (v := 34) hx hb d_DiscMakerModel_rootRecord_2 (by decide) ?_
  have hPc := hP.sub (ws' := [(h0, .inr (11, MO ma sv_thrown sv_length sv_nodes sv_many sv_directories sv_runsFrom sv_runs sv_read sv_wrong sv_isNamed sv_goes sv_goesSize sv_goesAt sv_targetParts sv_isRoot)), ((ma 16), .inl (cJ, 46080, .inr (.inl F)))]) [0, 1] rfl
  have hDc := hD.sub (ws' := [(h0, .inr (11, MO ma sv_thrown sv_length sv_nodes sv_many sv_directories sv_runsFrom sv_runs sv_read sv_wrong sv_isNamed sv_goes sv_goesSize sv_goesAt sv_targetParts sv_isRoot)), ((ma 16), .inl (cJ, 46080, .inr (.inl F)))]) [0, 1] (by decide +kernel) rfl
  have hFc := va_free (wc := [(h0, .inr (11, MO ma sv_thrown sv_length sv_nodes sv_many sv_directories sv_runsFrom sv_runs sv_read sv_wrong sv_isNamed sv_goes sv_goesSize sv_goesAt sv_targetParts sv_isRoot)), ((ma 16), .inl (cJ, 46080, .inr (.inl F)))]) hD hS hA [0, 1] rfl
  have hkc : 0 ≤ 0 := by decide
  have hks : 0 ≤ 0 := by decide
  refine va_callv (va_runV (C := "DiscMakerModel") (As := [.int y, .int 34]) (rest := []) ⟨hx, hb, hml, hown, hts⟩ (m_set l D cB cI cJ cZ cN cF s.heap.size h0 ma sv_thrown sv_length sv_nodes sv_many sv_directories sv_runsFrom sv_runs sv_read sv_wrong sv_isNamed sv_goes sv_goesSize sv_goesAt sv_targetParts sv_isRoot F y 34 (by (try dsimp only); first | assumption | omega | trivial) (by (try dsimp only); first | assumption | omega | trivial)) (cwV 2 hts (lg_goodV k1727 k1729 k79 k125 kc_DiscMakerModel_set) rfl rfl rfl (by decide +kernel) ⟨Nat.le_of_ble_eq_true rfl, Nat.le_of_ble_eq_true rfl⟩) ⟨fun a U g mk q => by obtain ⟨q0, q1, qP, qK, qN, qD⟩ := q; exact ⟨q0, q1, qP, va_K.moved (u := U) (U := U.calling g mk a) (Vm.Alike.refl U.vm) qK, qN.calling, qD⟩, va_recv hK hP (ci := 11) (q0 := 0) rfl rfl, fun U hU hW => ⟨rfl, by rw [hU], by rw [hU]; exact hPc, va_K.moved hW.alike hK, NN.warm hW hN, hDc.weaken (fun _ _ _ _ => trivial)⟩⟩ rfl rfl hl.1 rfl (lv_room (Nat.le_of_ble_eq_true rfl)) d_DiscMakerModel_rootRecord_4 ⟨hkc, hks⟩) hS (fun q _ h => hFc q h) hFc (fun u t H1 locs ht hvm hp_r1 hB hz1 hk1 hS => ?_)
  obtain ⟨G_2, rfl⟩ : ∃ z, z = u := ⟨_, rfl⟩
  obtain ⟨hP1, hD1⟩ := hB
  rw [ht] at hP1
  obtain ⟨hP, hD⟩ := va_join (wr := [((ma 18), .inl (cI, 80, .inl fSe)), ((ma 19), .inl (cI, 80, .inl fSs))]) (w1 := [(h0, .inr (11, MO ma sv_thrown sv_length sv_nodes sv_many sv_directories sv_runsFrom sv_runs sv_read sv_wrong sv_isNamed sv_goes sv_goesSize sv_goesAt sv_targetParts sv_isRoot)), ((ma 16), .inl (cJ, 46080, .inr (.inl G_2)))]) hP hD [0, 1] [2, 3] rfl rfl (by decide +kernel) (by decide +kernel) hk1 hFc hP1 hD1
  clear hPc hDc hFc hP1 hD1 hk1 hz1 hkc hks
  generalize H1 = H at hP hS ⊢
  have hP : va_P D CL [((ma 18), .inl (cI, 80, .inl fSe)), ((ma 19), .inl (cI, 80, .inl fSs)), (h0, .inr (11, MO ma sv_thrown sv_length sv_nodes sv_many sv_directories sv_runsFrom sv_runs sv_read sv_wrong sv_isNamed sv_goes sv_goesSize sv_goesAt sv_targetParts sv_isRoot)), ((ma 16), .inl (cJ, 46080, .inr (.inl G_2)))] H := hP
  have hD : va_D A [((ma 18), .inl (cI, 80, .inl fSe)), ((ma 19), .inl (cI, 80, .inl fSs)), (h0, .inr (11, MO ma sv_thrown sv_length sv_nodes sv_many sv_directories sv_runsFrom sv_runs sv_read sv_wrong sv_isNamed sv_goes sv_goesSize sv_goesAt sv_targetParts sv_isRoot)), ((ma 16), .inl (cJ, 46080, .inr (.inl G_2)))] := hD
  refine lv_aload_n hx hb d_DiscMakerModel_rootRecord_7 rfl (lv_at hl 0 rfl) ?_
  refine lv_iload_n hx hb d_DiscMakerModel_rootRecord_8 rfl (lv_at hl 2 rfl) ?_
  refine lv_iconst (v := 2) hx hb d_DiscMakerModel_rootRecord_9 (by decide) ?_
  refine lv_iadd hx hb d_DiscMakerModel_rootRecord_10 ?_
  refine lv_topi (fun v3 e_v3 => ?_)
  have t_v3 : v3.toInt = y.toInt + 2 := by rw [e_v3]; exact i_add rfl (by decide) (by omega) (by omega)
  refine lv_iconst (v := 4) hx hb d_DiscMakerModel_rootRecord_11 (by decide) ?_
  refine lv_aload_n hx hb d_DiscMakerModel_rootRecord_12 rfl (lv_at hl 0 rfl) ?_
  refine va_get (D := D) (ci := 11) (v := .ref (ma 18)) (C := "DiscMakerModel") (T := F_DiscMakerModel) (N := 48) hx hb ht9 in_DiscMakerModel hown hK hP 2 rfl rfl 22 (by decide) (ht9 _ k1453) (fun _ h9 => h9) rfl d_DiscMakerModel_rootRecord_13 ?_
  refine lv_bipush (v := 40) hx hb d_DiscMakerModel_rootRecord_16 (by decide) ?_
  refine lv_iload_n hx hb d_DiscMakerModel_rootRecord_18 rfl (lv_at hl 1 rfl) ?_
  refine lv_imul hx hb d_DiscMakerModel_rootRecord_19 ?_
  refine lv_topi (fun v4 e_v4 => ?_)
  have t_v4 : v4.toInt = 40 * x.toInt := by rw [e_v4]; exact i_mul (by decide) rfl (by omega) (by omega)
  refine va_iald hx hb hK hP 0 1 rfl rfl (vp_in_iff.mpr ⟨by omega, by omega⟩) d_DiscMakerModel_rootRecord_20 ?_
  refine lv_topi (fun v5 e_v5 => ?_)
  have hPc := hP.sub (ws' := [(h0, .inr (11, MO ma sv_thrown sv_length sv_nodes sv_many sv_directories sv_runsFrom sv_runs sv_read sv_wrong sv_isNamed sv_goes sv_goesSize sv_goesAt sv_targetParts sv_isRoot)), ((ma 16), .inl (cJ, 46080, .inr (.inl G_2)))]) [2, 3] rfl
  have hDc := hD.sub (ws' := [(h0, .inr (11, MO ma sv_thrown sv_length sv_nodes sv_many sv_directories sv_runsFrom sv_runs sv_read sv_wrong sv_isNamed sv_goes sv_goesSize sv_goesAt sv_targetParts sv_isRoot)), ((ma 16), .inl (cJ, 46080, .inr (.inl G_2)))]) [2, 3] (by decide +kernel) rfl
  have hFc := va_free (wc := [(h0, .inr (11, MO ma sv_thrown sv_length sv_nodes sv_many sv_directories sv_runsFrom sv_runs sv_read sv_wrong sv_isNamed sv_goes sv_goesSize sv_goesAt sv_targetParts sv_isRoot)), ((ma 16), .inl (cJ, 46080, .inr (.inl G_2)))]) hD hS hA [2, 3] rfl
  have hkc : 0 ≤ 0 := by decide
  have hks : 0 ≤ 0 := by decide
  refine va_callv (va_runV (C := "DiscMakerModel") (As := [.int v3, .int 4, .int v5]) (rest := []) ⟨hx, hb, hml, hown, hts⟩ (m_both l D cB cI cJ cZ cN cF H.size h0 ma sv_thrown sv_length sv_nodes sv_many sv_directories sv_runsFrom sv_runs sv_read sv_wrong sv_isNamed sv_goes sv_goesSize sv_goesAt sv_targetParts sv_isRoot G_2 v3 4 v5 (by (try dsimp only); first | assumption | omega | trivial) (by (try dsimp only); first | assumption | omega | trivial) (by (try dsimp only); first | assumption | omega | trivial)) (cwV 3 hts (lg_goodV k1740 k1742 k81 k125 kc_DiscMakerModel_both) rfl rfl rfl (by decide +kernel) ⟨Nat.le_of_ble_eq_true rfl, Nat.le_of_ble_eq_true rfl⟩) ⟨fun a U g mk q => by obtain ⟨q0, q1, qP, qK, qN, qD⟩ := q; exact ⟨q0, q1, qP, va_K.moved (u := U) (U := U.calling g mk a) (Vm.Alike.refl U.vm) qK, qN.calling, qD⟩, va_recv hK hP (ci := 11) (q0 := 2) rfl rfl, fun U hU hW => ⟨rfl, by rw [hU], by rw [hU]; exact hPc, va_K.moved hW.alike hK, NN.warm hW hN, hDc.weaken (fun _ _ _ _ => trivial)⟩⟩ rfl rfl hl.1 rfl (lv_room (Nat.le_of_ble_eq_true rfl)) d_DiscMakerModel_rootRecord_21 ⟨hkc, hks⟩) hS (fun q _ h => hFc q h) hFc (fun u t H1 locs ht hvm hp_r6 hB hz1 hk1 hS => ?_)
  obtain ⟨G_7, rfl⟩ : ∃ z, z = u := ⟨_, rfl⟩
  obtain ⟨hP1, hD1⟩ := hB
  rw [ht] at hP1
  obtain ⟨hP, hD⟩ := va_join (wr := [((ma 18), .inl (cI, 80, .inl fSe)), ((ma 19), .inl (cI, 80, .inl fSs))]) (w1 := [(h0, .inr (11, MO ma sv_thrown sv_length sv_nodes sv_many sv_directories sv_runsFrom sv_runs sv_read sv_wrong sv_isNamed sv_goes sv_goesSize sv_goesAt sv_targetParts sv_isRoot)), ((ma 16), .inl (cJ, 46080, .inr (.inl G_7)))]) hP hD [2, 3] [0, 1] rfl rfl (by decide +kernel) (by decide +kernel) hk1 hFc hP1 hD1
  clear hPc hDc hFc hP1 hD1 hk1 hz1 hkc hks
  generalize H1 = H at hP hS ⊢
  have hP : va_P D CL [((ma 18), .inl (cI, 80, .inl fSe)), ((ma 19), .inl (cI, 80, .inl fSs)), (h0, .inr (11, MO ma sv_thrown sv_length sv_nodes sv_many sv_directories sv_runsFrom sv_runs sv_read sv_wrong sv_isNamed sv_goes sv_goesSize sv_goesAt sv_targetParts sv_isRoot)), ((ma 16), .inl (cJ, 46080, .inr (.inl G_7)))] H := hP
  have hD : va_D A [((ma 18), .inl (cI, 80, .inl fSe)), ((ma 19), .inl (cI, 80, .inl fSs)), (h0, .inr (11, MO ma sv_thrown sv_length sv_nodes sv_many sv_directories sv_runsFrom sv_runs sv_read sv_wrong sv_isNamed sv_goes sv_goesSize sv_goesAt sv_targetParts sv_isRoot)), ((ma 16), .inl (cJ, 46080, .inr (.inl G_7)))] := hD
  refine lv_aload_n hx hb d_DiscMakerModel_rootRecord_24 rfl (lv_at hl 0 rfl) ?_
  refine lv_iload_n hx hb d_DiscMakerModel_rootRecord_25 rfl (lv_at hl 2 rfl) ?_
  refine lv_bipush (v := 10) hx hb d_DiscMakerModel_rootRecord_26 (by decide) ?_
  refine lv_iadd hx hb d_DiscMakerModel_rootRecord_28 ?_
  refine lv_topi (fun v8 e_v8 => ?_)
  have t_v8 : v8.toInt = y.toInt + 10 := by rw [e_v8]; exact i_add rfl (by decide) (by omega) (by omega)
  refine lv_iconst (v := 4) hx hb d_DiscMakerModel_rootRecord_29 (by decide) ?_
  refine lv_sipush (v := 2048) hx hb d_DiscMakerModel_rootRecord_30 (by decide) ?_
  refine lv_aload_n hx hb d_DiscMakerModel_rootRecord_33 rfl (lv_at hl 0 rfl) ?_
  refine va_get (D := D) (ci := 11) (v := .ref (ma 19)) (C := "DiscMakerModel") (T := F_DiscMakerModel) (N := 48) hx hb ht9 in_DiscMakerModel hown hK hP 2 rfl rfl 23 (by decide) (ht9 _ k1454) (fun _ h9 => h9) rfl d_DiscMakerModel_rootRecord_34 ?_
  refine lv_bipush (v := 40) hx hb d_DiscMakerModel_rootRecord_37 (by decide) ?_
  refine lv_iload_n hx hb d_DiscMakerModel_rootRecord_39 rfl (lv_at hl 1 rfl) ?_
  refine lv_imul hx hb d_DiscMakerModel_rootRecord_40 ?_
  refine lv_topi (fun v9 e_v9 => ?_)
  have t_v9 : v9.toInt = 40 * x.toInt := by rw [e_v9]; exact i_mul (by decide) rfl (by omega) (by omega)
  refine va_iald hx hb hK hP 1 1 rfl rfl (vp_in_iff.mpr ⟨by omega, by omega⟩) d_DiscMakerModel_rootRecord_41 ?_
  refine lv_topi (fun v10 e_v10 => ?_)
  refine lv_imul hx hb d_DiscMakerModel_rootRecord_42 ?_
  refine lv_topi (fun v11 e_v11 => ?_)
  have hPc := hP.sub (ws' := [(h0, .inr (11, MO ma sv_thrown sv_length sv_nodes sv_many sv_directories sv_runsFrom sv_runs sv_read sv_wrong sv_isNamed sv_goes sv_goesSize sv_goesAt sv_targetParts sv_isRoot)), ((ma 16), .inl (cJ, 46080, .inr (.inl G_7)))]) [2, 3] rfl
  have hDc := hD.sub (ws' := [(h0, .inr (11, MO ma sv_thrown sv_length sv_nodes sv_many sv_directories sv_runsFrom sv_runs sv_read sv_wrong sv_isNamed sv_goes sv_goesSize sv_goesAt sv_targetParts sv_isRoot)), ((ma 16), .inl (cJ, 46080, .inr (.inl G_7)))]) [2, 3] (by decide +kernel) rfl
  have hFc := va_free (wc := [(h0, .inr (11, MO ma sv_thrown sv_length sv_nodes sv_many sv_directories sv_runsFrom sv_runs sv_read sv_wrong sv_isNamed sv_goes sv_goesSize sv_goesAt sv_targetParts sv_isRoot)), ((ma 16), .inl (cJ, 46080, .inr (.inl G_7)))]) hD hS hA [2, 3] rfl
  have hkc : 0 ≤ 0 := by decide
  have hks : 0 ≤ 0 := by decide
  refine va_callv (va_runV (C := "DiscMakerModel") (As := [.int v8, .int 4, .int v11]) (rest := []) ⟨hx, hb, hml, hown, hts⟩ (m_both l D cB cI cJ cZ cN cF H.size h0 ma sv_thrown sv_length sv_nodes sv_many sv_directories sv_runsFrom sv_runs sv_read sv_wrong sv_isNamed sv_goes sv_goesSize sv_goesAt sv_targetParts sv_isRoot G_7 v8 4 v11 (by (try dsimp only); first | assumption | omega | trivial) (by (try dsimp only); first | assumption | omega | trivial) (by (try dsimp only); first | assumption | omega | trivial)) (cwV 3 hts (lg_goodV k1740 k1742 k81 k125 kc_DiscMakerModel_both) rfl rfl rfl (by decide +kernel) ⟨Nat.le_of_ble_eq_true rfl, Nat.le_of_ble_eq_true rfl⟩) ⟨fun a U g mk q => by obtain ⟨q0, q1, qP, qK, qN, qD⟩ := q; exact ⟨q0, q1, qP, va_K.moved (u := U) (U := U.calling g mk a) (Vm.Alike.refl U.vm) qK, qN.calling, qD⟩, va_recv hK hP (ci := 11) (q0 := 2) rfl rfl, fun U hU hW => ⟨rfl, by rw [hU], by rw [hU]; exact hPc, va_K.moved hW.alike hK, NN.warm hW hN, hDc.weaken (fun _ _ _ _ => trivial)⟩⟩ rfl rfl hl.1 rfl (lv_room (Nat.le_of_ble_eq_true rfl)) d_DiscMakerModel_rootRecord_43 ⟨hkc, hks⟩) hS (fun q _ h => hFc q h) hFc (fun u t H1 locs ht hvm hp_r12 hB hz1 hk1 hS => ?_)
  obtain ⟨G_13, rfl⟩ : ∃ z, z = u := ⟨_, rfl⟩
  obtain ⟨hP1, hD1⟩ := hB
  rw [ht] at hP1
  obtain ⟨hP, hD⟩ := va_join (wr := [((ma 18), .inl (cI, 80, .inl fSe)), ((ma 19), .inl (cI, 80, .inl fSs))]) (w1 := [(h0, .inr (11, MO ma sv_thrown sv_length sv_nodes sv_many sv_directories sv_runsFrom sv_runs sv_read sv_wrong sv_isNamed sv_goes sv_goesSize sv_goesAt sv_targetParts sv_isRoot)), ((ma 16), .inl (cJ, 46080, .inr (.inl G_13)))]) hP hD [2, 3] [0, 1] rfl rfl (by decide +kernel) (by decide +kernel) hk1 hFc hP1 hD1
  clear hPc hDc hFc hP1 hD1 hk1 hz1 hkc hks
  generalize H1 = H at hP hS ⊢
  have hP : va_P D CL [((ma 18), .inl (cI, 80, .inl fSe)), ((ma 19), .inl (cI, 80, .inl fSs)), (h0, .inr (11, MO ma sv_thrown sv_length sv_nodes sv_many sv_directories sv_runsFrom sv_runs sv_read sv_wrong sv_isNamed sv_goes sv_goesSize sv_goesAt sv_targetParts sv_isRoot)), ((ma 16), .inl (cJ, 46080, .inr (.inl G_13)))] H := hP
  have hD : va_D A [((ma 18), .inl (cI, 80, .inl fSe)), ((ma 19), .inl (cI, 80, .inl fSs)), (h0, .inr (11, MO ma sv_thrown sv_length sv_nodes sv_many sv_directories sv_runsFrom sv_runs sv_read sv_wrong sv_isNamed sv_goes sv_goesSize sv_goesAt sv_targetParts sv_isRoot)), ((ma 16), .inl (cJ, 46080, .inr (.inl G_13)))] := hD
  refine lv_aload_n hx hb d_DiscMakerModel_rootRecord_46 rfl (lv_at hl 0 rfl) ?_
  refine lv_iload_n hx hb d_DiscMakerModel_rootRecord_47 rfl (lv_at hl 2 rfl) ?_
  have hPc := hP.sub (ws' := [(h0, .inr (11, MO ma sv_thrown sv_length sv_nodes sv_many sv_directories sv_runsFrom sv_runs sv_read sv_wrong sv_isNamed sv_goes sv_goesSize sv_goesAt sv_targetParts sv_isRoot)), ((ma 16), .inl (cJ, 46080, .inr (.inl G_13)))]) [2, 3] rfl
  have hDc := hD.sub (ws' := [(h0, .inr (11, MO ma sv_thrown sv_length sv_nodes sv_many sv_directories sv_runsFrom sv_runs sv_read sv_wrong sv_isNamed sv_goes sv_goesSize sv_goesAt sv_targetParts sv_isRoot)), ((ma 16), .inl (cJ, 46080, .inr (.inl G_13)))]) [2, 3] (by decide +kernel) rfl
  have hFc := va_free (wc := [(h0, .inr (11, MO ma sv_thrown sv_length sv_nodes sv_many sv_directories sv_runsFrom sv_runs sv_read sv_wrong sv_isNamed sv_goes sv_goesSize sv_goesAt sv_targetParts sv_isRoot)), ((ma 16), .inl (cJ, 46080, .inr (.inl G_13)))]) hD hS hA [2, 3] rfl
  have hkc : 0 ≤ 0 := by decide
  have hks : 0 ≤ 0 := by decide
  refine va_callv (va_runV (C := "DiscMakerModel") (As := [.int y]) (rest := []) ⟨hx, hb, hml, hown, hts⟩ (m_stamp l D cB cI cJ cZ cN cF H.size h0 ma sv_thrown sv_length sv_nodes sv_many sv_directories sv_runsFrom sv_runs sv_read sv_wrong sv_isNamed sv_goes sv_goesSize sv_goesAt sv_targetParts sv_isRoot G_13 y (by (try dsimp only); first | assumption | omega | trivial) (by (try dsimp only); first | assumption | omega | trivial)) (cwV 1 hts (lg_goodV k1752 k1754 k84 k125 kc_DiscMakerModel_stamp) rfl rfl rfl (by decide +kernel) ⟨Nat.le_of_ble_eq_true rfl, Nat.le_of_ble_eq_true rfl⟩) ⟨fun a U g mk q => by obtain ⟨q0, q1, qP, qK, qN, qD⟩ := q; exact ⟨q0, q1, qP, va_K.moved (u := U) (U := U.calling g mk a) (Vm.Alike.refl U.vm) qK, qN.calling, qD⟩, va_recv hK hP (ci := 11) (q0 := 2) rfl rfl, fun U hU hW => ⟨rfl, by rw [hU], by rw [hU]; exact hPc, va_K.moved hW.alike hK, NN.warm hW hN, hDc.weaken (fun _ _ _ _ => trivial)⟩⟩ rfl rfl hl.1 rfl (lv_room (Nat.le_of_ble_eq_true rfl)) d_DiscMakerModel_rootRecord_48 ⟨hkc, hks⟩) hS (fun q _ h => hFc q h) hFc (fun u t H1 locs ht hvm hp_r14 hB hz1 hk1 hS => ?_)
  obtain ⟨G_15, rfl⟩ : ∃ z, z = u := ⟨_, rfl⟩
  obtain ⟨hP1, hD1⟩ := hB
  rw [ht] at hP1
  obtain ⟨hP, hD⟩ := va_join (wr := [((ma 18), .inl (cI, 80, .inl fSe)), ((ma 19), .inl (cI, 80, .inl fSs))]) (w1 := [(h0, .inr (11, MO ma sv_thrown sv_length sv_nodes sv_many sv_directories sv_runsFrom sv_runs sv_read sv_wrong sv_isNamed sv_goes sv_goesSize sv_goesAt sv_targetParts sv_isRoot)), ((ma 16), .inl (cJ, 46080, .inr (.inl G_15)))]) hP hD [2, 3] [0, 1] rfl rfl (by decide +kernel) (by decide +kernel) hk1 hFc hP1 hD1
  clear hPc hDc hFc hP1 hD1 hk1 hz1 hkc hks
  generalize H1 = H at hP hS ⊢
  have hP : va_P D CL [((ma 18), .inl (cI, 80, .inl fSe)), ((ma 19), .inl (cI, 80, .inl fSs)), (h0, .inr (11, MO ma sv_thrown sv_length sv_nodes sv_many sv_directories sv_runsFrom sv_runs sv_read sv_wrong sv_isNamed sv_goes sv_goesSize sv_goesAt sv_targetParts sv_isRoot)), ((ma 16), .inl (cJ, 46080, .inr (.inl G_15)))] H := hP
  have hD : va_D A [((ma 18), .inl (cI, 80, .inl fSe)), ((ma 19), .inl (cI, 80, .inl fSs)), (h0, .inr (11, MO ma sv_thrown sv_length sv_nodes sv_many sv_directories sv_runsFrom sv_runs sv_read sv_wrong sv_isNamed sv_goes sv_goesSize sv_goesAt sv_targetParts sv_isRoot)), ((ma 16), .inl (cJ, 46080, .inr (.inl G_15)))] := hD
  refine lv_aload_n hx hb d_DiscMakerModel_rootRecord_51 rfl (lv_at hl 0 rfl) ?_
  refine lv_iload_n hx hb d_DiscMakerModel_rootRecord_52 rfl (lv_at hl 2 rfl) ?_
  refine lv_bipush (v := 25) hx hb d_DiscMakerModel_rootRecord_53 (by decide) ?_
  refine lv_iadd hx hb d_DiscMakerModel_rootRecord_55 ?_
  refine lv_topi (fun v16 e_v16 => ?_)
  have t_v16 : v16.toInt = y.toInt + 25 := by rw [e_v16]; exact i_add rfl (by decide) (by omega) (by omega)
  refine lv_iconst (v := 2) hx hb d_DiscMakerModel_rootRecord_56 (by decide) ?_
  have hPc := hP.sub (ws' := [(h0, .inr (11, MO ma sv_thrown sv_length sv_nodes sv_many sv_directories sv_runsFrom sv_runs sv_read sv_wrong sv_isNamed sv_goes sv_goesSize sv_goesAt sv_targetParts sv_isRoot)), ((ma 16), .inl (cJ, 46080, .inr (.inl G_15)))]) [2, 3] rfl
  have hDc := hD.sub (ws' := [(h0, .inr (11, MO ma sv_thrown sv_length sv_nodes sv_many sv_directories sv_runsFrom sv_runs sv_read sv_wrong sv_isNamed sv_goes sv_goesSize sv_goesAt sv_targetParts sv_isRoot)), ((ma 16), .inl (cJ, 46080, .inr (.inl G_15)))]) [2, 3] (by decide +kernel) rfl
  have hFc := va_free (wc := [(h0, .inr (11, MO ma sv_thrown sv_length sv_nodes sv_many sv_directories sv_runsFrom sv_runs sv_read sv_wrong sv_isNamed sv_goes sv_goesSize sv_goesAt sv_targetParts sv_isRoot)), ((ma 16), .inl (cJ, 46080, .inr (.inl G_15)))]) hD hS hA [2, 3] rfl
  have hkc : 0 ≤ 0 := by decide
  have hks : 0 ≤ 0 := by decide
  refine va_callv (va_runV (C := "DiscMakerModel") (As := [.int v16, .int 2]) (rest := []) ⟨hx, hb, hml, hown, hts⟩ (m_set l D cB cI cJ cZ cN cF H.size h0 ma sv_thrown sv_length sv_nodes sv_many sv_directories sv_runsFrom sv_runs sv_read sv_wrong sv_isNamed sv_goes sv_goesSize sv_goesAt sv_targetParts sv_isRoot G_15 v16 2 (by (try dsimp only); first | assumption | omega | trivial) (by (try dsimp only); first | assumption | omega | trivial)) (cwV 2 hts (lg_goodV k1727 k1729 k79 k125 kc_DiscMakerModel_set) rfl rfl rfl (by decide +kernel) ⟨Nat.le_of_ble_eq_true rfl, Nat.le_of_ble_eq_true rfl⟩) ⟨fun a U g mk q => by obtain ⟨q0, q1, qP, qK, qN, qD⟩ := q; exact ⟨q0, q1, qP, va_K.moved (u := U) (U := U.calling g mk a) (Vm.Alike.refl U.vm) qK, qN.calling, qD⟩, va_recv hK hP (ci := 11) (q0 := 2) rfl rfl, fun U hU hW => ⟨rfl, by rw [hU], by rw [hU]; exact hPc, va_K.moved hW.alike hK, NN.warm hW hN, hDc.weaken (fun _ _ _ _ => trivial)⟩⟩ rfl rfl hl.1 rfl (lv_room (Nat.le_of_ble_eq_true rfl)) d_DiscMakerModel_rootRecord_57 ⟨hkc, hks⟩) hS (fun q _ h => hFc q h) hFc (fun u t H1 locs ht hvm hp_r17 hB hz1 hk1 hS => ?_)
  obtain ⟨G_18, rfl⟩ : ∃ z, z = u := ⟨_, rfl⟩
  obtain ⟨hP1, hD1⟩ := hB
  rw [ht] at hP1
  obtain ⟨hP, hD⟩ := va_join (wr := [((ma 18), .inl (cI, 80, .inl fSe)), ((ma 19), .inl (cI, 80, .inl fSs))]) (w1 := [(h0, .inr (11, MO ma sv_thrown sv_length sv_nodes sv_many sv_directories sv_runsFrom sv_runs sv_read sv_wrong sv_isNamed sv_goes sv_goesSize sv_goesAt sv_targetParts sv_isRoot)), ((ma 16), .inl (cJ, 46080, .inr (.inl G_18)))]) hP hD [2, 3] [0, 1] rfl rfl (by decide +kernel) (by decide +kernel) hk1 hFc hP1 hD1
  clear hPc hDc hFc hP1 hD1 hk1 hz1 hkc hks
  generalize H1 = H at hP hS ⊢
  have hP : va_P D CL [((ma 18), .inl (cI, 80, .inl fSe)), ((ma 19), .inl (cI, 80, .inl fSs)), (h0, .inr (11, MO ma sv_thrown sv_length sv_nodes sv_many sv_directories sv_runsFrom sv_runs sv_read sv_wrong sv_isNamed sv_goes sv_goesSize sv_goesAt sv_targetParts sv_isRoot)), ((ma 16), .inl (cJ, 46080, .inr (.inl G_18)))] H := hP
  have hD : va_D A [((ma 18), .inl (cI, 80, .inl fSe)), ((ma 19), .inl (cI, 80, .inl fSs)), (h0, .inr (11, MO ma sv_thrown sv_length sv_nodes sv_many sv_directories sv_runsFrom sv_runs sv_read sv_wrong sv_isNamed sv_goes sv_goesSize sv_goesAt sv_targetParts sv_isRoot)), ((ma 16), .inl (cJ, 46080, .inr (.inl G_18)))] := hD
  refine lv_aload_n hx hb d_DiscMakerModel_rootRecord_60 rfl (lv_at hl 0 rfl) ?_
  refine lv_iload_n hx hb d_DiscMakerModel_rootRecord_61 rfl (lv_at hl 2 rfl) ?_
  refine lv_bipush (v := 28) hx hb d_DiscMakerModel_rootRecord_62 (by decide) ?_
  refine lv_iadd hx hb d_DiscMakerModel_rootRecord_64 ?_
  refine lv_topi (fun v19 e_v19 => ?_)
  have t_v19 : v19.toInt = y.toInt + 28 := by rw [e_v19]; exact i_add rfl (by decide) (by omega) (by omega)
  refine lv_iconst (v := 2) hx hb d_DiscMakerModel_rootRecord_65 (by decide) ?_
  refine lv_iconst (v := 1) hx hb d_DiscMakerModel_rootRecord_66 (by decide) ?_
  have hPc := hP.sub (ws' := [(h0, .inr (11, MO ma sv_thrown sv_length sv_nodes sv_many sv_directories sv_runsFrom sv_runs sv_read sv_wrong sv_isNamed sv_goes sv_goesSize sv_goesAt sv_targetParts sv_isRoot)), ((ma 16), .inl (cJ, 46080, .inr (.inl G_18)))]) [2, 3] rfl
  have hDc := hD.sub (ws' := [(h0, .inr (11, MO ma sv_thrown sv_length sv_nodes sv_many sv_directories sv_runsFrom sv_runs sv_read sv_wrong sv_isNamed sv_goes sv_goesSize sv_goesAt sv_targetParts sv_isRoot)), ((ma 16), .inl (cJ, 46080, .inr (.inl G_18)))]) [2, 3] (by decide +kernel) rfl
  have hFc := va_free (wc := [(h0, .inr (11, MO ma sv_thrown sv_length sv_nodes sv_many sv_directories sv_runsFrom sv_runs sv_read sv_wrong sv_isNamed sv_goes sv_goesSize sv_goesAt sv_targetParts sv_isRoot)), ((ma 16), .inl (cJ, 46080, .inr (.inl G_18)))]) hD hS hA [2, 3] rfl
  have hkc : 0 ≤ 0 := by decide
  have hks : 0 ≤ 0 := by decide
  refine va_callv (va_runV (C := "DiscMakerModel") (As := [.int v19, .int 2, .int 1]) (rest := []) ⟨hx, hb, hml, hown, hts⟩ (m_both l D cB cI cJ cZ cN cF H.size h0 ma sv_thrown sv_length sv_nodes sv_many sv_directories sv_runsFrom sv_runs sv_read sv_wrong sv_isNamed sv_goes sv_goesSize sv_goesAt sv_targetParts sv_isRoot G_18 v19 2 1 (by (try dsimp only); first | assumption | omega | trivial) (by (try dsimp only); first | assumption | omega | trivial) (by (try dsimp only); first | assumption | omega | trivial)) (cwV 3 hts (lg_goodV k1740 k1742 k81 k125 kc_DiscMakerModel_both) rfl rfl rfl (by decide +kernel) ⟨Nat.le_of_ble_eq_true rfl, Nat.le_of_ble_eq_true rfl⟩) ⟨fun a U g mk q => by obtain ⟨q0, q1, qP, qK, qN, qD⟩ := q; exact ⟨q0, q1, qP, va_K.moved (u := U) (U := U.calling g mk a) (Vm.Alike.refl U.vm) qK, qN.calling, qD⟩, va_recv hK hP (ci := 11) (q0 := 2) rfl rfl, fun U hU hW => ⟨rfl, by rw [hU], by rw [hU]; exact hPc, va_K.moved hW.alike hK, NN.warm hW hN, hDc.weaken (fun _ _ _ _ => trivial)⟩⟩ rfl rfl hl.1 rfl (lv_room (Nat.le_of_ble_eq_true rfl)) d_DiscMakerModel_rootRecord_67 ⟨hkc, hks⟩) hS (fun q _ h => hFc q h) hFc (fun u t H1 locs ht hvm hp_r20 hB hz1 hk1 hS => ?_)
  obtain ⟨G_21, rfl⟩ : ∃ z, z = u := ⟨_, rfl⟩
  obtain ⟨hP1, hD1⟩ := hB
  rw [ht] at hP1
  obtain ⟨hP, hD⟩ := va_join (wr := [((ma 18), .inl (cI, 80, .inl fSe)), ((ma 19), .inl (cI, 80, .inl fSs))]) (w1 := [(h0, .inr (11, MO ma sv_thrown sv_length sv_nodes sv_many sv_directories sv_runsFrom sv_runs sv_read sv_wrong sv_isNamed sv_goes sv_goesSize sv_goesAt sv_targetParts sv_isRoot)), ((ma 16), .inl (cJ, 46080, .inr (.inl G_21)))]) hP hD [2, 3] [0, 1] rfl rfl (by decide +kernel) (by decide +kernel) hk1 hFc hP1 hD1
  clear hPc hDc hFc hP1 hD1 hk1 hz1 hkc hks
  generalize H1 = H at hP hS ⊢
  have hP : va_P D CL [((ma 18), .inl (cI, 80, .inl fSe)), ((ma 19), .inl (cI, 80, .inl fSs)), (h0, .inr (11, MO ma sv_thrown sv_length sv_nodes sv_many sv_directories sv_runsFrom sv_runs sv_read sv_wrong sv_isNamed sv_goes sv_goesSize sv_goesAt sv_targetParts sv_isRoot)), ((ma 16), .inl (cJ, 46080, .inr (.inl G_21)))] H := hP
  have hD : va_D A [((ma 18), .inl (cI, 80, .inl fSe)), ((ma 19), .inl (cI, 80, .inl fSs)), (h0, .inr (11, MO ma sv_thrown sv_length sv_nodes sv_many sv_directories sv_runsFrom sv_runs sv_read sv_wrong sv_isNamed sv_goes sv_goesSize sv_goesAt sv_targetParts sv_isRoot)), ((ma 16), .inl (cJ, 46080, .inr (.inl G_21)))] := hD
  refine lv_aload_n hx hb d_DiscMakerModel_rootRecord_70 rfl (lv_at hl 0 rfl) ?_
  refine lv_iload_n hx hb d_DiscMakerModel_rootRecord_71 rfl (lv_at hl 2 rfl) ?_
  refine lv_bipush (v := 32) hx hb d_DiscMakerModel_rootRecord_72 (by decide) ?_
  refine lv_iadd hx hb d_DiscMakerModel_rootRecord_74 ?_
  refine lv_topi (fun v22 e_v22 => ?_)
  have t_v22 : v22.toInt = y.toInt + 32 := by rw [e_v22]; exact i_add rfl (by decide) (by omega) (by omega)
  refine lv_iconst (v := 1) hx hb d_DiscMakerModel_rootRecord_75 (by decide) ?_
  have hPc := hP.sub (ws' := [(h0, .inr (11, MO ma sv_thrown sv_length sv_nodes sv_many sv_directories sv_runsFrom sv_runs sv_read sv_wrong sv_isNamed sv_goes sv_goesSize sv_goesAt sv_targetParts sv_isRoot)), ((ma 16), .inl (cJ, 46080, .inr (.inl G_21)))]) [2, 3] rfl
  have hDc := hD.sub (ws' := [(h0, .inr (11, MO ma sv_thrown sv_length sv_nodes sv_many sv_directories sv_runsFrom sv_runs sv_read sv_wrong sv_isNamed sv_goes sv_goesSize sv_goesAt sv_targetParts sv_isRoot)), ((ma 16), .inl (cJ, 46080, .inr (.inl G_21)))]) [2, 3] (by decide +kernel) rfl
  have hFc := va_free (wc := [(h0, .inr (11, MO ma sv_thrown sv_length sv_nodes sv_many sv_directories sv_runsFrom sv_runs sv_read sv_wrong sv_isNamed sv_goes sv_goesSize sv_goesAt sv_targetParts sv_isRoot)), ((ma 16), .inl (cJ, 46080, .inr (.inl G_21)))]) hD hS hA [2, 3] rfl
  have hkc : 0 ≤ 0 := by decide
  have hks : 0 ≤ 0 := by decide
  refine va_callv (va_runV (C := "DiscMakerModel") (As := [.int v22, .int 1]) (rest := []) ⟨hx, hb, hml, hown, hts⟩ (m_set l D cB cI cJ cZ cN cF H.size h0 ma sv_thrown sv_length sv_nodes sv_many sv_directories sv_runsFrom sv_runs sv_read sv_wrong sv_isNamed sv_goes sv_goesSize sv_goesAt sv_targetParts sv_isRoot G_21 v22 1 (by (try dsimp only); first | assumption | omega | trivial) (by (try dsimp only); first | assumption | omega | trivial)) (cwV 2 hts (lg_goodV k1727 k1729 k79 k125 kc_DiscMakerModel_set) rfl rfl rfl (by decide +kernel) ⟨Nat.le_of_ble_eq_true rfl, Nat.le_of_ble_eq_true rfl⟩) ⟨fun a U g mk q => by obtain ⟨q0, q1, qP, qK, qN, qD⟩ := q; exact ⟨q0, q1, qP, va_K.moved (u := U) (U := U.calling g mk a) (Vm.Alike.refl U.vm) qK, qN.calling, qD⟩, va_recv hK hP (ci := 11) (q0 := 2) rfl rfl, fun U hU hW => ⟨rfl, by rw [hU], by rw [hU]; exact hPc, va_K.moved hW.alike hK, NN.warm hW hN, hDc.weaken (fun _ _ _ _ => trivial)⟩⟩ rfl rfl hl.1 rfl (lv_room (Nat.le_of_ble_eq_true rfl)) d_DiscMakerModel_rootRecord_76 ⟨hkc, hks⟩) hS (fun q _ h => hFc q h) hFc (fun u t H1 locs ht hvm hp_r23 hB hz1 hk1 hS => ?_)
  obtain ⟨G_24, rfl⟩ : ∃ z, z = u := ⟨_, rfl⟩
  obtain ⟨hP1, hD1⟩ := hB
  rw [ht] at hP1
  obtain ⟨hP, hD⟩ := va_join (wr := [((ma 18), .inl (cI, 80, .inl fSe)), ((ma 19), .inl (cI, 80, .inl fSs))]) (w1 := [(h0, .inr (11, MO ma sv_thrown sv_length sv_nodes sv_many sv_directories sv_runsFrom sv_runs sv_read sv_wrong sv_isNamed sv_goes sv_goesSize sv_goesAt sv_targetParts sv_isRoot)), ((ma 16), .inl (cJ, 46080, .inr (.inl G_24)))]) hP hD [2, 3] [0, 1] rfl rfl (by decide +kernel) (by decide +kernel) hk1 hFc hP1 hD1
  clear hPc hDc hFc hP1 hD1 hk1 hz1 hkc hks
  generalize H1 = H at hP hS ⊢
  have hP : va_P D CL [((ma 18), .inl (cI, 80, .inl fSe)), ((ma 19), .inl (cI, 80, .inl fSs)), (h0, .inr (11, MO ma sv_thrown sv_length sv_nodes sv_many sv_directories sv_runsFrom sv_runs sv_read sv_wrong sv_isNamed sv_goes sv_goesSize sv_goesAt sv_targetParts sv_isRoot)), ((ma 16), .inl (cJ, 46080, .inr (.inl G_24)))] H := hP
  have hD : va_D A [((ma 18), .inl (cI, 80, .inl fSe)), ((ma 19), .inl (cI, 80, .inl fSs)), (h0, .inr (11, MO ma sv_thrown sv_length sv_nodes sv_many sv_directories sv_runsFrom sv_runs sv_read sv_wrong sv_isNamed sv_goes sv_goesSize sv_goesAt sv_targetParts sv_isRoot)), ((ma 16), .inl (cJ, 46080, .inr (.inl G_24)))] := hD
  have hP9 := hP.sub (ws' := [(h0, .inr (11, MO ma sv_thrown sv_length sv_nodes sv_many sv_directories sv_runsFrom sv_runs sv_read sv_wrong sv_isNamed sv_goes sv_goesSize sv_goesAt sv_targetParts sv_isRoot)), ((ma 16), .inl (cJ, 46080, .inr (.inl G_24))), ((ma 18), .inl (cI, 80, .inl fSe)), ((ma 19), .inl (cI, 80, .inl fSs))]) [2, 3, 0, 1] rfl
  have hD9 := hD.sub (ws' := [(h0, .inr (11, MO ma sv_thrown sv_length sv_nodes sv_many sv_directories sv_runsFrom sv_runs sv_read sv_wrong sv_isNamed sv_goes sv_goesSize sv_goesAt sv_targetParts sv_isRoot)), ((ma 16), .inl (cJ, 46080, .inr (.inl G_24))), ((ma 18), .inl (cI, 80, .inl fSe)), ((ma 19), .inl (cI, 80, .inl fSs))]) [2, 3, 0, 1] (by decide +kernel) rfl
  exact W.vret hx hb hr (fun t ht hW => ⟨⟨G_24, rfl, trivial, by rw [ht]; exact hP9, hD9⟩, hS.F ht⟩) hS.2.2 d_DiscMakerModel_rootRecord_79
