set_option maxHeartbeats 4000000 in
set_option maxRecDepth 100000 in
theorem m_describeF (l : Launch) (D : va_G) (cB cI cJ cZ cN cF : ClassId) (sz : Nat) (h0 : Nat) (ma : Nat → Nat) (sv_thrown sv_length sv_nodes sv_many sv_directories sv_runsFrom sv_runs sv_read sv_wrong sv_isNamed sv_goes sv_goesSize sv_goesAt sv_targetParts sv_isRoot : Int32) (F : Nat → Int64) (fK : Nat → Int32) (fNS : Nat → Int32) (fBs : Nat → Int32) (fEs : Nat → Int32) (fTb : Nat → Int32) (fSe : Nat → Int32) (fSs : Nat → Int32) (dt : Nat → Nat → Int) (dx : Nat → Nat → Int) (Q0 : List Nat) (Q1 : List Nat) (hdr : 0 ≤ sv_directories.toInt ∧ sv_directories.toInt ≤ 12) (hn : 1 ≤ sv_nodes.toInt ∧ sv_nodes.toInt ≤ 40) (hmn : 0 ≤ sv_many.toInt) (hz : ZA (bF F) 32768 38912) (hlkA : ∀ k : Nat, (k : Int) < sv_nodes.toInt → dt 0 k = (fK k).toInt ∧ dt 1 k = (fNS k).toInt ∧ (1 ≤ k → dt 2 k = (fBs k).toInt ∧ dt 3 k = (fEs k).toInt)) (hQ0 : QR Q0 fTb (12 * 0) sv_directories.toNatClampNeg) (hQ1 : QR Q1 fTb (12 * 1) sv_directories.toNatClampNeg) (hQr0 : ∀ i, i < Q0.length → ((Q0.getD i 0 : Nat) : Int) < sv_nodes.toInt) (hQr1 : ∀ i, i < Q1.length → ((Q1.getD i 0 : Nat) : Int) < sv_nodes.toInt) (hE0 : (fSe (40 * 0)).toInt = dxE dx 0 0 ∧ 2048 * (fSs (40 * 0)).toInt = dxZ dx 0 0 ∧ 0 ≤ (fSs (40 * 0)).toInt ∧ (fSs (40 * 0)).toInt ≤ 2000) (hE1 : (fSe (40 * 1)).toInt = dxE dx 1 0 ∧ 2048 * (fSs (40 * 1)).toInt = dxZ dx 1 0 ∧ 0 ≤ (fSs (40 * 1)).toInt ∧ (fSs (40 * 1)).toInt ≤ 2000) (hKi : Rg 0 2 40 fK) (hNS : Rg 0 30 40 fNS) (hBs : Rg 0 8 40 fBs) (hEs : Rg 0 3 40 fEs) : Met l y_DiscMakerModel_describe w_DiscMakerModel_describe ({ frames := 4, cells := 0, slots := 0, locals := 92 }) (va_Pc [.ref h0] (fun U => U.heap.size = sz ∧ va_P D CL [(h0, .inr (11, MO ma sv_thrown sv_length sv_nodes sv_many sv_directories sv_runsFrom sv_runs sv_read sv_wrong sv_isNamed sv_goes sv_goesSize sv_goesAt sv_targetParts sv_isRoot)), ((ma 16), .inl (cJ, 46080, .inr (.inl F))), ((ma 1), .inl (cI, 40, .inl fK)), ((ma 9), .inl (cI, 40, .inl fNS)), ((ma 13), .inl (cI, 40, .inl fBs)), ((ma 15), .inl (cI, 40, .inl fEs)), ((ma 17), .inl (cI, 24, .inl fTb)), ((ma 18), .inl (cI, 80, .inl fSe)), ((ma 19), .inl (cI, 80, .inl fSs))] U.heap ∧ va_K D CL (TY cB cI cJ cZ cN cF) U ∧ NN U ∧ va_D (fun _ => True) [(h0, .inr (11, MO ma sv_thrown sv_length sv_nodes sv_many sv_directories sv_runsFrom sv_runs sv_read sv_wrong sv_isNamed sv_goes sv_goesSize sv_goesAt sv_targetParts sv_isRoot)), ((ma 16), .inl (cJ, 46080, .inr (.inl F))), ((ma 1), .inl (cI, 40, .inl fK)), ((ma 9), .inl (cI, 40, .inl fNS)), ((ma 13), .inl (cI, 40, .inl fBs)), ((ma 15), .inl (cI, 40, .inl fEs)), ((ma 17), .inl (cI, 24, .inl fTb)), ((ma 18), .inl (cI, 80, .inl fSe)), ((ma 19), .inl (cI, 80, .inl fSs))])) (va_Qv (fun (u : (Nat → Int64)) => match u with | G => (∃ M1 M2 : Nat → Int, BL (bF F) M1 32768 (dsL 0 sv_many.toInt (ptS dt 0 Q0 Q0.length) (dxE dx 0 0) (dxZ dx 0 0)) ∧ BL M1 M2 34816 (dsL 1 sv_many.toInt (ptS dt 1 Q1 Q1.length) (dxE dx 1 0) (dxZ dx 1 0)) ∧ BL M2 (bF G) 36864 (dhL 255))) (fun (u : (Nat → Int64)) (t : State) => match u with | G => va_P D CL [(h0, .inr (11, MO ma sv_thrown sv_length sv_nodes sv_many sv_directories sv_runsFrom sv_runs sv_read sv_wrong sv_isNamed sv_goes sv_goesSize sv_goesAt sv_targetParts sv_isRoot)), ((ma 16), .inl (cJ, 46080, .inr (.inl G))), ((ma 1), .inl (cI, 40, .inl fK)), ((ma 9), .inl (cI, 40, .inl fNS)), ((ma 13), .inl (cI, 40, .inl fBs)), ((ma 15), .inl (cI, 40, .inl fEs)), ((ma 17), .inl (cI, 24, .inl fTb)), ((ma 18), .inl (cI, 80, .inl fSe)), ((ma 19), .inl (cI, 80, .inl fSs))] t.heap ∧ va_D (va_A [(h0, .inr (11, MO ma sv_thrown sv_length sv_nodes sv_many sv_directories sv_runsFrom sv_runs sv_read sv_wrong sv_isNamed sv_goes sv_goesSize sv_goesAt sv_targetParts sv_isRoot)), ((ma 16), .inl (cJ, 46080, .inr (.inl F))), ((ma 1), .inl (cI, 40, .inl fK)), ((ma 9), .inl (cI, 40, .inl fNS)), ((ma 13), .inl (cI, 40, .inl fBs)), ((ma 15), .inl (cI, 40, .inl fEs)), ((ma 17), .inl (cI, 24, .inl fTb)), ((ma 18), .inl (cI, 80, .inl fSe)), ((ma 19), .inl (cI, 80, .inl fSs))] sz) [(h0, .inr (11, MO ma sv_thrown sv_length sv_nodes sv_many sv_directories sv_runsFrom sv_runs sv_read sv_wrong sv_isNamed sv_goes sv_goesSize sv_goesAt sv_targetParts sv_isRoot)), ((ma 16), .inl (cJ, 46080, .inr (.inl G))), ((ma 1), .inl (cI, 40, .inl fK)), ((ma 9), .inl (cI, 40, .inl fNS)), ((ma 13), .inl (cI, 40, .inl fBs)), ((ma 15), .inl (cI, 40, .inl fEs)), ((ma 17), .inl (cI, 24, .inl fTb)), ((ma 18), .inl (cI, 80, .inl fSe)), ((ma 19), .inl (cI, 80, .inl fSs))]) (va_A [(h0, .inr (11, MO ma sv_thrown sv_length sv_nodes sv_many sv_directories sv_runsFrom sv_runs sv_read sv_wrong sv_isNamed sv_goes sv_goesSize sv_goesAt sv_targetParts sv_isRoot)), ((ma 16), .inl (cJ, 46080, .inr (.inl F))), ((ma 1), .inl (cI, 40, .inl fK)), ((ma 9), .inl (cI, 40, .inl fNS)), ((ma 13), .inl (cI, 40, .inl fBs)), ((ma 15), .inl (cI, 40, .inl fEs)), ((ma 17), .inl (cI, 24, .inl fTb)), ((ma 18), .inl (cI, 80, .inl fSe)), ((ma 19), .inl (cI, 80, .inl fSs))] sz)) 0 0 (va_A [(h0, .inr (11, MO ma sv_thrown sv_length sv_nodes sv_many sv_directories sv_runsFrom sv_runs sv_read sv_wrong sv_isNamed sv_goes sv_goesSize sv_goesAt sv_targetParts sv_isRoot)), ((ma 16), .inl (cJ, 46080, .inr (.inl F))), ((ma 1), .inl (cI, 40, .inl fK)), ((ma 9), .inl (cI, 40, .inl fNS)), ((ma 13), .inl (cI, 40, .inl fBs)), ((ma 15), .inl (cI, 40, .inl fEs)), ((ma 17), .inl (cI, 24, .inl fTb)), ((ma 18), .inl (cI, 80, .inl fSe)), ((ma 19), .inl (cI, 80, .inl fSs))] sz) := by
  refine Met.ofW (cc := b_DiscMakerModel_describe) (maxL := 4) (ret := none) (by decide) rfl ?_
  intro p e s m args below meth c s₁ B hml hv
  obtain ⟨rfl, hsz, hP, hK, hN, hD0⟩ := hv
  have hx := B.exec
  have hb := B.bytes
  have hr := B.returns
  have hts := atoms_spec (ws := w_DiscMakerModel_describe) B.pre
  have ht9 := fun (w : Cond) (h : w ∈ lw_g) => hts w (List.mem_cons_of_mem _ h)
  have hown : s.vm.findClass "DiscMakerModel" = some m.cls := findClass_of_methodNamed B.named
  have hlocks := B.notSynchronized
  subst hsz
  have hD := hD0.self (sz := s.heap.size)
  generalize hAe : va_A [(h0, .inr (11, MO ma sv_thrown sv_length sv_nodes sv_many sv_directories sv_runsFrom sv_runs sv_read sv_wrong sv_isNamed sv_goes sv_goesSize sv_goesAt sv_targetParts sv_isRoot)), ((ma 16), .inl (cJ, 46080, .inr (.inl F))), ((ma 1), .inl (cI, 40, .inl fK)), ((ma 9), .inl (cI, 40, .inl fNS)), ((ma 13), .inl (cI, 40, .inl fBs)), ((ma 15), .inl (cI, 40, .inl fEs)), ((ma 17), .inl (cI, 24, .inl fTb)), ((ma 18), .inl (cI, 80, .inl fSe)), ((ma 19), .inl (cI, 80, .inl fSs))] s.heap.size = A at hD ⊢
  have hA : ∀ q : Nat, s.heap.size ≤ q → A q := fun q h => by rw [← hAe]; exact Or.inr h
  have hS : va_S A s.heap s.heap [] := va_S.rf
  have hP : va_P D CL [(h0, .inr (11, MO ma sv_thrown sv_length sv_nodes sv_many sv_directories sv_runsFrom sv_runs sv_read sv_wrong sv_isNamed sv_goes sv_goesSize sv_goesAt sv_targetParts sv_isRoot)), ((ma 16), .inl (cJ, 46080, .inr (.inl F))), ((ma 1), .inl (cI, 40, .inl fK)), ((ma 9), .inl (cI, 40, .inl fNS)), ((ma 13), .inl (cI, 40, .inl fBs)), ((ma 15), .inl (cI, 40, .inl fEs)), ((ma 17), .inl (cI, 24, .inl fTb)), ((ma 18), .inl (cI, 80, .inl fSe)), ((ma 19), .inl (cI, 80, .inl fSs))] s.heap := hP
  have hl := lv_entry [.ref h0] (n := 4) (Nat.le_of_ble_eq_true rfl)
  rw [lg_entry_eq]
  generalize (lg_sl [.ref h0] ++ List.replicate (4 - (lg_sl [.ref h0]).length) Slot.unset).toArray = ls at hl ⊢
  have hl : lv_has ls 4 [(0, .ref h0)] := hl
  have L_m1 : ((-1) : Int32).toInt = (-1) := by decide
  have L_0 : (0 : Int32).toInt = 0 := by decide
  have L_1 : (1 : Int32).toInt = 1 := by decide
  have L_2 : (2 : Int32).toInt = 2 := by decide
  have L_3 : (3 : Int32).toInt = 3 := by decide
  have L_4 : (4 : Int32).toInt = 4 := by decide
  have L_5 : (5 : Int32).toInt = 5 := by decide
  have L_6 : (6 : Int32).toInt = 6 := by decide
  have L_8 : (8 : Int32).toInt = 8 := by decide
  have L_16 : (16 : Int32).toInt = 16 := by decide
  have L_17 : (17 : Int32).toInt = 17 := by decide
  have L_19 : (19 : Int32).toInt = 19 := by decide
  have L_20 : (20 : Int32).toInt = 20 := by decide
  have L_32 : (32 : Int32).toInt = 32 := by decide
  have L_37 : (37 : Int32).toInt = 37 := by decide
  have L_47 : (47 : Int32).toInt = 47 := by decide
  have L_48 : (48 : Int32).toInt = 48 := by decide
  have L_49 : (49 : Int32).toInt = 49 := by decide
  have L_67 : (67 : Int32).toInt = 67 := by decide
  have L_68 : (68 : Int32).toInt = 68 := by decide
  have L_69 : (69 : Int32).toInt = 69 := by decide
  have L_72 : (72 : Int32).toInt = 72 := by decide
  have L_80 : (80 : Int32).toInt = 80 := by decide
  have L_88 : (88 : Int32).toInt = 88 := by decide
  have L_89 : (89 : Int32).toInt = 89 := by decide
  have L_90 : (90 : Int32).toInt = 90 := by decide
  have L_120 : (120 : Int32).toInt = 120 := by decide
  have L_124 : (124 : Int32).toInt = 124 := by decide
  have L_128 : (128 : Int32).toInt = 128 := by decide
  have L_132 : (132 : Int32).toInt = 132 := by decide
  have L_140 : (140 : Int32).toInt = 140 := by decide
  have L_148 : (148 : Int32).toInt = 148 := by decide
  have L_156 : (156 : Int32).toInt = 156 := by decide
  have L_190 : (190 : Int32).toInt = 190 := by decide
  have L_255 : (255 : Int32).toInt = 255 := by decide
  have L_813 : (813 : Int32).toInt = 813 := by decide
  have L_881 : (881 : Int32).toInt = 881 := by decide
  have L_2048 : (2048 : Int32).toInt = 2048 := by decide
  refine lv_iconst (v := 0) hx hb d_DiscMakerModel_describe_0 (by decide) ?_
  refine lv_istore_n hx hb d_DiscMakerModel_describe_1 rfl hl (by decide) rfl (fun ls hl => ?_)
  have hl : lv_has ls 4 [(1, .int 0), (0, .ref h0)] := hl
  refine lv_iload_n hx hb d_DiscMakerModel_describe_2 rfl (lv_at hl 0 rfl) ?_
  refine lv_iconst (v := 3) hx hb d_DiscMakerModel_describe_3 (by decide) ?_
  refine lv_icmp_ge (tgt := 339) hx hb d_DiscMakerModel_describe_4 (by decide) (fun h_9 => absurd h_9 (by decide)) (fun _ => ?_)
  refine lv_sipush (v := 2048) hx hb d_DiscMakerModel_describe_7 (by decide) ?_
  refine lv_bipush (v := 16) hx hb d_DiscMakerModel_describe_10 (by decide) ?_
  refine lv_iload_n hx hb d_DiscMakerModel_describe_12 rfl (lv_at hl 0 rfl) ?_
  refine lv_iadd hx hb d_DiscMakerModel_describe_13 ?_
  refine W.eq (g2 := F0 m 14 ls [.int 16, .int 2048]) (by rw [show ((16 : Int32) + 0) = 16 from by decide]) ?_
  refine lv_imul hx hb d_DiscMakerModel_describe_14 ?_
  refine W.eq (g2 := F0 m 15 ls [.int 32768]) (by rw [show ((2048 : Int32) * 16) = 32768 from by decide]) ?_
  have L_32768 : (32768 : Int32).toInt = 32768 := by decide
  refine lv_istore_n hx hb d_DiscMakerModel_describe_15 rfl hl (by decide) rfl (fun ls hl => ?_)
  have hl : lv_has ls 4 [(2, .int 32768), (1, .int 0), (0, .ref h0)] := hl
  refine lv_aload_n hx hb d_DiscMakerModel_describe_16 rfl (lv_at hl 2 rfl) ?_
  refine lv_iload_n hx hb d_DiscMakerModel_describe_17 rfl (lv_at hl 0 rfl) ?_
  refine lv_iload_n hx hb d_DiscMakerModel_describe_18 rfl (lv_at hl 1 rfl) ?_
  refine lv_iconst (v := 2) hx hb d_DiscMakerModel_describe_19 (by decide) ?_
  refine lv_icmp_ge (tgt := 29) hx hb d_DiscMakerModel_describe_20 (by decide) (fun h_9 => absurd h_9 (by decide)) (fun _ => ?_)
  refine lv_iload_n hx hb d_DiscMakerModel_describe_23 rfl (lv_at hl 1 rfl) ?_
  refine lv_iconst (v := 1) hx hb d_DiscMakerModel_describe_24 (by decide) ?_
  refine lv_iadd hx hb d_DiscMakerModel_describe_25 ?_
  refine W.eq (g2 := F0 m 26 ls [.int 1, .int 32768, .ref h0]) (by rw [show ((0 : Int32) + 1) = 1 from by decide]) ?_
  refine lv_goto (tgt := 32) hx hb d_DiscMakerModel_describe_26 (by decide) ?_
  have hPc := hP.sub (ws' := [(h0, .inr (11, MO ma sv_thrown sv_length sv_nodes sv_many sv_directories sv_runsFrom sv_runs sv_read sv_wrong sv_isNamed sv_goes sv_goesSize sv_goesAt sv_targetParts sv_isRoot)), ((ma 16), .inl (cJ, 46080, .inr (.inl F)))]) [0, 1] rfl
  have hDc := hD.sub (ws' := [(h0, .inr (11, MO ma sv_thrown sv_length sv_nodes sv_many sv_directories sv_runsFrom sv_runs sv_read sv_wrong sv_isNamed sv_goes sv_goesSize sv_goesAt sv_targetParts sv_isRoot)), ((ma 16), .inl (cJ, 46080, .inr (.inl F)))]) [0, 1] (by decide +kernel) rfl
  have hFc := va_free (wc := [(h0, .inr (11, MO ma sv_thrown sv_length sv_nodes sv_many sv_directories sv_runsFrom sv_runs sv_read sv_wrong sv_isNamed sv_goes sv_goesSize sv_goesAt sv_targetParts sv_isRoot)), ((ma 16), .inl (cJ, 46080, .inr (.inl F)))]) hD hS hA [0, 1] rfl
  have hkc : 0 ≤ 0 := by decide
  have hks : 0 ≤ 0 := by decide
  refine va_callv (va_runV (C := "DiscMakerModel") (As := [.int 32768, .int 1]) (rest := []) ⟨hx, hb, hml, hown, hts⟩ (m_setF l D cB cI cJ cZ cN cF s.heap.size h0 ma sv_thrown sv_length sv_nodes sv_many sv_directories sv_runsFrom sv_runs sv_read sv_wrong sv_isNamed sv_goes sv_goesSize sv_goesAt sv_targetParts sv_isRoot F 32768 1 (by (try dsimp only); first | assumption | omega | trivial) (by (try dsimp only); first | assumption | omega | trivial)) (cwV 2 hts (lg_goodV k1727 k1729 k79 k125 kc_DiscMakerModel_set) rfl rfl rfl (by decide +kernel) ⟨Nat.le_of_ble_eq_true rfl, Nat.le_of_ble_eq_true rfl⟩) ⟨fun a U g mk q => by obtain ⟨q0, q1, qP, qK, qN, qD⟩ := q; exact ⟨q0, q1, qP, va_K.moved (u := U) (U := U.calling g mk a) (Vm.Alike.refl U.vm) qK, qN.calling, qD⟩, va_recv hK hP (ci := 11) (q0 := 0) rfl rfl, fun U hU hW => ⟨rfl, by rw [hU], by rw [hU]; exact hPc, va_K.moved hW.alike hK, NN.warm hW hN, hDc.weaken (fun _ _ _ _ => trivial)⟩⟩ rfl rfl hl.1 rfl (lv_room (Nat.le_of_ble_eq_true rfl)) d_DiscMakerModel_describe_32 ⟨hkc, hks⟩) hS (fun q _ h => hFc q h) hFc (fun u t H1 locs ht hvm hp_r1 hB hz1 hk1 hS => ?_)
  obtain ⟨G_2, rfl⟩ : ∃ z, z = u := ⟨_, rfl⟩
  obtain ⟨hP1, hD1⟩ := hB
  rw [ht] at hP1
  obtain ⟨hP, hD⟩ := va_join (wr := [((ma 1), .inl (cI, 40, .inl fK)), ((ma 9), .inl (cI, 40, .inl fNS)), ((ma 13), .inl (cI, 40, .inl fBs)), ((ma 15), .inl (cI, 40, .inl fEs)), ((ma 17), .inl (cI, 24, .inl fTb)), ((ma 18), .inl (cI, 80, .inl fSe)), ((ma 19), .inl (cI, 80, .inl fSs))]) (w1 := [(h0, .inr (11, MO ma sv_thrown sv_length sv_nodes sv_many sv_directories sv_runsFrom sv_runs sv_read sv_wrong sv_isNamed sv_goes sv_goesSize sv_goesAt sv_targetParts sv_isRoot)), ((ma 16), .inl (cJ, 46080, .inr (.inl G_2)))]) hP hD [0, 1] [2, 3, 4, 5, 6, 7, 8] rfl rfl (by decide +kernel) (by decide +kernel) hk1 hFc hP1 hD1
  clear hPc hDc hFc hP1 hD1 hk1 hz1 hkc hks
  generalize H1 = H at hP hS ⊢
  have hP : va_P D CL [((ma 1), .inl (cI, 40, .inl fK)), ((ma 9), .inl (cI, 40, .inl fNS)), ((ma 13), .inl (cI, 40, .inl fBs)), ((ma 15), .inl (cI, 40, .inl fEs)), ((ma 17), .inl (cI, 24, .inl fTb)), ((ma 18), .inl (cI, 80, .inl fSe)), ((ma 19), .inl (cI, 80, .inl fSs)), (h0, .inr (11, MO ma sv_thrown sv_length sv_nodes sv_many sv_directories sv_runsFrom sv_runs sv_read sv_wrong sv_isNamed sv_goes sv_goesSize sv_goesAt sv_targetParts sv_isRoot)), ((ma 16), .inl (cJ, 46080, .inr (.inl G_2)))] H := hP
  have hD : va_D A [((ma 1), .inl (cI, 40, .inl fK)), ((ma 9), .inl (cI, 40, .inl fNS)), ((ma 13), .inl (cI, 40, .inl fBs)), ((ma 15), .inl (cI, 40, .inl fEs)), ((ma 17), .inl (cI, 24, .inl fTb)), ((ma 18), .inl (cI, 80, .inl fSe)), ((ma 19), .inl (cI, 80, .inl fSs)), (h0, .inr (11, MO ma sv_thrown sv_length sv_nodes sv_many sv_directories sv_runsFrom sv_runs sv_read sv_wrong sv_isNamed sv_goes sv_goesSize sv_goesAt sv_targetParts sv_isRoot)), ((ma 16), .inl (cJ, 46080, .inr (.inl G_2)))] := hD
  try dsimp only at hp_r1
  have hw_3 := hp_r1
  try rw [L_1] at hw_3
  try rw [L_32768] at hw_3
  refine lv_aload_n hx hb d_DiscMakerModel_describe_35 rfl (lv_at hl 2 rfl) ?_
  refine lv_iload_n hx hb d_DiscMakerModel_describe_36 rfl (lv_at hl 0 rfl) ?_
  refine lv_iconst (v := 1) hx hb d_DiscMakerModel_describe_37 (by decide) ?_
  refine lv_iadd hx hb d_DiscMakerModel_describe_38 ?_
  refine W.eq (g2 := F0 m 39 ls [.int 32769, .ref h0]) (by rw [show ((32768 : Int32) + 1) = 32769 from by decide]) ?_
  have L_32769 : (32769 : Int32).toInt = 32769 := by decide
  refine lv_bipush (v := 67) hx hb d_DiscMakerModel_describe_39 (by decide) ?_
  have hPc := hP.sub (ws' := [(h0, .inr (11, MO ma sv_thrown sv_length sv_nodes sv_many sv_directories sv_runsFrom sv_runs sv_read sv_wrong sv_isNamed sv_goes sv_goesSize sv_goesAt sv_targetParts sv_isRoot)), ((ma 16), .inl (cJ, 46080, .inr (.inl G_2)))]) [7, 8] rfl
  have hDc := hD.sub (ws' := [(h0, .inr (11, MO ma sv_thrown sv_length sv_nodes sv_many sv_directories sv_runsFrom sv_runs sv_read sv_wrong sv_isNamed sv_goes sv_goesSize sv_goesAt sv_targetParts sv_isRoot)), ((ma 16), .inl (cJ, 46080, .inr (.inl G_2)))]) [7, 8] (by decide +kernel) rfl
  have hFc := va_free (wc := [(h0, .inr (11, MO ma sv_thrown sv_length sv_nodes sv_many sv_directories sv_runsFrom sv_runs sv_read sv_wrong sv_isNamed sv_goes sv_goesSize sv_goesAt sv_targetParts sv_isRoot)), ((ma 16), .inl (cJ, 46080, .inr (.inl G_2)))]) hD hS hA [7, 8] rfl
  have hkc : 0 ≤ 0 := by decide
  have hks : 0 ≤ 0 := by decide
  refine va_callv (va_runV (C := "DiscMakerModel") (As := [.int 32769, .int 67]) (rest := []) ⟨hx, hb, hml, hown, hts⟩ (m_setF l D cB cI cJ cZ cN cF H.size h0 ma sv_thrown sv_length sv_nodes sv_many sv_directories sv_runsFrom sv_runs sv_read sv_wrong sv_isNamed sv_goes sv_goesSize sv_goesAt sv_targetParts sv_isRoot G_2 32769 67 (by (try dsimp only); first | assumption | omega | trivial) (by (try dsimp only); first | assumption | omega | trivial)) (cwV 2 hts (lg_goodV k1727 k1729 k79 k125 kc_DiscMakerModel_set) rfl rfl rfl (by decide +kernel) ⟨Nat.le_of_ble_eq_true rfl, Nat.le_of_ble_eq_true rfl⟩) ⟨fun a U g mk q => by obtain ⟨q0, q1, qP, qK, qN, qD⟩ := q; exact ⟨q0, q1, qP, va_K.moved (u := U) (U := U.calling g mk a) (Vm.Alike.refl U.vm) qK, qN.calling, qD⟩, va_recv hK hP (ci := 11) (q0 := 7) rfl rfl, fun U hU hW => ⟨rfl, by rw [hU], by rw [hU]; exact hPc, va_K.moved hW.alike hK, NN.warm hW hN, hDc.weaken (fun _ _ _ _ => trivial)⟩⟩ rfl rfl hl.1 rfl (lv_room (Nat.le_of_ble_eq_true rfl)) d_DiscMakerModel_describe_41 ⟨hkc, hks⟩) hS (fun q _ h => hFc q h) hFc (fun u t H1 locs ht hvm hp_r4 hB hz1 hk1 hS => ?_)
  obtain ⟨G_5, rfl⟩ : ∃ z, z = u := ⟨_, rfl⟩
  obtain ⟨hP1, hD1⟩ := hB
  rw [ht] at hP1
  obtain ⟨hP, hD⟩ := va_join (wr := [((ma 1), .inl (cI, 40, .inl fK)), ((ma 9), .inl (cI, 40, .inl fNS)), ((ma 13), .inl (cI, 40, .inl fBs)), ((ma 15), .inl (cI, 40, .inl fEs)), ((ma 17), .inl (cI, 24, .inl fTb)), ((ma 18), .inl (cI, 80, .inl fSe)), ((ma 19), .inl (cI, 80, .inl fSs))]) (w1 := [(h0, .inr (11, MO ma sv_thrown sv_length sv_nodes sv_many sv_directories sv_runsFrom sv_runs sv_read sv_wrong sv_isNamed sv_goes sv_goesSize sv_goesAt sv_targetParts sv_isRoot)), ((ma 16), .inl (cJ, 46080, .inr (.inl G_5)))]) hP hD [7, 8] [0, 1, 2, 3, 4, 5, 6] rfl rfl (by decide +kernel) (by decide +kernel) hk1 hFc hP1 hD1
  clear hPc hDc hFc hP1 hD1 hk1 hz1 hkc hks
  generalize H1 = H at hP hS ⊢
  have hP : va_P D CL [((ma 1), .inl (cI, 40, .inl fK)), ((ma 9), .inl (cI, 40, .inl fNS)), ((ma 13), .inl (cI, 40, .inl fBs)), ((ma 15), .inl (cI, 40, .inl fEs)), ((ma 17), .inl (cI, 24, .inl fTb)), ((ma 18), .inl (cI, 80, .inl fSe)), ((ma 19), .inl (cI, 80, .inl fSs)), (h0, .inr (11, MO ma sv_thrown sv_length sv_nodes sv_many sv_directories sv_runsFrom sv_runs sv_read sv_wrong sv_isNamed sv_goes sv_goesSize sv_goesAt sv_targetParts sv_isRoot)), ((ma 16), .inl (cJ, 46080, .inr (.inl G_5)))] H := hP
  have hD : va_D A [((ma 1), .inl (cI, 40, .inl fK)), ((ma 9), .inl (cI, 40, .inl fNS)), ((ma 13), .inl (cI, 40, .inl fBs)), ((ma 15), .inl (cI, 40, .inl fEs)), ((ma 17), .inl (cI, 24, .inl fTb)), ((ma 18), .inl (cI, 80, .inl fSe)), ((ma 19), .inl (cI, 80, .inl fSs)), (h0, .inr (11, MO ma sv_thrown sv_length sv_nodes sv_many sv_directories sv_runsFrom sv_runs sv_read sv_wrong sv_isNamed sv_goes sv_goesSize sv_goesAt sv_targetParts sv_isRoot)), ((ma 16), .inl (cJ, 46080, .inr (.inl G_5)))] := hD
  try dsimp only at hp_r4
  have hw_6 := hp_r4
  try rw [L_67] at hw_6
  try rw [L_32769] at hw_6
  refine lv_aload_n hx hb d_DiscMakerModel_describe_44 rfl (lv_at hl 2 rfl) ?_
  refine lv_iload_n hx hb d_DiscMakerModel_describe_45 rfl (lv_at hl 0 rfl) ?_
  refine lv_iconst (v := 2) hx hb d_DiscMakerModel_describe_46 (by decide) ?_
  refine lv_iadd hx hb d_DiscMakerModel_describe_47 ?_
  refine W.eq (g2 := F0 m 48 ls [.int 32770, .ref h0]) (by rw [show ((32768 : Int32) + 2) = 32770 from by decide]) ?_
  have L_32770 : (32770 : Int32).toInt = 32770 := by decide
  refine lv_bipush (v := 68) hx hb d_DiscMakerModel_describe_48 (by decide) ?_
  have hPc := hP.sub (ws' := [(h0, .inr (11, MO ma sv_thrown sv_length sv_nodes sv_many sv_directories sv_runsFrom sv_runs sv_read sv_wrong sv_isNamed sv_goes sv_goesSize sv_goesAt sv_targetParts sv_isRoot)), ((ma 16), .inl (cJ, 46080, .inr (.inl G_5)))]) [7, 8] rfl
  have hDc := hD.sub (ws' := [(h0, .inr (11, MO ma sv_thrown sv_length sv_nodes sv_many sv_directories sv_runsFrom sv_runs sv_read sv_wrong sv_isNamed sv_goes sv_goesSize sv_goesAt sv_targetParts sv_isRoot)), ((ma 16), .inl (cJ, 46080, .inr (.inl G_5)))]) [7, 8] (by decide +kernel) rfl
  have hFc := va_free (wc := [(h0, .inr (11, MO ma sv_thrown sv_length sv_nodes sv_many sv_directories sv_runsFrom sv_runs sv_read sv_wrong sv_isNamed sv_goes sv_goesSize sv_goesAt sv_targetParts sv_isRoot)), ((ma 16), .inl (cJ, 46080, .inr (.inl G_5)))]) hD hS hA [7, 8] rfl
  have hkc : 0 ≤ 0 := by decide
  have hks : 0 ≤ 0 := by decide
  refine va_callv (va_runV (C := "DiscMakerModel") (As := [.int 32770, .int 68]) (rest := []) ⟨hx, hb, hml, hown, hts⟩ (m_setF l D cB cI cJ cZ cN cF H.size h0 ma sv_thrown sv_length sv_nodes sv_many sv_directories sv_runsFrom sv_runs sv_read sv_wrong sv_isNamed sv_goes sv_goesSize sv_goesAt sv_targetParts sv_isRoot G_5 32770 68 (by (try dsimp only); first | assumption | omega | trivial) (by (try dsimp only); first | assumption | omega | trivial)) (cwV 2 hts (lg_goodV k1727 k1729 k79 k125 kc_DiscMakerModel_set) rfl rfl rfl (by decide +kernel) ⟨Nat.le_of_ble_eq_true rfl, Nat.le_of_ble_eq_true rfl⟩) ⟨fun a U g mk q => by obtain ⟨q0, q1, qP, qK, qN, qD⟩ := q; exact ⟨q0, q1, qP, va_K.moved (u := U) (U := U.calling g mk a) (Vm.Alike.refl U.vm) qK, qN.calling, qD⟩, va_recv hK hP (ci := 11) (q0 := 7) rfl rfl, fun U hU hW => ⟨rfl, by rw [hU], by rw [hU]; exact hPc, va_K.moved hW.alike hK, NN.warm hW hN, hDc.weaken (fun _ _ _ _ => trivial)⟩⟩ rfl rfl hl.1 rfl (lv_room (Nat.le_of_ble_eq_true rfl)) d_DiscMakerModel_describe_50 ⟨hkc, hks⟩) hS (fun q _ h => hFc q h) hFc (fun u t H1 locs ht hvm hp_r7 hB hz1 hk1 hS => ?_)
  obtain ⟨G_8, rfl⟩ : ∃ z, z = u := ⟨_, rfl⟩
  obtain ⟨hP1, hD1⟩ := hB
  rw [ht] at hP1
  obtain ⟨hP, hD⟩ := va_join (wr := [((ma 1), .inl (cI, 40, .inl fK)), ((ma 9), .inl (cI, 40, .inl fNS)), ((ma 13), .inl (cI, 40, .inl fBs)), ((ma 15), .inl (cI, 40, .inl fEs)), ((ma 17), .inl (cI, 24, .inl fTb)), ((ma 18), .inl (cI, 80, .inl fSe)), ((ma 19), .inl (cI, 80, .inl fSs))]) (w1 := [(h0, .inr (11, MO ma sv_thrown sv_length sv_nodes sv_many sv_directories sv_runsFrom sv_runs sv_read sv_wrong sv_isNamed sv_goes sv_goesSize sv_goesAt sv_targetParts sv_isRoot)), ((ma 16), .inl (cJ, 46080, .inr (.inl G_8)))]) hP hD [7, 8] [0, 1, 2, 3, 4, 5, 6] rfl rfl (by decide +kernel) (by decide +kernel) hk1 hFc hP1 hD1
  clear hPc hDc hFc hP1 hD1 hk1 hz1 hkc hks
  generalize H1 = H at hP hS ⊢
  have hP : va_P D CL [((ma 1), .inl (cI, 40, .inl fK)), ((ma 9), .inl (cI, 40, .inl fNS)), ((ma 13), .inl (cI, 40, .inl fBs)), ((ma 15), .inl (cI, 40, .inl fEs)), ((ma 17), .inl (cI, 24, .inl fTb)), ((ma 18), .inl (cI, 80, .inl fSe)), ((ma 19), .inl (cI, 80, .inl fSs)), (h0, .inr (11, MO ma sv_thrown sv_length sv_nodes sv_many sv_directories sv_runsFrom sv_runs sv_read sv_wrong sv_isNamed sv_goes sv_goesSize sv_goesAt sv_targetParts sv_isRoot)), ((ma 16), .inl (cJ, 46080, .inr (.inl G_8)))] H := hP
  have hD : va_D A [((ma 1), .inl (cI, 40, .inl fK)), ((ma 9), .inl (cI, 40, .inl fNS)), ((ma 13), .inl (cI, 40, .inl fBs)), ((ma 15), .inl (cI, 40, .inl fEs)), ((ma 17), .inl (cI, 24, .inl fTb)), ((ma 18), .inl (cI, 80, .inl fSe)), ((ma 19), .inl (cI, 80, .inl fSs)), (h0, .inr (11, MO ma sv_thrown sv_length sv_nodes sv_many sv_directories sv_runsFrom sv_runs sv_read sv_wrong sv_isNamed sv_goes sv_goesSize sv_goesAt sv_targetParts sv_isRoot)), ((ma 16), .inl (cJ, 46080, .inr (.inl G_8)))] := hD
  try dsimp only at hp_r7
  have hw_9 := hp_r7
  try rw [L_68] at hw_9
  try rw [L_32770] at hw_9
  refine lv_aload_n hx hb d_DiscMakerModel_describe_53 rfl (lv_at hl 2 rfl) ?_
  refine lv_iload_n hx hb d_DiscMakerModel_describe_54 rfl (lv_at hl 0 rfl) ?_
  refine lv_iconst (v := 3) hx hb d_DiscMakerModel_describe_55 (by decide) ?_
  refine lv_iadd hx hb d_DiscMakerModel_describe_56 ?_
  refine W.eq (g2 := F0 m 57 ls [.int 32771, .ref h0]) (by rw [show ((32768 : Int32) + 3) = 32771 from by decide]) ?_
  have L_32771 : (32771 : Int32).toInt = 32771 := by decide
  refine lv_bipush (v := 48) hx hb d_DiscMakerModel_describe_57 (by decide) ?_
  have hPc := hP.sub (ws' := [(h0, .inr (11, MO ma sv_thrown sv_length sv_nodes sv_many sv_directories sv_runsFrom sv_runs sv_read sv_wrong sv_isNamed sv_goes sv_goesSize sv_goesAt sv_targetParts sv_isRoot)), ((ma 16), .inl (cJ, 46080, .inr (.inl G_8)))]) [7, 8] rfl
  have hDc := hD.sub (ws' := [(h0, .inr (11, MO ma sv_thrown sv_length sv_nodes sv_many sv_directories sv_runsFrom sv_runs sv_read sv_wrong sv_isNamed sv_goes sv_goesSize sv_goesAt sv_targetParts sv_isRoot)), ((ma 16), .inl (cJ, 46080, .inr (.inl G_8)))]) [7, 8] (by decide +kernel) rfl
  have hFc := va_free (wc := [(h0, .inr (11, MO ma sv_thrown sv_length sv_nodes sv_many sv_directories sv_runsFrom sv_runs sv_read sv_wrong sv_isNamed sv_goes sv_goesSize sv_goesAt sv_targetParts sv_isRoot)), ((ma 16), .inl (cJ, 46080, .inr (.inl G_8)))]) hD hS hA [7, 8] rfl
  have hkc : 0 ≤ 0 := by decide
  have hks : 0 ≤ 0 := by decide
  refine va_callv (va_runV (C := "DiscMakerModel") (As := [.int 32771, .int 48]) (rest := []) ⟨hx, hb, hml, hown, hts⟩ (m_setF l D cB cI cJ cZ cN cF H.size h0 ma sv_thrown sv_length sv_nodes sv_many sv_directories sv_runsFrom sv_runs sv_read sv_wrong sv_isNamed sv_goes sv_goesSize sv_goesAt sv_targetParts sv_isRoot G_8 32771 48 (by (try dsimp only); first | assumption | omega | trivial) (by (try dsimp only); first | assumption | omega | trivial)) (cwV 2 hts (lg_goodV k1727 k1729 k79 k125 kc_DiscMakerModel_set) rfl rfl rfl (by decide +kernel) ⟨Nat.le_of_ble_eq_true rfl, Nat.le_of_ble_eq_true rfl⟩) ⟨fun a U g mk q => by obtain ⟨q0, q1, qP, qK, qN, qD⟩ := q; exact ⟨q0, q1, qP, va_K.moved (u := U) (U := U.calling g mk a) (Vm.Alike.refl U.vm) qK, qN.calling, qD⟩, va_recv hK hP (ci := 11) (q0 := 7) rfl rfl, fun U hU hW => ⟨rfl, by rw [hU], by rw [hU]; exact hPc, va_K.moved hW.alike hK, NN.warm hW hN, hDc.weaken (fun _ _ _ _ => trivial)⟩⟩ rfl rfl hl.1 rfl (lv_room (Nat.le_of_ble_eq_true rfl)) d_DiscMakerModel_describe_59 ⟨hkc, hks⟩) hS (fun q _ h => hFc q h) hFc (fun u t H1 locs ht hvm hp_r10 hB hz1 hk1 hS => ?_)
  obtain ⟨G_11, rfl⟩ : ∃ z, z = u := ⟨_, rfl⟩
  obtain ⟨hP1, hD1⟩ := hB
  rw [ht] at hP1
  obtain ⟨hP, hD⟩ := va_join (wr := [((ma 1), .inl (cI, 40, .inl fK)), ((ma 9), .inl (cI, 40, .inl fNS)), ((ma 13), .inl (cI, 40, .inl fBs)), ((ma 15), .inl (cI, 40, .inl fEs)), ((ma 17), .inl (cI, 24, .inl fTb)), ((ma 18), .inl (cI, 80, .inl fSe)), ((ma 19), .inl (cI, 80, .inl fSs))]) (w1 := [(h0, .inr (11, MO ma sv_thrown sv_length sv_nodes sv_many sv_directories sv_runsFrom sv_runs sv_read sv_wrong sv_isNamed sv_goes sv_goesSize sv_goesAt sv_targetParts sv_isRoot)), ((ma 16), .inl (cJ, 46080, .inr (.inl G_11)))]) hP hD [7, 8] [0, 1, 2, 3, 4, 5, 6] rfl rfl (by decide +kernel) (by decide +kernel) hk1 hFc hP1 hD1
  clear hPc hDc hFc hP1 hD1 hk1 hz1 hkc hks
  generalize H1 = H at hP hS ⊢
  have hP : va_P D CL [((ma 1), .inl (cI, 40, .inl fK)), ((ma 9), .inl (cI, 40, .inl fNS)), ((ma 13), .inl (cI, 40, .inl fBs)), ((ma 15), .inl (cI, 40, .inl fEs)), ((ma 17), .inl (cI, 24, .inl fTb)), ((ma 18), .inl (cI, 80, .inl fSe)), ((ma 19), .inl (cI, 80, .inl fSs)), (h0, .inr (11, MO ma sv_thrown sv_length sv_nodes sv_many sv_directories sv_runsFrom sv_runs sv_read sv_wrong sv_isNamed sv_goes sv_goesSize sv_goesAt sv_targetParts sv_isRoot)), ((ma 16), .inl (cJ, 46080, .inr (.inl G_11)))] H := hP
  have hD : va_D A [((ma 1), .inl (cI, 40, .inl fK)), ((ma 9), .inl (cI, 40, .inl fNS)), ((ma 13), .inl (cI, 40, .inl fBs)), ((ma 15), .inl (cI, 40, .inl fEs)), ((ma 17), .inl (cI, 24, .inl fTb)), ((ma 18), .inl (cI, 80, .inl fSe)), ((ma 19), .inl (cI, 80, .inl fSs)), (h0, .inr (11, MO ma sv_thrown sv_length sv_nodes sv_many sv_directories sv_runsFrom sv_runs sv_read sv_wrong sv_isNamed sv_goes sv_goesSize sv_goesAt sv_targetParts sv_isRoot)), ((ma 16), .inl (cJ, 46080, .inr (.inl G_11)))] := hD
  try dsimp only at hp_r10
  have hw_12 := hp_r10
  try rw [L_48] at hw_12
  try rw [L_32771] at hw_12
  refine lv_aload_n hx hb d_DiscMakerModel_describe_62 rfl (lv_at hl 2 rfl) ?_
  refine lv_iload_n hx hb d_DiscMakerModel_describe_63 rfl (lv_at hl 0 rfl) ?_
  refine lv_iconst (v := 4) hx hb d_DiscMakerModel_describe_64 (by decide) ?_
  refine lv_iadd hx hb d_DiscMakerModel_describe_65 ?_
  refine W.eq (g2 := F0 m 66 ls [.int 32772, .ref h0]) (by rw [show ((32768 : Int32) + 4) = 32772 from by decide]) ?_
  have L_32772 : (32772 : Int32).toInt = 32772 := by decide
  refine lv_bipush (v := 48) hx hb d_DiscMakerModel_describe_66 (by decide) ?_
  have hPc := hP.sub (ws' := [(h0, .inr (11, MO ma sv_thrown sv_length sv_nodes sv_many sv_directories sv_runsFrom sv_runs sv_read sv_wrong sv_isNamed sv_goes sv_goesSize sv_goesAt sv_targetParts sv_isRoot)), ((ma 16), .inl (cJ, 46080, .inr (.inl G_11)))]) [7, 8] rfl
  have hDc := hD.sub (ws' := [(h0, .inr (11, MO ma sv_thrown sv_length sv_nodes sv_many sv_directories sv_runsFrom sv_runs sv_read sv_wrong sv_isNamed sv_goes sv_goesSize sv_goesAt sv_targetParts sv_isRoot)), ((ma 16), .inl (cJ, 46080, .inr (.inl G_11)))]) [7, 8] (by decide +kernel) rfl
  have hFc := va_free (wc := [(h0, .inr (11, MO ma sv_thrown sv_length sv_nodes sv_many sv_directories sv_runsFrom sv_runs sv_read sv_wrong sv_isNamed sv_goes sv_goesSize sv_goesAt sv_targetParts sv_isRoot)), ((ma 16), .inl (cJ, 46080, .inr (.inl G_11)))]) hD hS hA [7, 8] rfl
  have hkc : 0 ≤ 0 := by decide
  have hks : 0 ≤ 0 := by decide
  refine va_callv (va_runV (C := "DiscMakerModel") (As := [.int 32772, .int 48]) (rest := []) ⟨hx, hb, hml, hown, hts⟩ (m_setF l D cB cI cJ cZ cN cF H.size h0 ma sv_thrown sv_length sv_nodes sv_many sv_directories sv_runsFrom sv_runs sv_read sv_wrong sv_isNamed sv_goes sv_goesSize sv_goesAt sv_targetParts sv_isRoot G_11 32772 48 (by (try dsimp only); first | assumption | omega | trivial) (by (try dsimp only); first | assumption | omega | trivial)) (cwV 2 hts (lg_goodV k1727 k1729 k79 k125 kc_DiscMakerModel_set) rfl rfl rfl (by decide +kernel) ⟨Nat.le_of_ble_eq_true rfl, Nat.le_of_ble_eq_true rfl⟩) ⟨fun a U g mk q => by obtain ⟨q0, q1, qP, qK, qN, qD⟩ := q; exact ⟨q0, q1, qP, va_K.moved (u := U) (U := U.calling g mk a) (Vm.Alike.refl U.vm) qK, qN.calling, qD⟩, va_recv hK hP (ci := 11) (q0 := 7) rfl rfl, fun U hU hW => ⟨rfl, by rw [hU], by rw [hU]; exact hPc, va_K.moved hW.alike hK, NN.warm hW hN, hDc.weaken (fun _ _ _ _ => trivial)⟩⟩ rfl rfl hl.1 rfl (lv_room (Nat.le_of_ble_eq_true rfl)) d_DiscMakerModel_describe_68 ⟨hkc, hks⟩) hS (fun q _ h => hFc q h) hFc (fun u t H1 locs ht hvm hp_r13 hB hz1 hk1 hS => ?_)
  obtain ⟨G_14, rfl⟩ : ∃ z, z = u := ⟨_, rfl⟩
  obtain ⟨hP1, hD1⟩ := hB
  rw [ht] at hP1
  obtain ⟨hP, hD⟩ := va_join (wr := [((ma 1), .inl (cI, 40, .inl fK)), ((ma 9), .inl (cI, 40, .inl fNS)), ((ma 13), .inl (cI, 40, .inl fBs)), ((ma 15), .inl (cI, 40, .inl fEs)), ((ma 17), .inl (cI, 24, .inl fTb)), ((ma 18), .inl (cI, 80, .inl fSe)), ((ma 19), .inl (cI, 80, .inl fSs))]) (w1 := [(h0, .inr (11, MO ma sv_thrown sv_length sv_nodes sv_many sv_directories sv_runsFrom sv_runs sv_read sv_wrong sv_isNamed sv_goes sv_goesSize sv_goesAt sv_targetParts sv_isRoot)), ((ma 16), .inl (cJ, 46080, .inr (.inl G_14)))]) hP hD [7, 8] [0, 1, 2, 3, 4, 5, 6] rfl rfl (by decide +kernel) (by decide +kernel) hk1 hFc hP1 hD1
  clear hPc hDc hFc hP1 hD1 hk1 hz1 hkc hks
  generalize H1 = H at hP hS ⊢
  have hP : va_P D CL [((ma 1), .inl (cI, 40, .inl fK)), ((ma 9), .inl (cI, 40, .inl fNS)), ((ma 13), .inl (cI, 40, .inl fBs)), ((ma 15), .inl (cI, 40, .inl fEs)), ((ma 17), .inl (cI, 24, .inl fTb)), ((ma 18), .inl (cI, 80, .inl fSe)), ((ma 19), .inl (cI, 80, .inl fSs)), (h0, .inr (11, MO ma sv_thrown sv_length sv_nodes sv_many sv_directories sv_runsFrom sv_runs sv_read sv_wrong sv_isNamed sv_goes sv_goesSize sv_goesAt sv_targetParts sv_isRoot)), ((ma 16), .inl (cJ, 46080, .inr (.inl G_14)))] H := hP
  have hD : va_D A [((ma 1), .inl (cI, 40, .inl fK)), ((ma 9), .inl (cI, 40, .inl fNS)), ((ma 13), .inl (cI, 40, .inl fBs)), ((ma 15), .inl (cI, 40, .inl fEs)), ((ma 17), .inl (cI, 24, .inl fTb)), ((ma 18), .inl (cI, 80, .inl fSe)), ((ma 19), .inl (cI, 80, .inl fSs)), (h0, .inr (11, MO ma sv_thrown sv_length sv_nodes sv_many sv_directories sv_runsFrom sv_runs sv_read sv_wrong sv_isNamed sv_goes sv_goesSize sv_goesAt sv_targetParts sv_isRoot)), ((ma 16), .inl (cJ, 46080, .inr (.inl G_14)))] := hD
  try dsimp only at hp_r13
  have hw_15 := hp_r13
  try rw [L_48] at hw_15
  try rw [L_32772] at hw_15
  refine lv_aload_n hx hb d_DiscMakerModel_describe_71 rfl (lv_at hl 2 rfl) ?_
  refine lv_iload_n hx hb d_DiscMakerModel_describe_72 rfl (lv_at hl 0 rfl) ?_
  refine lv_iconst (v := 5) hx hb d_DiscMakerModel_describe_73 (by decide) ?_
  refine lv_iadd hx hb d_DiscMakerModel_describe_74 ?_
  refine W.eq (g2 := F0 m 75 ls [.int 32773, .ref h0]) (by rw [show ((32768 : Int32) + 5) = 32773 from by decide]) ?_
  have L_32773 : (32773 : Int32).toInt = 32773 := by decide
  refine lv_bipush (v := 49) hx hb d_DiscMakerModel_describe_75 (by decide) ?_
  have hPc := hP.sub (ws' := [(h0, .inr (11, MO ma sv_thrown sv_length sv_nodes sv_many sv_directories sv_runsFrom sv_runs sv_read sv_wrong sv_isNamed sv_goes sv_goesSize sv_goesAt sv_targetParts sv_isRoot)), ((ma 16), .inl (cJ, 46080, .inr (.inl G_14)))]) [7, 8] rfl
  have hDc := hD.sub (ws' := [(h0, .inr (11, MO ma sv_thrown sv_length sv_nodes sv_many sv_directories sv_runsFrom sv_runs sv_read sv_wrong sv_isNamed sv_goes sv_goesSize sv_goesAt sv_targetParts sv_isRoot)), ((ma 16), .inl (cJ, 46080, .inr (.inl G_14)))]) [7, 8] (by decide +kernel) rfl
  have hFc := va_free (wc := [(h0, .inr (11, MO ma sv_thrown sv_length sv_nodes sv_many sv_directories sv_runsFrom sv_runs sv_read sv_wrong sv_isNamed sv_goes sv_goesSize sv_goesAt sv_targetParts sv_isRoot)), ((ma 16), .inl (cJ, 46080, .inr (.inl G_14)))]) hD hS hA [7, 8] rfl
  have hkc : 0 ≤ 0 := by decide
  have hks : 0 ≤ 0 := by decide
  refine va_callv (va_runV (C := "DiscMakerModel") (As := [.int 32773, .int 49]) (rest := []) ⟨hx, hb, hml, hown, hts⟩ (m_setF l D cB cI cJ cZ cN cF H.size h0 ma sv_thrown sv_length sv_nodes sv_many sv_directories sv_runsFrom sv_runs sv_read sv_wrong sv_isNamed sv_goes sv_goesSize sv_goesAt sv_targetParts sv_isRoot G_14 32773 49 (by (try dsimp only); first | assumption | omega | trivial) (by (try dsimp only); first | assumption | omega | trivial)) (cwV 2 hts (lg_goodV k1727 k1729 k79 k125 kc_DiscMakerModel_set) rfl rfl rfl (by decide +kernel) ⟨Nat.le_of_ble_eq_true rfl, Nat.le_of_ble_eq_true rfl⟩) ⟨fun a U g mk q => by obtain ⟨q0, q1, qP, qK, qN, qD⟩ := q; exact ⟨q0, q1, qP, va_K.moved (u := U) (U := U.calling g mk a) (Vm.Alike.refl U.vm) qK, qN.calling, qD⟩, va_recv hK hP (ci := 11) (q0 := 7) rfl rfl, fun U hU hW => ⟨rfl, by rw [hU], by rw [hU]; exact hPc, va_K.moved hW.alike hK, NN.warm hW hN, hDc.weaken (fun _ _ _ _ => trivial)⟩⟩ rfl rfl hl.1 rfl (lv_room (Nat.le_of_ble_eq_true rfl)) d_DiscMakerModel_describe_77 ⟨hkc, hks⟩) hS (fun q _ h => hFc q h) hFc (fun u t H1 locs ht hvm hp_r16 hB hz1 hk1 hS => ?_)
  obtain ⟨G_17, rfl⟩ : ∃ z, z = u := ⟨_, rfl⟩
  obtain ⟨hP1, hD1⟩ := hB
  rw [ht] at hP1
  obtain ⟨hP, hD⟩ := va_join (wr := [((ma 1), .inl (cI, 40, .inl fK)), ((ma 9), .inl (cI, 40, .inl fNS)), ((ma 13), .inl (cI, 40, .inl fBs)), ((ma 15), .inl (cI, 40, .inl fEs)), ((ma 17), .inl (cI, 24, .inl fTb)), ((ma 18), .inl (cI, 80, .inl fSe)), ((ma 19), .inl (cI, 80, .inl fSs))]) (w1 := [(h0, .inr (11, MO ma sv_thrown sv_length sv_nodes sv_many sv_directories sv_runsFrom sv_runs sv_read sv_wrong sv_isNamed sv_goes sv_goesSize sv_goesAt sv_targetParts sv_isRoot)), ((ma 16), .inl (cJ, 46080, .inr (.inl G_17)))]) hP hD [7, 8] [0, 1, 2, 3, 4, 5, 6] rfl rfl (by decide +kernel) (by decide +kernel) hk1 hFc hP1 hD1
  clear hPc hDc hFc hP1 hD1 hk1 hz1 hkc hks
  generalize H1 = H at hP hS ⊢
  have hP : va_P D CL [((ma 1), .inl (cI, 40, .inl fK)), ((ma 9), .inl (cI, 40, .inl fNS)), ((ma 13), .inl (cI, 40, .inl fBs)), ((ma 15), .inl (cI, 40, .inl fEs)), ((ma 17), .inl (cI, 24, .inl fTb)), ((ma 18), .inl (cI, 80, .inl fSe)), ((ma 19), .inl (cI, 80, .inl fSs)), (h0, .inr (11, MO ma sv_thrown sv_length sv_nodes sv_many sv_directories sv_runsFrom sv_runs sv_read sv_wrong sv_isNamed sv_goes sv_goesSize sv_goesAt sv_targetParts sv_isRoot)), ((ma 16), .inl (cJ, 46080, .inr (.inl G_17)))] H := hP
  have hD : va_D A [((ma 1), .inl (cI, 40, .inl fK)), ((ma 9), .inl (cI, 40, .inl fNS)), ((ma 13), .inl (cI, 40, .inl fBs)), ((ma 15), .inl (cI, 40, .inl fEs)), ((ma 17), .inl (cI, 24, .inl fTb)), ((ma 18), .inl (cI, 80, .inl fSe)), ((ma 19), .inl (cI, 80, .inl fSs)), (h0, .inr (11, MO ma sv_thrown sv_length sv_nodes sv_many sv_directories sv_runsFrom sv_runs sv_read sv_wrong sv_isNamed sv_goes sv_goesSize sv_goesAt sv_targetParts sv_isRoot)), ((ma 16), .inl (cJ, 46080, .inr (.inl G_17)))] := hD
  try dsimp only at hp_r16
  have hw_18 := hp_r16
  try rw [L_49] at hw_18
  try rw [L_32773] at hw_18
  refine lv_aload_n hx hb d_DiscMakerModel_describe_80 rfl (lv_at hl 2 rfl) ?_
  refine lv_iload_n hx hb d_DiscMakerModel_describe_81 rfl (lv_at hl 0 rfl) ?_
  refine lv_bipush (v := 6) hx hb d_DiscMakerModel_describe_82 (by decide) ?_
  refine lv_iadd hx hb d_DiscMakerModel_describe_84 ?_
  refine W.eq (g2 := F0 m 85 ls [.int 32774, .ref h0]) (by rw [show ((32768 : Int32) + 6) = 32774 from by decide]) ?_
  have L_32774 : (32774 : Int32).toInt = 32774 := by decide
  refine lv_iconst (v := 1) hx hb d_DiscMakerModel_describe_85 (by decide) ?_
  have hPc := hP.sub (ws' := [(h0, .inr (11, MO ma sv_thrown sv_length sv_nodes sv_many sv_directories sv_runsFrom sv_runs sv_read sv_wrong sv_isNamed sv_goes sv_goesSize sv_goesAt sv_targetParts sv_isRoot)), ((ma 16), .inl (cJ, 46080, .inr (.inl G_17)))]) [7, 8] rfl
  have hDc := hD.sub (ws' := [(h0, .inr (11, MO ma sv_thrown sv_length sv_nodes sv_many sv_directories sv_runsFrom sv_runs sv_read sv_wrong sv_isNamed sv_goes sv_goesSize sv_goesAt sv_targetParts sv_isRoot)), ((ma 16), .inl (cJ, 46080, .inr (.inl G_17)))]) [7, 8] (by decide +kernel) rfl
  have hFc := va_free (wc := [(h0, .inr (11, MO ma sv_thrown sv_length sv_nodes sv_many sv_directories sv_runsFrom sv_runs sv_read sv_wrong sv_isNamed sv_goes sv_goesSize sv_goesAt sv_targetParts sv_isRoot)), ((ma 16), .inl (cJ, 46080, .inr (.inl G_17)))]) hD hS hA [7, 8] rfl
  have hkc : 0 ≤ 0 := by decide
  have hks : 0 ≤ 0 := by decide
  refine va_callv (va_runV (C := "DiscMakerModel") (As := [.int 32774, .int 1]) (rest := []) ⟨hx, hb, hml, hown, hts⟩ (m_setF l D cB cI cJ cZ cN cF H.size h0 ma sv_thrown sv_length sv_nodes sv_many sv_directories sv_runsFrom sv_runs sv_read sv_wrong sv_isNamed sv_goes sv_goesSize sv_goesAt sv_targetParts sv_isRoot G_17 32774 1 (by (try dsimp only); first | assumption | omega | trivial) (by (try dsimp only); first | assumption | omega | trivial)) (cwV 2 hts (lg_goodV k1727 k1729 k79 k125 kc_DiscMakerModel_set) rfl rfl rfl (by decide +kernel) ⟨Nat.le_of_ble_eq_true rfl, Nat.le_of_ble_eq_true rfl⟩) ⟨fun a U g mk q => by obtain ⟨q0, q1, qP, qK, qN, qD⟩ := q; exact ⟨q0, q1, qP, va_K.moved (u := U) (U := U.calling g mk a) (Vm.Alike.refl U.vm) qK, qN.calling, qD⟩, va_recv hK hP (ci := 11) (q0 := 7) rfl rfl, fun U hU hW => ⟨rfl, by rw [hU], by rw [hU]; exact hPc, va_K.moved hW.alike hK, NN.warm hW hN, hDc.weaken (fun _ _ _ _ => trivial)⟩⟩ rfl rfl hl.1 rfl (lv_room (Nat.le_of_ble_eq_true rfl)) d_DiscMakerModel_describe_86 ⟨hkc, hks⟩) hS (fun q _ h => hFc q h) hFc (fun u t H1 locs ht hvm hp_r19 hB hz1 hk1 hS => ?_)
  obtain ⟨G_20, rfl⟩ : ∃ z, z = u := ⟨_, rfl⟩
  obtain ⟨hP1, hD1⟩ := hB
  rw [ht] at hP1
  obtain ⟨hP, hD⟩ := va_join (wr := [((ma 1), .inl (cI, 40, .inl fK)), ((ma 9), .inl (cI, 40, .inl fNS)), ((ma 13), .inl (cI, 40, .inl fBs)), ((ma 15), .inl (cI, 40, .inl fEs)), ((ma 17), .inl (cI, 24, .inl fTb)), ((ma 18), .inl (cI, 80, .inl fSe)), ((ma 19), .inl (cI, 80, .inl fSs))]) (w1 := [(h0, .inr (11, MO ma sv_thrown sv_length sv_nodes sv_many sv_directories sv_runsFrom sv_runs sv_read sv_wrong sv_isNamed sv_goes sv_goesSize sv_goesAt sv_targetParts sv_isRoot)), ((ma 16), .inl (cJ, 46080, .inr (.inl G_20)))]) hP hD [7, 8] [0, 1, 2, 3, 4, 5, 6] rfl rfl (by decide +kernel) (by decide +kernel) hk1 hFc hP1 hD1
  clear hPc hDc hFc hP1 hD1 hk1 hz1 hkc hks
  generalize H1 = H at hP hS ⊢
  have hP : va_P D CL [((ma 1), .inl (cI, 40, .inl fK)), ((ma 9), .inl (cI, 40, .inl fNS)), ((ma 13), .inl (cI, 40, .inl fBs)), ((ma 15), .inl (cI, 40, .inl fEs)), ((ma 17), .inl (cI, 24, .inl fTb)), ((ma 18), .inl (cI, 80, .inl fSe)), ((ma 19), .inl (cI, 80, .inl fSs)), (h0, .inr (11, MO ma sv_thrown sv_length sv_nodes sv_many sv_directories sv_runsFrom sv_runs sv_read sv_wrong sv_isNamed sv_goes sv_goesSize sv_goesAt sv_targetParts sv_isRoot)), ((ma 16), .inl (cJ, 46080, .inr (.inl G_20)))] H := hP
  have hD : va_D A [((ma 1), .inl (cI, 40, .inl fK)), ((ma 9), .inl (cI, 40, .inl fNS)), ((ma 13), .inl (cI, 40, .inl fBs)), ((ma 15), .inl (cI, 40, .inl fEs)), ((ma 17), .inl (cI, 24, .inl fTb)), ((ma 18), .inl (cI, 80, .inl fSe)), ((ma 19), .inl (cI, 80, .inl fSs)), (h0, .inr (11, MO ma sv_thrown sv_length sv_nodes sv_many sv_directories sv_runsFrom sv_runs sv_read sv_wrong sv_isNamed sv_goes sv_goesSize sv_goesAt sv_targetParts sv_isRoot)), ((ma 16), .inl (cJ, 46080, .inr (.inl G_20)))] := hD
  try dsimp only at hp_r19
  have hw_21 := hp_r19
  try rw [L_1] at hw_21
  try rw [L_32774] at hw_21
  have hh0 : BL _ _ 32768 (dhL 1) := ((((((((BL_nil _ 32768).pt hw_3 (by show _ = 32768 + ((0 : Nat) : Int); omega) (show _ = (1 % 256 : Int) by omega)).pt hw_6 (by show _ = 32768 + ((1 : Nat) : Int); omega) (show _ = (67 : Int) by omega)).pt hw_9 (by show _ = 32768 + ((2 : Nat) : Int); omega) (show _ = (68 : Int) by omega)).pt hw_12 (by show _ = 32768 + ((3 : Nat) : Int); omega) (show _ = (48 : Int) by omega)).pt hw_15 (by show _ = 32768 + ((4 : Nat) : Int); omega) (show _ = (48 : Int) by omega)).pt hw_18 (by show _ = 32768 + ((5 : Nat) : Int); omega) (show _ = (49 : Int) by omega)).pt hw_21 (by show _ = 32768 + ((6 : Nat) : Int); omega) (show _ = (1 : Int) by omega)).cast rfl rfl
  refine lv_iload_n hx hb d_DiscMakerModel_describe_89 rfl (lv_at hl 1 rfl) ?_
  refine lv_iconst (v := 2) hx hb d_DiscMakerModel_describe_90 (by decide) ?_
  refine lv_icmp_ne (tgt := 95) hx hb d_DiscMakerModel_describe_91 (by decide) (fun _ => ?_) (fun h_9 => absurd h_9 (by decide))
  refine lv_bipush (v := 8) hx hb d_DiscMakerModel_describe_95 (by decide) ?_
  refine lv_istore_n hx hb d_DiscMakerModel_describe_97 rfl hl (by decide) rfl (fun ls hl => ?_)
  have hl : lv_has ls 4 [(3, .int 8), (2, .int 32768), (1, .int 0), (0, .ref h0)] := hl
  refine zz_labM (B := fun (lk : Nat) (K : Heap → List Loc → Array Slot → List Value → Prop) => ∀ (ka0 : Int32) (nA0 : Nat → Int64) (H : Heap) (locs : List Loc) (ls : Array Slot), lk = (72 - ka0.toInt).toNat → (8 ≤ ka0.toInt ∧ ka0.toInt ≤ 72) → (BL (bF G_20) (bF nA0) (32768 + 8) (tbL (fun _ => 32) (ka0.toInt - 8).toNat)) → va_P D CL [((ma 1), .inl (cI, 40, .inl fK)), ((ma 9), .inl (cI, 40, .inl fNS)), ((ma 13), .inl (cI, 40, .inl fBs)), ((ma 15), .inl (cI, 40, .inl fEs)), ((ma 17), .inl (cI, 24, .inl fTb)), ((ma 18), .inl (cI, 80, .inl fSe)), ((ma 19), .inl (cI, 80, .inl fSs)), (h0, .inr (11, MO ma sv_thrown sv_length sv_nodes sv_many sv_directories sv_runsFrom sv_runs sv_read sv_wrong sv_isNamed sv_goes sv_goesSize sv_goesAt sv_targetParts sv_isRoot)), ((ma 16), .inl (cJ, 46080, .inr (.inl nA0)))] H → va_D A [((ma 1), .inl (cI, 40, .inl fK)), ((ma 9), .inl (cI, 40, .inl fNS)), ((ma 13), .inl (cI, 40, .inl fBs)), ((ma 15), .inl (cI, 40, .inl fEs)), ((ma 17), .inl (cI, 24, .inl fTb)), ((ma 18), .inl (cI, 80, .inl fSe)), ((ma 19), .inl (cI, 80, .inl fSs)), (h0, .inr (11, MO ma sv_thrown sv_length sv_nodes sv_many sv_directories sv_runsFrom sv_runs sv_read sv_wrong sv_isNamed sv_goes sv_goesSize sv_goesAt sv_targetParts sv_isRoot)), ((ma 16), .inl (cJ, 46080, .inr (.inl nA0)))] → va_S A s.heap H locs → lv_has ls 4 [(0, .ref h0), (1, .int 0), (2, .int 32768), (3, .int ka0)] → K H locs ls []) 98 ?_ ?_
  · skip
    intro lk ih98 ka0 nA0 H locs ls hm98 rka0 gka0 hP hD hS hl
    refine lv_iload_n hx hb d_DiscMakerModel_describe_98 rfl (lv_at hl 3 rfl) ?_
    refine lv_bipush (v := 72) hx hb d_DiscMakerModel_describe_99 (by decide) ?_
    refine lv_icmp_ge (tgt := 119) hx hb d_DiscMakerModel_describe_101 (by decide) (fun h_9 => ?_) (fun h_9 => ?_)
    · skip
      have g101_65 : 72 ≤ ka0.toInt := (i_le (by decide) rfl).mp h_9
      have wa0 := gka0.tbc (m := 64) (by omega)
      refine lv_aload_n hx hb d_DiscMakerModel_describe_119 rfl (lv_at hl 0 rfl) ?_
      refine lv_iload_n hx hb d_DiscMakerModel_describe_120 rfl (lv_at hl 2 rfl) ?_
      refine lv_bipush (v := 80) hx hb d_DiscMakerModel_describe_121 (by decide) ?_
      refine lv_iadd hx hb d_DiscMakerModel_describe_123 ?_
      refine W.eq (g2 := F0 m 124 ls [.int 32848, .ref h0]) (by rw [show ((32768 : Int32) + 80) = 32848 from by decide]) ?_
      have L_32848 : (32848 : Int32).toInt = 32848 := by decide
      refine lv_iconst (v := 4) hx hb d_DiscMakerModel_describe_124 (by decide) ?_
      refine lv_aload_n hx hb d_DiscMakerModel_describe_125 rfl (lv_at hl 0 rfl) ?_
      refine va_get (D := D) (ci := 11) (v := .int sv_many) (C := "DiscMakerModel") (T := F_DiscMakerModel) (N := 48) hx hb ht9 in_DiscMakerModel hown hK hP 7 rfl rfl 20 (by decide) (ht9 _ k1451) (fun _ h9 => h9) rfl d_DiscMakerModel_describe_126 ?_
      have hPc := hP.sub (ws' := [(h0, .inr (11, MO ma sv_thrown sv_length sv_nodes sv_many sv_directories sv_runsFrom sv_runs sv_read sv_wrong sv_isNamed sv_goes sv_goesSize sv_goesAt sv_targetParts sv_isRoot)), ((ma 16), .inl (cJ, 46080, .inr (.inl nA0)))]) [7, 8] rfl
      have hDc := hD.sub (ws' := [(h0, .inr (11, MO ma sv_thrown sv_length sv_nodes sv_many sv_directories sv_runsFrom sv_runs sv_read sv_wrong sv_isNamed sv_goes sv_goesSize sv_goesAt sv_targetParts sv_isRoot)), ((ma 16), .inl (cJ, 46080, .inr (.inl nA0)))]) [7, 8] (by decide +kernel) rfl
      have hFc := va_free (wc := [(h0, .inr (11, MO ma sv_thrown sv_length sv_nodes sv_many sv_directories sv_runsFrom sv_runs sv_read sv_wrong sv_isNamed sv_goes sv_goesSize sv_goesAt sv_targetParts sv_isRoot)), ((ma 16), .inl (cJ, 46080, .inr (.inl nA0)))]) hD hS hA [7, 8] rfl
      have hkc : 0 ≤ 0 := by decide
      have hks : 0 ≤ 0 := by decide
      refine va_callv (va_runV (C := "DiscMakerModel") (As := [.int 32848, .int 4, .int sv_many]) (rest := []) ⟨hx, hb, hml, hown, hts⟩ (m_both4F l D cB cI cJ cZ cN cF H.size h0 ma sv_thrown sv_length sv_nodes sv_many sv_directories sv_runsFrom sv_runs sv_read sv_wrong sv_isNamed sv_goes sv_goesSize sv_goesAt sv_targetParts sv_isRoot nA0 32848 sv_many (by (try dsimp only); first | assumption | omega | trivial) (by (try dsimp only); first | assumption | omega | trivial)) (cwV 3 hts (lg_goodV k1740 k1742 k81 k125 kc_DiscMakerModel_both) rfl rfl rfl (by decide +kernel) ⟨Nat.le_of_ble_eq_true rfl, Nat.le_of_ble_eq_true rfl⟩) ⟨fun a U g mk q => by obtain ⟨q0, q1, qP, qK, qN, qD⟩ := q; exact ⟨q0, q1, qP, va_K.moved (u := U) (U := U.calling g mk a) (Vm.Alike.refl U.vm) qK, qN.calling, qD⟩, va_recv hK hP (ci := 11) (q0 := 7) rfl rfl, fun U hU hW => ⟨rfl, by rw [hU], by rw [hU]; exact hPc, va_K.moved hW.alike hK, NN.warm hW hN, hDc.weaken (fun _ _ _ _ => trivial)⟩⟩ rfl rfl hl.1 rfl (lv_room (Nat.le_of_ble_eq_true rfl)) d_DiscMakerModel_describe_129 ⟨hkc, hks⟩) hS (fun q _ h => hFc q h) hFc (fun u t H1 locs ht hvm hp_r22 hB hz1 hk1 hS => ?_)
      obtain ⟨G_23, rfl⟩ : ∃ z, z = u := ⟨_, rfl⟩
      obtain ⟨hP1, hD1⟩ := hB
      rw [ht] at hP1
      obtain ⟨hP, hD⟩ := va_join (wr := [((ma 1), .inl (cI, 40, .inl fK)), ((ma 9), .inl (cI, 40, .inl fNS)), ((ma 13), .inl (cI, 40, .inl fBs)), ((ma 15), .inl (cI, 40, .inl fEs)), ((ma 17), .inl (cI, 24, .inl fTb)), ((ma 18), .inl (cI, 80, .inl fSe)), ((ma 19), .inl (cI, 80, .inl fSs))]) (w1 := [(h0, .inr (11, MO ma sv_thrown sv_length sv_nodes sv_many sv_directories sv_runsFrom sv_runs sv_read sv_wrong sv_isNamed sv_goes sv_goesSize sv_goesAt sv_targetParts sv_isRoot)), ((ma 16), .inl (cJ, 46080, .inr (.inl G_23)))]) hP hD [7, 8] [0, 1, 2, 3, 4, 5, 6] rfl rfl (by decide +kernel) (by decide +kernel) hk1 hFc hP1 hD1
      clear hPc hDc hFc hP1 hD1 hk1 hz1 hkc hks
      generalize H1 = H at hP hS ⊢
      have hP : va_P D CL [((ma 1), .inl (cI, 40, .inl fK)), ((ma 9), .inl (cI, 40, .inl fNS)), ((ma 13), .inl (cI, 40, .inl fBs)), ((ma 15), .inl (cI, 40, .inl fEs)), ((ma 17), .inl (cI, 24, .inl fTb)), ((ma 18), .inl (cI, 80, .inl fSe)), ((ma 19), .inl (cI, 80, .inl fSs)), (h0, .inr (11, MO ma sv_thrown sv_length sv_nodes sv_many sv_directories sv_runsFrom sv_runs sv_read sv_wrong sv_isNamed sv_goes sv_goesSize sv_goesAt sv_targetParts sv_isRoot)), ((ma 16), .inl (cJ, 46080, .inr (.inl G_23)))] H := hP
      have hD : va_D A [((ma 1), .inl (cI, 40, .inl fK)), ((ma 9), .inl (cI, 40, .inl fNS)), ((ma 13), .inl (cI, 40, .inl fBs)), ((ma 15), .inl (cI, 40, .inl fEs)), ((ma 17), .inl (cI, 24, .inl fTb)), ((ma 18), .inl (cI, 80, .inl fSe)), ((ma 19), .inl (cI, 80, .inl fSs)), (h0, .inr (11, MO ma sv_thrown sv_length sv_nodes sv_many sv_directories sv_runsFrom sv_runs sv_read sv_wrong sv_isNamed sv_goes sv_goesSize sv_goesAt sv_targetParts sv_isRoot)), ((ma 16), .inl (cJ, 46080, .inr (.inl G_23)))] := hD
      try dsimp only at hp_r22
      have hw_24 := hp_r22
      try rw [L_32848] at hw_24
      refine lv_iload_n hx hb d_DiscMakerModel_describe_132 rfl (lv_at hl 1 rfl) ?_
      refine lv_iconst (v := 1) hx hb d_DiscMakerModel_describe_133 (by decide) ?_
      refine lv_icmp_ne (tgt := 167) hx hb d_DiscMakerModel_describe_134 (by decide) (fun _ => ?_) (fun h_9 => absurd h_9 (by decide))
      have we0 := BL_nil (bF G_23) (32768 + 88)
      refine lv_aload_n hx hb d_DiscMakerModel_describe_167 rfl (lv_at hl 0 rfl) ?_
      refine lv_iload_n hx hb d_DiscMakerModel_describe_168 rfl (lv_at hl 2 rfl) ?_
      refine lv_bipush (v := 120) hx hb d_DiscMakerModel_describe_169 (by decide) ?_
      refine lv_iadd hx hb d_DiscMakerModel_describe_171 ?_
      refine W.eq (g2 := F0 m 172 ls [.int 32888, .ref h0]) (by rw [show ((32768 : Int32) + 120) = 32888 from by decide]) ?_
      have L_32888 : (32888 : Int32).toInt = 32888 := by decide
      refine lv_iconst (v := 2) hx hb d_DiscMakerModel_describe_172 (by decide) ?_
      refine lv_iconst (v := 1) hx hb d_DiscMakerModel_describe_173 (by decide) ?_
      have hPc := hP.sub (ws' := [(h0, .inr (11, MO ma sv_thrown sv_length sv_nodes sv_many sv_directories sv_runsFrom sv_runs sv_read sv_wrong sv_isNamed sv_goes sv_goesSize sv_goesAt sv_targetParts sv_isRoot)), ((ma 16), .inl (cJ, 46080, .inr (.inl G_23)))]) [7, 8] rfl
      have hDc := hD.sub (ws' := [(h0, .inr (11, MO ma sv_thrown sv_length sv_nodes sv_many sv_directories sv_runsFrom sv_runs sv_read sv_wrong sv_isNamed sv_goes sv_goesSize sv_goesAt sv_targetParts sv_isRoot)), ((ma 16), .inl (cJ, 46080, .inr (.inl G_23)))]) [7, 8] (by decide +kernel) rfl
      have hFc := va_free (wc := [(h0, .inr (11, MO ma sv_thrown sv_length sv_nodes sv_many sv_directories sv_runsFrom sv_runs sv_read sv_wrong sv_isNamed sv_goes sv_goesSize sv_goesAt sv_targetParts sv_isRoot)), ((ma 16), .inl (cJ, 46080, .inr (.inl G_23)))]) hD hS hA [7, 8] rfl
      have hkc : 0 ≤ 0 := by decide
      have hks : 0 ≤ 0 := by decide
      refine va_callv (va_runV (C := "DiscMakerModel") (As := [.int 32888, .int 2, .int 1]) (rest := []) ⟨hx, hb, hml, hown, hts⟩ (m_both2F l D cB cI cJ cZ cN cF H.size h0 ma sv_thrown sv_length sv_nodes sv_many sv_directories sv_runsFrom sv_runs sv_read sv_wrong sv_isNamed sv_goes sv_goesSize sv_goesAt sv_targetParts sv_isRoot G_23 32888 1 (by (try dsimp only); first | assumption | omega | trivial) (by (try dsimp only); first | assumption | omega | trivial)) (cwV 3 hts (lg_goodV k1740 k1742 k81 k125 kc_DiscMakerModel_both) rfl rfl rfl (by decide +kernel) ⟨Nat.le_of_ble_eq_true rfl, Nat.le_of_ble_eq_true rfl⟩) ⟨fun a U g mk q => by obtain ⟨q0, q1, qP, qK, qN, qD⟩ := q; exact ⟨q0, q1, qP, va_K.moved (u := U) (U := U.calling g mk a) (Vm.Alike.refl U.vm) qK, qN.calling, qD⟩, va_recv hK hP (ci := 11) (q0 := 7) rfl rfl, fun U hU hW => ⟨rfl, by rw [hU], by rw [hU]; exact hPc, va_K.moved hW.alike hK, NN.warm hW hN, hDc.weaken (fun _ _ _ _ => trivial)⟩⟩ rfl rfl hl.1 rfl (lv_room (Nat.le_of_ble_eq_true rfl)) d_DiscMakerModel_describe_174 ⟨hkc, hks⟩) hS (fun q _ h => hFc q h) hFc (fun u t H1 locs ht hvm hp_r25 hB hz1 hk1 hS => ?_)
      obtain ⟨G_26, rfl⟩ : ∃ z, z = u := ⟨_, rfl⟩
      obtain ⟨hP1, hD1⟩ := hB
      rw [ht] at hP1
      obtain ⟨hP, hD⟩ := va_join (wr := [((ma 1), .inl (cI, 40, .inl fK)), ((ma 9), .inl (cI, 40, .inl fNS)), ((ma 13), .inl (cI, 40, .inl fBs)), ((ma 15), .inl (cI, 40, .inl fEs)), ((ma 17), .inl (cI, 24, .inl fTb)), ((ma 18), .inl (cI, 80, .inl fSe)), ((ma 19), .inl (cI, 80, .inl fSs))]) (w1 := [(h0, .inr (11, MO ma sv_thrown sv_length sv_nodes sv_many sv_directories sv_runsFrom sv_runs sv_read sv_wrong sv_isNamed sv_goes sv_goesSize sv_goesAt sv_targetParts sv_isRoot)), ((ma 16), .inl (cJ, 46080, .inr (.inl G_26)))]) hP hD [7, 8] [0, 1, 2, 3, 4, 5, 6] rfl rfl (by decide +kernel) (by decide +kernel) hk1 hFc hP1 hD1
      clear hPc hDc hFc hP1 hD1 hk1 hz1 hkc hks
      generalize H1 = H at hP hS ⊢
      have hP : va_P D CL [((ma 1), .inl (cI, 40, .inl fK)), ((ma 9), .inl (cI, 40, .inl fNS)), ((ma 13), .inl (cI, 40, .inl fBs)), ((ma 15), .inl (cI, 40, .inl fEs)), ((ma 17), .inl (cI, 24, .inl fTb)), ((ma 18), .inl (cI, 80, .inl fSe)), ((ma 19), .inl (cI, 80, .inl fSs)), (h0, .inr (11, MO ma sv_thrown sv_length sv_nodes sv_many sv_directories sv_runsFrom sv_runs sv_read sv_wrong sv_isNamed sv_goes sv_goesSize sv_goesAt sv_targetParts sv_isRoot)), ((ma 16), .inl (cJ, 46080, .inr (.inl G_26)))] H := hP
      have hD : va_D A [((ma 1), .inl (cI, 40, .inl fK)), ((ma 9), .inl (cI, 40, .inl fNS)), ((ma 13), .inl (cI, 40, .inl fBs)), ((ma 15), .inl (cI, 40, .inl fEs)), ((ma 17), .inl (cI, 24, .inl fTb)), ((ma 18), .inl (cI, 80, .inl fSe)), ((ma 19), .inl (cI, 80, .inl fSs)), (h0, .inr (11, MO ma sv_thrown sv_length sv_nodes sv_many sv_directories sv_runsFrom sv_runs sv_read sv_wrong sv_isNamed sv_goes sv_goesSize sv_goesAt sv_targetParts sv_isRoot)), ((ma 16), .inl (cJ, 46080, .inr (.inl G_26)))] := hD
      try dsimp only at hp_r25
      have hw_27 := hp_r25
      try rw [L_1] at hw_27
      try rw [L_32888] at hw_27
      refine lv_aload_n hx hb d_DiscMakerModel_describe_177 rfl (lv_at hl 0 rfl) ?_
      refine lv_iload_n hx hb d_DiscMakerModel_describe_178 rfl (lv_at hl 2 rfl) ?_
      refine lv_bipush (v := 124) hx hb d_DiscMakerModel_describe_179 (by decide) ?_
      refine lv_iadd hx hb d_DiscMakerModel_describe_181 ?_
      refine W.eq (g2 := F0 m 182 ls [.int 32892, .ref h0]) (by rw [show ((32768 : Int32) + 124) = 32892 from by decide]) ?_
      have L_32892 : (32892 : Int32).toInt = 32892 := by decide
      refine lv_iconst (v := 2) hx hb d_DiscMakerModel_describe_182 (by decide) ?_
      refine lv_iconst (v := 1) hx hb d_DiscMakerModel_describe_183 (by decide) ?_
      have hPc := hP.sub (ws' := [(h0, .inr (11, MO ma sv_thrown sv_length sv_nodes sv_many sv_directories sv_runsFrom sv_runs sv_read sv_wrong sv_isNamed sv_goes sv_goesSize sv_goesAt sv_targetParts sv_isRoot)), ((ma 16), .inl (cJ, 46080, .inr (.inl G_26)))]) [7, 8] rfl
      have hDc := hD.sub (ws' := [(h0, .inr (11, MO ma sv_thrown sv_length sv_nodes sv_many sv_directories sv_runsFrom sv_runs sv_read sv_wrong sv_isNamed sv_goes sv_goesSize sv_goesAt sv_targetParts sv_isRoot)), ((ma 16), .inl (cJ, 46080, .inr (.inl G_26)))]) [7, 8] (by decide +kernel) rfl
      have hFc := va_free (wc := [(h0, .inr (11, MO ma sv_thrown sv_length sv_nodes sv_many sv_directories sv_runsFrom sv_runs sv_read sv_wrong sv_isNamed sv_goes sv_goesSize sv_goesAt sv_targetParts sv_isRoot)), ((ma 16), .inl (cJ, 46080, .inr (.inl G_26)))]) hD hS hA [7, 8] rfl
      have hkc : 0 ≤ 0 := by decide
      have hks : 0 ≤ 0 := by decide
      refine va_callv (va_runV (C := "DiscMakerModel") (As := [.int 32892, .int 2, .int 1]) (rest := []) ⟨hx, hb, hml, hown, hts⟩ (m_both2F l D cB cI cJ cZ cN cF H.size h0 ma sv_thrown sv_length sv_nodes sv_many sv_directories sv_runsFrom sv_runs sv_read sv_wrong sv_isNamed sv_goes sv_goesSize sv_goesAt sv_targetParts sv_isRoot G_26 32892 1 (by (try dsimp only); first | assumption | omega | trivial) (by (try dsimp only); first | assumption | omega | trivial)) (cwV 3 hts (lg_goodV k1740 k1742 k81 k125 kc_DiscMakerModel_both) rfl rfl rfl (by decide +kernel) ⟨Nat.le_of_ble_eq_true rfl, Nat.le_of_ble_eq_true rfl⟩) ⟨fun a U g mk q => by obtain ⟨q0, q1, qP, qK, qN, qD⟩ := q; exact ⟨q0, q1, qP, va_K.moved (u := U) (U := U.calling g mk a) (Vm.Alike.refl U.vm) qK, qN.calling, qD⟩, va_recv hK hP (ci := 11) (q0 := 7) rfl rfl, fun U hU hW => ⟨rfl, by rw [hU], by rw [hU]; exact hPc, va_K.moved hW.alike hK, NN.warm hW hN, hDc.weaken (fun _ _ _ _ => trivial)⟩⟩ rfl rfl hl.1 rfl (lv_room (Nat.le_of_ble_eq_true rfl)) d_DiscMakerModel_describe_184 ⟨hkc, hks⟩) hS (fun q _ h => hFc q h) hFc (fun u t H1 locs ht hvm hp_r28 hB hz1 hk1 hS => ?_)
      obtain ⟨G_29, rfl⟩ : ∃ z, z = u := ⟨_, rfl⟩
      obtain ⟨hP1, hD1⟩ := hB
      rw [ht] at hP1
      obtain ⟨hP, hD⟩ := va_join (wr := [((ma 1), .inl (cI, 40, .inl fK)), ((ma 9), .inl (cI, 40, .inl fNS)), ((ma 13), .inl (cI, 40, .inl fBs)), ((ma 15), .inl (cI, 40, .inl fEs)), ((ma 17), .inl (cI, 24, .inl fTb)), ((ma 18), .inl (cI, 80, .inl fSe)), ((ma 19), .inl (cI, 80, .inl fSs))]) (w1 := [(h0, .inr (11, MO ma sv_thrown sv_length sv_nodes sv_many sv_directories sv_runsFrom sv_runs sv_read sv_wrong sv_isNamed sv_goes sv_goesSize sv_goesAt sv_targetParts sv_isRoot)), ((ma 16), .inl (cJ, 46080, .inr (.inl G_29)))]) hP hD [7, 8] [0, 1, 2, 3, 4, 5, 6] rfl rfl (by decide +kernel) (by decide +kernel) hk1 hFc hP1 hD1
      clear hPc hDc hFc hP1 hD1 hk1 hz1 hkc hks
      generalize H1 = H at hP hS ⊢
      have hP : va_P D CL [((ma 1), .inl (cI, 40, .inl fK)), ((ma 9), .inl (cI, 40, .inl fNS)), ((ma 13), .inl (cI, 40, .inl fBs)), ((ma 15), .inl (cI, 40, .inl fEs)), ((ma 17), .inl (cI, 24, .inl fTb)), ((ma 18), .inl (cI, 80, .inl fSe)), ((ma 19), .inl (cI, 80, .inl fSs)), (h0, .inr (11, MO ma sv_thrown sv_length sv_nodes sv_many sv_directories sv_runsFrom sv_runs sv_read sv_wrong sv_isNamed sv_goes sv_goesSize sv_goesAt sv_targetParts sv_isRoot)), ((ma 16), .inl (cJ, 46080, .inr (.inl G_29)))] H := hP
      have hD : va_D A [((ma 1), .inl (cI, 40, .inl fK)), ((ma 9), .inl (cI, 40, .inl fNS)), ((ma 13), .inl (cI, 40, .inl fBs)), ((ma 15), .inl (cI, 40, .inl fEs)), ((ma 17), .inl (cI, 24, .inl fTb)), ((ma 18), .inl (cI, 80, .inl fSe)), ((ma 19), .inl (cI, 80, .inl fSs)), (h0, .inr (11, MO ma sv_thrown sv_length sv_nodes sv_many sv_directories sv_runsFrom sv_runs sv_read sv_wrong sv_isNamed sv_goes sv_goesSize sv_goesAt sv_targetParts sv_isRoot)), ((ma 16), .inl (cJ, 46080, .inr (.inl G_29)))] := hD
      try dsimp only at hp_r28
      have hw_30 := hp_r28
      try rw [L_1] at hw_30
      try rw [L_32892] at hw_30
      refine lv_aload_n hx hb d_DiscMakerModel_describe_187 rfl (lv_at hl 0 rfl) ?_
      refine lv_iload_n hx hb d_DiscMakerModel_describe_188 rfl (lv_at hl 2 rfl) ?_
      refine lv_sipush (v := 128) hx hb d_DiscMakerModel_describe_189 (by decide) ?_
      refine lv_iadd hx hb d_DiscMakerModel_describe_192 ?_
      refine W.eq (g2 := F0 m 193 ls [.int 32896, .ref h0]) (by rw [show ((32768 : Int32) + 128) = 32896 from by decide]) ?_
      have L_32896 : (32896 : Int32).toInt = 32896 := by decide
      refine lv_iconst (v := 2) hx hb d_DiscMakerModel_describe_193 (by decide) ?_
      refine lv_sipush (v := 2048) hx hb d_DiscMakerModel_describe_194 (by decide) ?_
      have hPc := hP.sub (ws' := [(h0, .inr (11, MO ma sv_thrown sv_length sv_nodes sv_many sv_directories sv_runsFrom sv_runs sv_read sv_wrong sv_isNamed sv_goes sv_goesSize sv_goesAt sv_targetParts sv_isRoot)), ((ma 16), .inl (cJ, 46080, .inr (.inl G_29)))]) [7, 8] rfl
      have hDc := hD.sub (ws' := [(h0, .inr (11, MO ma sv_thrown sv_length sv_nodes sv_many sv_directories sv_runsFrom sv_runs sv_read sv_wrong sv_isNamed sv_goes sv_goesSize sv_goesAt sv_targetParts sv_isRoot)), ((ma 16), .inl (cJ, 46080, .inr (.inl G_29)))]) [7, 8] (by decide +kernel) rfl
      have hFc := va_free (wc := [(h0, .inr (11, MO ma sv_thrown sv_length sv_nodes sv_many sv_directories sv_runsFrom sv_runs sv_read sv_wrong sv_isNamed sv_goes sv_goesSize sv_goesAt sv_targetParts sv_isRoot)), ((ma 16), .inl (cJ, 46080, .inr (.inl G_29)))]) hD hS hA [7, 8] rfl
      have hkc : 0 ≤ 0 := by decide
      have hks : 0 ≤ 0 := by decide
      refine va_callv (va_runV (C := "DiscMakerModel") (As := [.int 32896, .int 2, .int 2048]) (rest := []) ⟨hx, hb, hml, hown, hts⟩ (m_both2F l D cB cI cJ cZ cN cF H.size h0 ma sv_thrown sv_length sv_nodes sv_many sv_directories sv_runsFrom sv_runs sv_read sv_wrong sv_isNamed sv_goes sv_goesSize sv_goesAt sv_targetParts sv_isRoot G_29 32896 2048 (by (try dsimp only); first | assumption | omega | trivial) (by (try dsimp only); first | assumption | omega | trivial)) (cwV 3 hts (lg_goodV k1740 k1742 k81 k125 kc_DiscMakerModel_both) rfl rfl rfl (by decide +kernel) ⟨Nat.le_of_ble_eq_true rfl, Nat.le_of_ble_eq_true rfl⟩) ⟨fun a U g mk q => by obtain ⟨q0, q1, qP, qK, qN, qD⟩ := q; exact ⟨q0, q1, qP, va_K.moved (u := U) (U := U.calling g mk a) (Vm.Alike.refl U.vm) qK, qN.calling, qD⟩, va_recv hK hP (ci := 11) (q0 := 7) rfl rfl, fun U hU hW => ⟨rfl, by rw [hU], by rw [hU]; exact hPc, va_K.moved hW.alike hK, NN.warm hW hN, hDc.weaken (fun _ _ _ _ => trivial)⟩⟩ rfl rfl hl.1 rfl (lv_room (Nat.le_of_ble_eq_true rfl)) d_DiscMakerModel_describe_197 ⟨hkc, hks⟩) hS (fun q _ h => hFc q h) hFc (fun u t H1 locs ht hvm hp_r31 hB hz1 hk1 hS => ?_)
      obtain ⟨G_32, rfl⟩ : ∃ z, z = u := ⟨_, rfl⟩
      obtain ⟨hP1, hD1⟩ := hB
      rw [ht] at hP1
      obtain ⟨hP, hD⟩ := va_join (wr := [((ma 1), .inl (cI, 40, .inl fK)), ((ma 9), .inl (cI, 40, .inl fNS)), ((ma 13), .inl (cI, 40, .inl fBs)), ((ma 15), .inl (cI, 40, .inl fEs)), ((ma 17), .inl (cI, 24, .inl fTb)), ((ma 18), .inl (cI, 80, .inl fSe)), ((ma 19), .inl (cI, 80, .inl fSs))]) (w1 := [(h0, .inr (11, MO ma sv_thrown sv_length sv_nodes sv_many sv_directories sv_runsFrom sv_runs sv_read sv_wrong sv_isNamed sv_goes sv_goesSize sv_goesAt sv_targetParts sv_isRoot)), ((ma 16), .inl (cJ, 46080, .inr (.inl G_32)))]) hP hD [7, 8] [0, 1, 2, 3, 4, 5, 6] rfl rfl (by decide +kernel) (by decide +kernel) hk1 hFc hP1 hD1
      clear hPc hDc hFc hP1 hD1 hk1 hz1 hkc hks
      generalize H1 = H at hP hS ⊢
      have hP : va_P D CL [((ma 1), .inl (cI, 40, .inl fK)), ((ma 9), .inl (cI, 40, .inl fNS)), ((ma 13), .inl (cI, 40, .inl fBs)), ((ma 15), .inl (cI, 40, .inl fEs)), ((ma 17), .inl (cI, 24, .inl fTb)), ((ma 18), .inl (cI, 80, .inl fSe)), ((ma 19), .inl (cI, 80, .inl fSs)), (h0, .inr (11, MO ma sv_thrown sv_length sv_nodes sv_many sv_directories sv_runsFrom sv_runs sv_read sv_wrong sv_isNamed sv_goes sv_goesSize sv_goesAt sv_targetParts sv_isRoot)), ((ma 16), .inl (cJ, 46080, .inr (.inl G_32)))] H := hP
      have hD : va_D A [((ma 1), .inl (cI, 40, .inl fK)), ((ma 9), .inl (cI, 40, .inl fNS)), ((ma 13), .inl (cI, 40, .inl fBs)), ((ma 15), .inl (cI, 40, .inl fEs)), ((ma 17), .inl (cI, 24, .inl fTb)), ((ma 18), .inl (cI, 80, .inl fSe)), ((ma 19), .inl (cI, 80, .inl fSs)), (h0, .inr (11, MO ma sv_thrown sv_length sv_nodes sv_many sv_directories sv_runsFrom sv_runs sv_read sv_wrong sv_isNamed sv_goes sv_goesSize sv_goesAt sv_targetParts sv_isRoot)), ((ma 16), .inl (cJ, 46080, .inr (.inl G_32)))] := hD
      try dsimp only at hp_r31
      have hw_33 := hp_r31
      try rw [L_2048] at hw_33
      try rw [L_32896] at hw_33
      refine lv_aload_n hx hb d_DiscMakerModel_describe_200 rfl (lv_at hl 0 rfl) ?_
      refine lv_iload_n hx hb d_DiscMakerModel_describe_201 rfl (lv_at hl 2 rfl) ?_
      refine lv_sipush (v := 132) hx hb d_DiscMakerModel_describe_202 (by decide) ?_
      refine lv_iadd hx hb d_DiscMakerModel_describe_205 ?_
      refine W.eq (g2 := F0 m 206 ls [.int 32900, .ref h0]) (by rw [show ((32768 : Int32) + 132) = 32900 from by decide]) ?_
      have L_32900 : (32900 : Int32).toInt = 32900 := by decide
      refine lv_iconst (v := 4) hx hb d_DiscMakerModel_describe_206 (by decide) ?_
      refine lv_aload_n hx hb d_DiscMakerModel_describe_207 rfl (lv_at hl 0 rfl) ?_
      refine lv_iload_n hx hb d_DiscMakerModel_describe_208 rfl (lv_at hl 1 rfl) ?_
      have hPc := hP.sub (ws' := [(h0, .inr (11, MO ma sv_thrown sv_length sv_nodes sv_many sv_directories sv_runsFrom sv_runs sv_read sv_wrong sv_isNamed sv_goes sv_goesSize sv_goesAt sv_targetParts sv_isRoot)), ((ma 1), .inl (cI, 40, .inl fK)), ((ma 9), .inl (cI, 40, .inl fNS)), ((ma 13), .inl (cI, 40, .inl fBs)), ((ma 15), .inl (cI, 40, .inl fEs)), ((ma 17), .inl (cI, 24, .inl fTb))]) [7, 0, 1, 2, 3, 4] rfl
      have hDc := hD.sub (ws' := [(h0, .inr (11, MO ma sv_thrown sv_length sv_nodes sv_many sv_directories sv_runsFrom sv_runs sv_read sv_wrong sv_isNamed sv_goes sv_goesSize sv_goesAt sv_targetParts sv_isRoot)), ((ma 1), .inl (cI, 40, .inl fK)), ((ma 9), .inl (cI, 40, .inl fNS)), ((ma 13), .inl (cI, 40, .inl fBs)), ((ma 15), .inl (cI, 40, .inl fEs)), ((ma 17), .inl (cI, 24, .inl fTb))]) [7, 0, 1, 2, 3, 4] (by decide +kernel) rfl
      have hFc := va_free (wc := [(h0, .inr (11, MO ma sv_thrown sv_length sv_nodes sv_many sv_directories sv_runsFrom sv_runs sv_read sv_wrong sv_isNamed sv_goes sv_goesSize sv_goesAt sv_targetParts sv_isRoot)), ((ma 1), .inl (cI, 40, .inl fK)), ((ma 9), .inl (cI, 40, .inl fNS)), ((ma 13), .inl (cI, 40, .inl fBs)), ((ma 15), .inl (cI, 40, .inl fEs)), ((ma 17), .inl (cI, 24, .inl fTb))]) hD hS hA [7, 0, 1, 2, 3, 4] rfl
      have hkc : 0 ≤ 0 := by decide
      have hks : 0 ≤ 0 := by decide
      refine va_calli (va_runV (C := "DiscMakerModel") (As := [.int 0]) (rest := [.int 4, .int 32900, .ref h0]) ⟨hx, hb, hml, hown, hts⟩ (m_tableSizeF l D cB cI cJ cZ cN cF H.size h0 ma sv_thrown sv_length sv_nodes sv_many sv_directories sv_runsFrom sv_runs sv_read sv_wrong sv_isNamed sv_goes sv_goesSize sv_goesAt sv_targetParts sv_isRoot fK fNS fBs fEs fTb dt Q0 0 (by (try dsimp only); first | assumption | omega | trivial) (by (try dsimp only); first | assumption | omega | trivial) (by (try dsimp only); first | assumption | omega | trivial) ((by rw [show (0 : Int32).toNatClampNeg = 0 by decide]; exact hQ0)) (hQr0) (hlkA) (by (try dsimp only); first | assumption | omega | trivial) (by (try dsimp only); first | assumption | omega | trivial) (by (try dsimp only); first | assumption | omega | trivial) (by (try dsimp only); first | assumption | omega | trivial)) (cwV 1 hts (lg_goodV k1781 k1783 k90 k125 kc_DiscMakerModel_tableSize) rfl rfl rfl (by decide +kernel) ⟨Nat.le_of_ble_eq_true rfl, Nat.le_of_ble_eq_true rfl⟩) ⟨fun a U g mk q => by obtain ⟨q0, q1, qP, qK, qN, qD⟩ := q; exact ⟨q0, q1, qP, va_K.moved (u := U) (U := U.calling g mk a) (Vm.Alike.refl U.vm) qK, qN.calling, qD⟩, va_recv hK hP (ci := 11) (q0 := 7) rfl rfl, fun U hU hW => ⟨rfl, by rw [hU], by rw [hU]; exact hPc, va_K.moved hW.alike hK, NN.warm hW hN, hDc.weaken (fun _ _ _ _ => trivial)⟩⟩ rfl rfl hl.1 rfl (lv_room (Nat.le_of_ble_eq_true rfl)) d_DiscMakerModel_describe_209 ⟨hkc, hks⟩) hS (fun q _ h => hFc q h) hFc (fun r34 u t H1 locs ht hvm hp_r34 hB hz1 hk1 hS => ?_)
      obtain ⟨hP1, hD1⟩ := hB
      rw [ht] at hP1
      obtain ⟨hP, hD⟩ := va_join (wr := [((ma 18), .inl (cI, 80, .inl fSe)), ((ma 19), .inl (cI, 80, .inl fSs)), ((ma 16), .inl (cJ, 46080, .inr (.inl G_32)))]) (w1 := [(h0, .inr (11, MO ma sv_thrown sv_length sv_nodes sv_many sv_directories sv_runsFrom sv_runs sv_read sv_wrong sv_isNamed sv_goes sv_goesSize sv_goesAt sv_targetParts sv_isRoot)), ((ma 1), .inl (cI, 40, .inl fK)), ((ma 9), .inl (cI, 40, .inl fNS)), ((ma 13), .inl (cI, 40, .inl fBs)), ((ma 15), .inl (cI, 40, .inl fEs)), ((ma 17), .inl (cI, 24, .inl fTb))]) hP hD [7, 0, 1, 2, 3, 4] [5, 6, 8] rfl rfl (by decide +kernel) (by decide +kernel) hk1 hFc hP1 hD1
      clear hPc hDc hFc hP1 hD1 hk1 hz1 hkc hks
      generalize H1 = H at hP hS ⊢
      have hP : va_P D CL [((ma 18), .inl (cI, 80, .inl fSe)), ((ma 19), .inl (cI, 80, .inl fSs)), ((ma 16), .inl (cJ, 46080, .inr (.inl G_32))), (h0, .inr (11, MO ma sv_thrown sv_length sv_nodes sv_many sv_directories sv_runsFrom sv_runs sv_read sv_wrong sv_isNamed sv_goes sv_goesSize sv_goesAt sv_targetParts sv_isRoot)), ((ma 1), .inl (cI, 40, .inl fK)), ((ma 9), .inl (cI, 40, .inl fNS)), ((ma 13), .inl (cI, 40, .inl fBs)), ((ma 15), .inl (cI, 40, .inl fEs)), ((ma 17), .inl (cI, 24, .inl fTb))] H := hP
      have hD : va_D A [((ma 18), .inl (cI, 80, .inl fSe)), ((ma 19), .inl (cI, 80, .inl fSs)), ((ma 16), .inl (cJ, 46080, .inr (.inl G_32))), (h0, .inr (11, MO ma sv_thrown sv_length sv_nodes sv_many sv_directories sv_runsFrom sv_runs sv_read sv_wrong sv_isNamed sv_goes sv_goesSize sv_goesAt sv_targetParts sv_isRoot)), ((ma 1), .inl (cI, 40, .inl fK)), ((ma 9), .inl (cI, 40, .inl fNS)), ((ma 13), .inl (cI, 40, .inl fBs)), ((ma 15), .inl (cI, 40, .inl fEs)), ((ma 17), .inl (cI, 24, .inl fTb))] := hD
      try dsimp only at hp_r34
      obtain ⟨hr_35, hv_36⟩ := hp_r34
      try rw [L_0] at hv_36
      have hPc := hP.sub (ws' := [(h0, .inr (11, MO ma sv_thrown sv_length sv_nodes sv_many sv_directories sv_runsFrom sv_runs sv_read sv_wrong sv_isNamed sv_goes sv_goesSize sv_goesAt sv_targetParts sv_isRoot)), ((ma 16), .inl (cJ, 46080, .inr (.inl G_32)))]) [3, 2] rfl
      have hDc := hD.sub (ws' := [(h0, .inr (11, MO ma sv_thrown sv_length sv_nodes sv_many sv_directories sv_runsFrom sv_runs sv_read sv_wrong sv_isNamed sv_goes sv_goesSize sv_goesAt sv_targetParts sv_isRoot)), ((ma 16), .inl (cJ, 46080, .inr (.inl G_32)))]) [3, 2] (by decide +kernel) rfl
      have hFc := va_free (wc := [(h0, .inr (11, MO ma sv_thrown sv_length sv_nodes sv_many sv_directories sv_runsFrom sv_runs sv_read sv_wrong sv_isNamed sv_goes sv_goesSize sv_goesAt sv_targetParts sv_isRoot)), ((ma 16), .inl (cJ, 46080, .inr (.inl G_32)))]) hD hS hA [3, 2] rfl
      have hkc : 0 ≤ 0 := by decide
      have hks : 0 ≤ 0 := by decide
      refine va_callv (va_runV (C := "DiscMakerModel") (As := [.int 32900, .int 4, .int r34]) (rest := []) ⟨hx, hb, hml, hown, hts⟩ (m_both4F l D cB cI cJ cZ cN cF H.size h0 ma sv_thrown sv_length sv_nodes sv_many sv_directories sv_runsFrom sv_runs sv_read sv_wrong sv_isNamed sv_goes sv_goesSize sv_goesAt sv_targetParts sv_isRoot G_32 32900 r34 (by (try dsimp only); first | assumption | omega | trivial) (by (try dsimp only); first | assumption | omega | trivial)) (cwV 3 hts (lg_goodV k1740 k1742 k81 k125 kc_DiscMakerModel_both) rfl rfl rfl (by decide +kernel) ⟨Nat.le_of_ble_eq_true rfl, Nat.le_of_ble_eq_true rfl⟩) ⟨fun a U g mk q => by obtain ⟨q0, q1, qP, qK, qN, qD⟩ := q; exact ⟨q0, q1, qP, va_K.moved (u := U) (U := U.calling g mk a) (Vm.Alike.refl U.vm) qK, qN.calling, qD⟩, va_recv hK hP (ci := 11) (q0 := 3) rfl rfl, fun U hU hW => ⟨rfl, by rw [hU], by rw [hU]; exact hPc, va_K.moved hW.alike hK, NN.warm hW hN, hDc.weaken (fun _ _ _ _ => trivial)⟩⟩ rfl rfl hl.1 rfl (lv_room (Nat.le_of_ble_eq_true rfl)) d_DiscMakerModel_describe_212 ⟨hkc, hks⟩) hS (fun q _ h => hFc q h) hFc (fun u t H1 locs ht hvm hp_r37 hB hz1 hk1 hS => ?_)
      obtain ⟨G_38, rfl⟩ : ∃ z, z = u := ⟨_, rfl⟩
      obtain ⟨hP1, hD1⟩ := hB
      rw [ht] at hP1
      obtain ⟨hP, hD⟩ := va_join (wr := [((ma 18), .inl (cI, 80, .inl fSe)), ((ma 19), .inl (cI, 80, .inl fSs)), ((ma 1), .inl (cI, 40, .inl fK)), ((ma 9), .inl (cI, 40, .inl fNS)), ((ma 13), .inl (cI, 40, .inl fBs)), ((ma 15), .inl (cI, 40, .inl fEs)), ((ma 17), .inl (cI, 24, .inl fTb))]) (w1 := [(h0, .inr (11, MO ma sv_thrown sv_length sv_nodes sv_many sv_directories sv_runsFrom sv_runs sv_read sv_wrong sv_isNamed sv_goes sv_goesSize sv_goesAt sv_targetParts sv_isRoot)), ((ma 16), .inl (cJ, 46080, .inr (.inl G_38)))]) hP hD [3, 2] [0, 1, 4, 5, 6, 7, 8] rfl rfl (by decide +kernel) (by decide +kernel) hk1 hFc hP1 hD1
      clear hPc hDc hFc hP1 hD1 hk1 hz1 hkc hks
      generalize H1 = H at hP hS ⊢
      have hP : va_P D CL [((ma 18), .inl (cI, 80, .inl fSe)), ((ma 19), .inl (cI, 80, .inl fSs)), ((ma 1), .inl (cI, 40, .inl fK)), ((ma 9), .inl (cI, 40, .inl fNS)), ((ma 13), .inl (cI, 40, .inl fBs)), ((ma 15), .inl (cI, 40, .inl fEs)), ((ma 17), .inl (cI, 24, .inl fTb)), (h0, .inr (11, MO ma sv_thrown sv_length sv_nodes sv_many sv_directories sv_runsFrom sv_runs sv_read sv_wrong sv_isNamed sv_goes sv_goesSize sv_goesAt sv_targetParts sv_isRoot)), ((ma 16), .inl (cJ, 46080, .inr (.inl G_38)))] H := hP
      have hD : va_D A [((ma 18), .inl (cI, 80, .inl fSe)), ((ma 19), .inl (cI, 80, .inl fSs)), ((ma 1), .inl (cI, 40, .inl fK)), ((ma 9), .inl (cI, 40, .inl fNS)), ((ma 13), .inl (cI, 40, .inl fBs)), ((ma 15), .inl (cI, 40, .inl fEs)), ((ma 17), .inl (cI, 24, .inl fTb)), (h0, .inr (11, MO ma sv_thrown sv_length sv_nodes sv_many sv_directories sv_runsFrom sv_runs sv_read sv_wrong sv_isNamed sv_goes sv_goesSize sv_goesAt sv_targetParts sv_isRoot)), ((ma 16), .inl (cJ, 46080, .inr (.inl G_38)))] := hD
      try dsimp only at hp_r37
      have hw_39 := hp_r37
      try rw [L_32900] at hw_39
      refine lv_aload_n hx hb d_DiscMakerModel_describe_215 rfl (lv_at hl 0 rfl) ?_
      refine lv_iload_n hx hb d_DiscMakerModel_describe_216 rfl (lv_at hl 2 rfl) ?_
      refine lv_sipush (v := 140) hx hb d_DiscMakerModel_describe_217 (by decide) ?_
      refine lv_iadd hx hb d_DiscMakerModel_describe_220 ?_
      refine W.eq (g2 := F0 m 221 ls [.int 32908, .ref h0]) (by rw [show ((32768 : Int32) + 140) = 32908 from by decide]) ?_
      have L_32908 : (32908 : Int32).toInt = 32908 := by decide
      refine lv_iconst (v := 4) hx hb d_DiscMakerModel_describe_221 (by decide) ?_
      refine lv_bipush (v := 19) hx hb d_DiscMakerModel_describe_222 (by decide) ?_
      refine lv_iconst (v := 2) hx hb d_DiscMakerModel_describe_224 (by decide) ?_
      refine lv_iload_n hx hb d_DiscMakerModel_describe_225 rfl (lv_at hl 1 rfl) ?_
      refine lv_imul hx hb d_DiscMakerModel_describe_226 ?_
      refine W.eq (g2 := F0 m 227 ls [.int 0, .int 19, .int 4, .int 32908, .ref h0]) (by rw [show ((2 : Int32) * 0) = 0 from by decide]) ?_
      refine lv_iadd hx hb d_DiscMakerModel_describe_227 ?_
      refine W.eq (g2 := F0 m 228 ls [.int 19, .int 4, .int 32908, .ref h0]) (by rw [show ((19 : Int32) + 0) = 19 from by decide]) ?_
      have hPc := hP.sub (ws' := [(h0, .inr (11, MO ma sv_thrown sv_length sv_nodes sv_many sv_directories sv_runsFrom sv_runs sv_read sv_wrong sv_isNamed sv_goes sv_goesSize sv_goesAt sv_targetParts sv_isRoot)), ((ma 16), .inl (cJ, 46080, .inr (.inl G_38)))]) [7, 8] rfl
      have hDc := hD.sub (ws' := [(h0, .inr (11, MO ma sv_thrown sv_length sv_nodes sv_many sv_directories sv_runsFrom sv_runs sv_read sv_wrong sv_isNamed sv_goes sv_goesSize sv_goesAt sv_targetParts sv_isRoot)), ((ma 16), .inl (cJ, 46080, .inr (.inl G_38)))]) [7, 8] (by decide +kernel) rfl
      have hFc := va_free (wc := [(h0, .inr (11, MO ma sv_thrown sv_length sv_nodes sv_many sv_directories sv_runsFrom sv_runs sv_read sv_wrong sv_isNamed sv_goes sv_goesSize sv_goesAt sv_targetParts sv_isRoot)), ((ma 16), .inl (cJ, 46080, .inr (.inl G_38)))]) hD hS hA [7, 8] rfl
      have hkc : 0 ≤ 0 := by decide
      have hks : 0 ≤ 0 := by decide
      refine va_callv (va_runV (C := "DiscMakerModel") (As := [.int 32908, .int 4, .int 19]) (rest := []) ⟨hx, hb, hml, hown, hts⟩ (m_low4F l D cB cI cJ cZ cN cF H.size h0 ma sv_thrown sv_length sv_nodes sv_many sv_directories sv_runsFrom sv_runs sv_read sv_wrong sv_isNamed sv_goes sv_goesSize sv_goesAt sv_targetParts sv_isRoot G_38 32908 19 (by (try dsimp only); first | assumption | omega | trivial) (by (try dsimp only); first | assumption | omega | trivial)) (cwV 3 hts (lg_goodV k1744 k1746 k82 k125 kc_DiscMakerModel_low) rfl rfl rfl (by decide +kernel) ⟨Nat.le_of_ble_eq_true rfl, Nat.le_of_ble_eq_true rfl⟩) ⟨fun a U g mk q => by obtain ⟨q0, q1, qP, qK, qN, qD⟩ := q; exact ⟨q0, q1, qP, va_K.moved (u := U) (U := U.calling g mk a) (Vm.Alike.refl U.vm) qK, qN.calling, qD⟩, va_recv hK hP (ci := 11) (q0 := 7) rfl rfl, fun U hU hW => ⟨rfl, by rw [hU], by rw [hU]; exact hPc, va_K.moved hW.alike hK, NN.warm hW hN, hDc.weaken (fun _ _ _ _ => trivial)⟩⟩ rfl rfl hl.1 rfl (lv_room (Nat.le_of_ble_eq_true rfl)) d_DiscMakerModel_describe_228 ⟨hkc, hks⟩) hS (fun q _ h => hFc q h) hFc (fun u t H1 locs ht hvm hp_r40 hB hz1 hk1 hS => ?_)
      obtain ⟨G_41, rfl⟩ : ∃ z, z = u := ⟨_, rfl⟩
      obtain ⟨hP1, hD1⟩ := hB
      rw [ht] at hP1
      obtain ⟨hP, hD⟩ := va_join (wr := [((ma 18), .inl (cI, 80, .inl fSe)), ((ma 19), .inl (cI, 80, .inl fSs)), ((ma 1), .inl (cI, 40, .inl fK)), ((ma 9), .inl (cI, 40, .inl fNS)), ((ma 13), .inl (cI, 40, .inl fBs)), ((ma 15), .inl (cI, 40, .inl fEs)), ((ma 17), .inl (cI, 24, .inl fTb))]) (w1 := [(h0, .inr (11, MO ma sv_thrown sv_length sv_nodes sv_many sv_directories sv_runsFrom sv_runs sv_read sv_wrong sv_isNamed sv_goes sv_goesSize sv_goesAt sv_targetParts sv_isRoot)), ((ma 16), .inl (cJ, 46080, .inr (.inl G_41)))]) hP hD [7, 8] [0, 1, 2, 3, 4, 5, 6] rfl rfl (by decide +kernel) (by decide +kernel) hk1 hFc hP1 hD1
      clear hPc hDc hFc hP1 hD1 hk1 hz1 hkc hks
      generalize H1 = H at hP hS ⊢
      have hP : va_P D CL [((ma 18), .inl (cI, 80, .inl fSe)), ((ma 19), .inl (cI, 80, .inl fSs)), ((ma 1), .inl (cI, 40, .inl fK)), ((ma 9), .inl (cI, 40, .inl fNS)), ((ma 13), .inl (cI, 40, .inl fBs)), ((ma 15), .inl (cI, 40, .inl fEs)), ((ma 17), .inl (cI, 24, .inl fTb)), (h0, .inr (11, MO ma sv_thrown sv_length sv_nodes sv_many sv_directories sv_runsFrom sv_runs sv_read sv_wrong sv_isNamed sv_goes sv_goesSize sv_goesAt sv_targetParts sv_isRoot)), ((ma 16), .inl (cJ, 46080, .inr (.inl G_41)))] H := hP
      have hD : va_D A [((ma 18), .inl (cI, 80, .inl fSe)), ((ma 19), .inl (cI, 80, .inl fSs)), ((ma 1), .inl (cI, 40, .inl fK)), ((ma 9), .inl (cI, 40, .inl fNS)), ((ma 13), .inl (cI, 40, .inl fBs)), ((ma 15), .inl (cI, 40, .inl fEs)), ((ma 17), .inl (cI, 24, .inl fTb)), (h0, .inr (11, MO ma sv_thrown sv_length sv_nodes sv_many sv_directories sv_runsFrom sv_runs sv_read sv_wrong sv_isNamed sv_goes sv_goesSize sv_goesAt sv_targetParts sv_isRoot)), ((ma 16), .inl (cJ, 46080, .inr (.inl G_41)))] := hD
      try dsimp only at hp_r40
      have hw_42 := hp_r40
      try rw [L_19] at hw_42
      try rw [L_32908] at hw_42
      refine lv_aload_n hx hb d_DiscMakerModel_describe_231 rfl (lv_at hl 0 rfl) ?_
      refine lv_iload_n hx hb d_DiscMakerModel_describe_232 rfl (lv_at hl 2 rfl) ?_
      refine lv_sipush (v := 148) hx hb d_DiscMakerModel_describe_233 (by decide) ?_
      refine lv_iadd hx hb d_DiscMakerModel_describe_236 ?_
      refine W.eq (g2 := F0 m 237 ls [.int 32916, .ref h0]) (by rw [show ((32768 : Int32) + 148) = 32916 from by decide]) ?_
      have L_32916 : (32916 : Int32).toInt = 32916 := by decide
      refine lv_iconst (v := 4) hx hb d_DiscMakerModel_describe_237 (by decide) ?_
      refine lv_bipush (v := 20) hx hb d_DiscMakerModel_describe_238 (by decide) ?_
      refine lv_iconst (v := 2) hx hb d_DiscMakerModel_describe_240 (by decide) ?_
      refine lv_iload_n hx hb d_DiscMakerModel_describe_241 rfl (lv_at hl 1 rfl) ?_
      refine lv_imul hx hb d_DiscMakerModel_describe_242 ?_
      refine W.eq (g2 := F0 m 243 ls [.int 0, .int 20, .int 4, .int 32916, .ref h0]) (by rw [show ((2 : Int32) * 0) = 0 from by decide]) ?_
      refine lv_iadd hx hb d_DiscMakerModel_describe_243 ?_
      refine W.eq (g2 := F0 m 244 ls [.int 20, .int 4, .int 32916, .ref h0]) (by rw [show ((20 : Int32) + 0) = 20 from by decide]) ?_
      have hPc := hP.sub (ws' := [(h0, .inr (11, MO ma sv_thrown sv_length sv_nodes sv_many sv_directories sv_runsFrom sv_runs sv_read sv_wrong sv_isNamed sv_goes sv_goesSize sv_goesAt sv_targetParts sv_isRoot)), ((ma 16), .inl (cJ, 46080, .inr (.inl G_41)))]) [7, 8] rfl
      have hDc := hD.sub (ws' := [(h0, .inr (11, MO ma sv_thrown sv_length sv_nodes sv_many sv_directories sv_runsFrom sv_runs sv_read sv_wrong sv_isNamed sv_goes sv_goesSize sv_goesAt sv_targetParts sv_isRoot)), ((ma 16), .inl (cJ, 46080, .inr (.inl G_41)))]) [7, 8] (by decide +kernel) rfl
      have hFc := va_free (wc := [(h0, .inr (11, MO ma sv_thrown sv_length sv_nodes sv_many sv_directories sv_runsFrom sv_runs sv_read sv_wrong sv_isNamed sv_goes sv_goesSize sv_goesAt sv_targetParts sv_isRoot)), ((ma 16), .inl (cJ, 46080, .inr (.inl G_41)))]) hD hS hA [7, 8] rfl
      have hkc : 0 ≤ 0 := by decide
      have hks : 0 ≤ 0 := by decide
      refine va_callv (va_runV (C := "DiscMakerModel") (As := [.int 32916, .int 4, .int 20]) (rest := []) ⟨hx, hb, hml, hown, hts⟩ (m_high4F l D cB cI cJ cZ cN cF H.size h0 ma sv_thrown sv_length sv_nodes sv_many sv_directories sv_runsFrom sv_runs sv_read sv_wrong sv_isNamed sv_goes sv_goesSize sv_goesAt sv_targetParts sv_isRoot G_41 32916 20 (by (try dsimp only); first | assumption | omega | trivial) (by (try dsimp only); first | assumption | omega | trivial)) (cwV 3 hts (lg_goodV k1748 k1750 k83 k125 kc_DiscMakerModel_high) rfl rfl rfl (by decide +kernel) ⟨Nat.le_of_ble_eq_true rfl, Nat.le_of_ble_eq_true rfl⟩) ⟨fun a U g mk q => by obtain ⟨q0, q1, qP, qK, qN, qD⟩ := q; exact ⟨q0, q1, qP, va_K.moved (u := U) (U := U.calling g mk a) (Vm.Alike.refl U.vm) qK, qN.calling, qD⟩, va_recv hK hP (ci := 11) (q0 := 7) rfl rfl, fun U hU hW => ⟨rfl, by rw [hU], by rw [hU]; exact hPc, va_K.moved hW.alike hK, NN.warm hW hN, hDc.weaken (fun _ _ _ _ => trivial)⟩⟩ rfl rfl hl.1 rfl (lv_room (Nat.le_of_ble_eq_true rfl)) d_DiscMakerModel_describe_244 ⟨hkc, hks⟩) hS (fun q _ h => hFc q h) hFc (fun u t H1 locs ht hvm hp_r43 hB hz1 hk1 hS => ?_)
      obtain ⟨G_44, rfl⟩ : ∃ z, z = u := ⟨_, rfl⟩
      obtain ⟨hP1, hD1⟩ := hB
      rw [ht] at hP1
      obtain ⟨hP, hD⟩ := va_join (wr := [((ma 18), .inl (cI, 80, .inl fSe)), ((ma 19), .inl (cI, 80, .inl fSs)), ((ma 1), .inl (cI, 40, .inl fK)), ((ma 9), .inl (cI, 40, .inl fNS)), ((ma 13), .inl (cI, 40, .inl fBs)), ((ma 15), .inl (cI, 40, .inl fEs)), ((ma 17), .inl (cI, 24, .inl fTb))]) (w1 := [(h0, .inr (11, MO ma sv_thrown sv_length sv_nodes sv_many sv_directories sv_runsFrom sv_runs sv_read sv_wrong sv_isNamed sv_goes sv_goesSize sv_goesAt sv_targetParts sv_isRoot)), ((ma 16), .inl (cJ, 46080, .inr (.inl G_44)))]) hP hD [7, 8] [0, 1, 2, 3, 4, 5, 6] rfl rfl (by decide +kernel) (by decide +kernel) hk1 hFc hP1 hD1
      clear hPc hDc hFc hP1 hD1 hk1 hz1 hkc hks
      generalize H1 = H at hP hS ⊢
      have hP : va_P D CL [((ma 18), .inl (cI, 80, .inl fSe)), ((ma 19), .inl (cI, 80, .inl fSs)), ((ma 1), .inl (cI, 40, .inl fK)), ((ma 9), .inl (cI, 40, .inl fNS)), ((ma 13), .inl (cI, 40, .inl fBs)), ((ma 15), .inl (cI, 40, .inl fEs)), ((ma 17), .inl (cI, 24, .inl fTb)), (h0, .inr (11, MO ma sv_thrown sv_length sv_nodes sv_many sv_directories sv_runsFrom sv_runs sv_read sv_wrong sv_isNamed sv_goes sv_goesSize sv_goesAt sv_targetParts sv_isRoot)), ((ma 16), .inl (cJ, 46080, .inr (.inl G_44)))] H := hP
      have hD : va_D A [((ma 18), .inl (cI, 80, .inl fSe)), ((ma 19), .inl (cI, 80, .inl fSs)), ((ma 1), .inl (cI, 40, .inl fK)), ((ma 9), .inl (cI, 40, .inl fNS)), ((ma 13), .inl (cI, 40, .inl fBs)), ((ma 15), .inl (cI, 40, .inl fEs)), ((ma 17), .inl (cI, 24, .inl fTb)), (h0, .inr (11, MO ma sv_thrown sv_length sv_nodes sv_many sv_directories sv_runsFrom sv_runs sv_read sv_wrong sv_isNamed sv_goes sv_goesSize sv_goesAt sv_targetParts sv_isRoot)), ((ma 16), .inl (cJ, 46080, .inr (.inl G_44)))] := hD
      try dsimp only at hp_r43
      have hw_45 := hp_r43
      try rw [L_20] at hw_45
      try rw [L_32916] at hw_45
      have wt0 := hw_39
      rw [show r34.toInt = ptS dt 0 Q0 Q0.length by (have h7 := hv_36; (try rw [show (0 : Int32).toInt = 0 by decide] at h7); exact h7)] at wt0
      have wl0 := hw_42
      try rw [show (19 : Int32).toInt = 19 by decide] at wl0
      have wh0 := hw_45
      try rw [show (20 : Int32).toInt = 20 by decide] at wh0
      have rt0 := ds_10 (t := 0) (lo := 32768) (hi := 34816) (hz.sub (by decide) (by decide)) hh0 wa0 hw_24 we0 hw_27 hw_30 hw_33 wt0 wl0 wh0 (by first | exact Or.inr ⟨rfl, rfl⟩ | exact Or.inl ⟨rfl, rfl⟩) rfl rfl (by omega) rfl (by omega) (by omega) (by omega) (by omega) (by omega) (by omega) (by decide)
      refine lv_aload_n hx hb d_DiscMakerModel_describe_247 rfl (lv_at hl 0 rfl) ?_
      refine lv_iload_n hx hb d_DiscMakerModel_describe_248 rfl (lv_at hl 1 rfl) ?_
      refine lv_iload_n hx hb d_DiscMakerModel_describe_249 rfl (lv_at hl 2 rfl) ?_
      refine lv_sipush (v := 156) hx hb d_DiscMakerModel_describe_250 (by decide) ?_
      refine lv_iadd hx hb d_DiscMakerModel_describe_253 ?_
      refine W.eq (g2 := F0 m 254 ls [.int 32924, .int 0, .ref h0]) (by rw [show ((32768 : Int32) + 156) = 32924 from by decide]) ?_
      have L_32924 : (32924 : Int32).toInt = 32924 := by decide
      have hPc := hP.sub (ws' := [(h0, .inr (11, MO ma sv_thrown sv_length sv_nodes sv_many sv_directories sv_runsFrom sv_runs sv_read sv_wrong sv_isNamed sv_goes sv_goesSize sv_goesAt sv_targetParts sv_isRoot)), ((ma 16), .inl (cJ, 46080, .inr (.inl G_44))), ((ma 18), .inl (cI, 80, .inl fSe)), ((ma 19), .inl (cI, 80, .inl fSs))]) [7, 8, 0, 1] rfl
      have hDc := hD.sub (ws' := [(h0, .inr (11, MO ma sv_thrown sv_length sv_nodes sv_many sv_directories sv_runsFrom sv_runs sv_read sv_wrong sv_isNamed sv_goes sv_goesSize sv_goesAt sv_targetParts sv_isRoot)), ((ma 16), .inl (cJ, 46080, .inr (.inl G_44))), ((ma 18), .inl (cI, 80, .inl fSe)), ((ma 19), .inl (cI, 80, .inl fSs))]) [7, 8, 0, 1] (by decide +kernel) rfl
      have hFc := va_free (wc := [(h0, .inr (11, MO ma sv_thrown sv_length sv_nodes sv_many sv_directories sv_runsFrom sv_runs sv_read sv_wrong sv_isNamed sv_goes sv_goesSize sv_goesAt sv_targetParts sv_isRoot)), ((ma 16), .inl (cJ, 46080, .inr (.inl G_44))), ((ma 18), .inl (cI, 80, .inl fSe)), ((ma 19), .inl (cI, 80, .inl fSs))]) hD hS hA [7, 8, 0, 1] rfl
      have hkc : 0 ≤ 0 := by decide
      have hks : 0 ≤ 0 := by decide
      refine va_callv (va_runV (C := "DiscMakerModel") (As := [.int 0, .int 32924]) (rest := []) ⟨hx, hb, hml, hown, hts⟩ (m_rootRecordF l D cB cI cJ cZ cN cF H.size h0 ma sv_thrown sv_length sv_nodes sv_many sv_directories sv_runsFrom sv_runs sv_read sv_wrong sv_isNamed sv_goes sv_goesSize sv_goesAt sv_targetParts sv_isRoot G_44 fSe fSs (dxE dx 0 0) (dxZ dx 0 0) 34816 0 32924 (by (try dsimp only); first | assumption | omega | trivial) (by (try dsimp only); first | assumption | omega | trivial) (⟨rt0.2.2.sub (by omega) (Int.le_refl _), by omega⟩) ((by rw [show (0 : Int32).toNatClampNeg = 0 by decide]; exact hE0.1)) ((by rw [show (0 : Int32).toNatClampNeg = 0 by decide]; exact hE0.2))) (cwV 2 hts (lg_goodV k1789 k1791 k92 k125 kc_DiscMakerModel_rootRecord) rfl rfl rfl (by decide +kernel) ⟨Nat.le_of_ble_eq_true rfl, Nat.le_of_ble_eq_true rfl⟩) ⟨fun a U g mk q => by obtain ⟨q0, q1, qP, qK, qN, qD⟩ := q; exact ⟨q0, q1, qP, va_K.moved (u := U) (U := U.calling g mk a) (Vm.Alike.refl U.vm) qK, qN.calling, qD⟩, va_recv hK hP (ci := 11) (q0 := 7) rfl rfl, fun U hU hW => ⟨rfl, by rw [hU], by rw [hU]; exact hPc, va_K.moved hW.alike hK, NN.warm hW hN, hDc.weaken (fun _ _ _ _ => trivial)⟩⟩ rfl rfl hl.1 rfl (lv_room (Nat.le_of_ble_eq_true rfl)) d_DiscMakerModel_describe_254 ⟨hkc, hks⟩) hS (fun q _ h => hFc q h) hFc (fun u t H1 locs ht hvm hp_r46 hB hz1 hk1 hS => ?_)
      obtain ⟨G_47, rfl⟩ : ∃ z, z = u := ⟨_, rfl⟩
      obtain ⟨hP1, hD1⟩ := hB
      rw [ht] at hP1
      obtain ⟨hP, hD⟩ := va_join (wr := [((ma 1), .inl (cI, 40, .inl fK)), ((ma 9), .inl (cI, 40, .inl fNS)), ((ma 13), .inl (cI, 40, .inl fBs)), ((ma 15), .inl (cI, 40, .inl fEs)), ((ma 17), .inl (cI, 24, .inl fTb))]) (w1 := [(h0, .inr (11, MO ma sv_thrown sv_length sv_nodes sv_many sv_directories sv_runsFrom sv_runs sv_read sv_wrong sv_isNamed sv_goes sv_goesSize sv_goesAt sv_targetParts sv_isRoot)), ((ma 16), .inl (cJ, 46080, .inr (.inl G_47))), ((ma 18), .inl (cI, 80, .inl fSe)), ((ma 19), .inl (cI, 80, .inl fSs))]) hP hD [7, 8, 0, 1] [2, 3, 4, 5, 6] rfl rfl (by decide +kernel) (by decide +kernel) hk1 hFc hP1 hD1
      clear hPc hDc hFc hP1 hD1 hk1 hz1 hkc hks
      generalize H1 = H at hP hS ⊢
      have hP : va_P D CL [((ma 1), .inl (cI, 40, .inl fK)), ((ma 9), .inl (cI, 40, .inl fNS)), ((ma 13), .inl (cI, 40, .inl fBs)), ((ma 15), .inl (cI, 40, .inl fEs)), ((ma 17), .inl (cI, 24, .inl fTb)), (h0, .inr (11, MO ma sv_thrown sv_length sv_nodes sv_many sv_directories sv_runsFrom sv_runs sv_read sv_wrong sv_isNamed sv_goes sv_goesSize sv_goesAt sv_targetParts sv_isRoot)), ((ma 16), .inl (cJ, 46080, .inr (.inl G_47))), ((ma 18), .inl (cI, 80, .inl fSe)), ((ma 19), .inl (cI, 80, .inl fSs))] H := hP
      have hD : va_D A [((ma 1), .inl (cI, 40, .inl fK)), ((ma 9), .inl (cI, 40, .inl fNS)), ((ma 13), .inl (cI, 40, .inl fBs)), ((ma 15), .inl (cI, 40, .inl fEs)), ((ma 17), .inl (cI, 24, .inl fTb)), (h0, .inr (11, MO ma sv_thrown sv_length sv_nodes sv_many sv_directories sv_runsFrom sv_runs sv_read sv_wrong sv_isNamed sv_goes sv_goesSize sv_goesAt sv_targetParts sv_isRoot)), ((ma 16), .inl (cJ, 46080, .inr (.inl G_47))), ((ma 18), .inl (cI, 80, .inl fSe)), ((ma 19), .inl (cI, 80, .inl fSs))] := hD
      try dsimp only at hp_r46
      have hw_48 := hp_r46
      try rw [L_32924] at hw_48
      have wr0 := (hw_48).1
      refine lv_sipush (v := 190) hx hb d_DiscMakerModel_describe_257 (by decide) ?_
      refine lv_istore_n hx hb d_DiscMakerModel_describe_260 rfl hl (by decide) rfl (fun ls hl => ?_)
      have hl : lv_has ls 4 [(3, .int 190), (0, .ref h0), (1, .int 0), (2, .int 32768)] := hl
      refine zz_labM (B := fun (lk : Nat) (K : Heap → List Loc → Array Slot → List Value → Prop) => ∀ (kb0 : Int32) (nB0 : Nat → Int64) (H : Heap) (locs : List Loc) (ls : Array Slot), lk = (813 - kb0.toInt).toNat → (190 ≤ kb0.toInt ∧ kb0.toInt ≤ 813) → (BL (bF G_47) (bF nB0) (32768 + 190) (tbL (fun _ => 32) (kb0.toInt - 190).toNat)) → va_P D CL [((ma 1), .inl (cI, 40, .inl fK)), ((ma 9), .inl (cI, 40, .inl fNS)), ((ma 13), .inl (cI, 40, .inl fBs)), ((ma 15), .inl (cI, 40, .inl fEs)), ((ma 17), .inl (cI, 24, .inl fTb)), (h0, .inr (11, MO ma sv_thrown sv_length sv_nodes sv_many sv_directories sv_runsFrom sv_runs sv_read sv_wrong sv_isNamed sv_goes sv_goesSize sv_goesAt sv_targetParts sv_isRoot)), ((ma 16), .inl (cJ, 46080, .inr (.inl nB0))), ((ma 18), .inl (cI, 80, .inl fSe)), ((ma 19), .inl (cI, 80, .inl fSs))] H → va_D A [((ma 1), .inl (cI, 40, .inl fK)), ((ma 9), .inl (cI, 40, .inl fNS)), ((ma 13), .inl (cI, 40, .inl fBs)), ((ma 15), .inl (cI, 40, .inl fEs)), ((ma 17), .inl (cI, 24, .inl fTb)), (h0, .inr (11, MO ma sv_thrown sv_length sv_nodes sv_many sv_directories sv_runsFrom sv_runs sv_read sv_wrong sv_isNamed sv_goes sv_goesSize sv_goesAt sv_targetParts sv_isRoot)), ((ma 16), .inl (cJ, 46080, .inr (.inl nB0))), ((ma 18), .inl (cI, 80, .inl fSe)), ((ma 19), .inl (cI, 80, .inl fSs))] → va_S A s.heap H locs → lv_has ls 4 [(0, .ref h0), (1, .int 0), (2, .int 32768), (3, .int kb0)] → K H locs ls []) 261 ?_ ?_
      · skip
        intro lk ih261 kb0 nB0 H locs ls hm261 rkb0 gkb0 hP hD hS hl
        refine lv_iload_n hx hb d_DiscMakerModel_describe_261 rfl (lv_at hl 3 rfl) ?_
        refine lv_sipush (v := 813) hx hb d_DiscMakerModel_describe_262 (by decide) ?_
        refine lv_icmp_ge (tgt := 283) hx hb d_DiscMakerModel_describe_265 (by decide) (fun h_9 => ?_) (fun h_9 => ?_)
        · skip
          have g265_139 : 813 ≤ kb0.toInt := (i_le (by decide) rfl).mp h_9
          have wb0 := gkb0.tbc (m := 623) (by omega)
          refine lv_iconst (v := 0) hx hb d_DiscMakerModel_describe_283 (by decide) ?_
          refine lv_istore_n hx hb d_DiscMakerModel_describe_284 rfl hl (by decide) rfl (fun ls hl => ?_)
          have hl : lv_has ls 4 [(3, .int 0), (0, .ref h0), (1, .int 0), (2, .int 32768)] := hl
          refine zz_labM (B := fun (lk : Nat) (K : Heap → List Loc → Array Slot → List Value → Prop) => ∀ (kc0 : Int32) (nC0 : Nat → Int64) (H : Heap) (locs : List Loc) (ls : Array Slot), lk = (68 - kc0.toInt).toNat → (0 ≤ kc0.toInt ∧ kc0.toInt ≤ 68) → (BL (bF nB0) (bF nC0) (32768 + 813) (tbL (fun k => if k % 17 < 16 then 48 else 0) (kc0.toInt - 0).toNat)) → va_P D CL [((ma 1), .inl (cI, 40, .inl fK)), ((ma 9), .inl (cI, 40, .inl fNS)), ((ma 13), .inl (cI, 40, .inl fBs)), ((ma 15), .inl (cI, 40, .inl fEs)), ((ma 17), .inl (cI, 24, .inl fTb)), (h0, .inr (11, MO ma sv_thrown sv_length sv_nodes sv_many sv_directories sv_runsFrom sv_runs sv_read sv_wrong sv_isNamed sv_goes sv_goesSize sv_goesAt sv_targetParts sv_isRoot)), ((ma 16), .inl (cJ, 46080, .inr (.inl nC0))), ((ma 18), .inl (cI, 80, .inl fSe)), ((ma 19), .inl (cI, 80, .inl fSs))] H → va_D A [((ma 1), .inl (cI, 40, .inl fK)), ((ma 9), .inl (cI, 40, .inl fNS)), ((ma 13), .inl (cI, 40, .inl fBs)), ((ma 15), .inl (cI, 40, .inl fEs)), ((ma 17), .inl (cI, 24, .inl fTb)), (h0, .inr (11, MO ma sv_thrown sv_length sv_nodes sv_many sv_directories sv_runsFrom sv_runs sv_read sv_wrong sv_isNamed sv_goes sv_goesSize sv_goesAt sv_targetParts sv_isRoot)), ((ma 16), .inl (cJ, 46080, .inr (.inl nC0))), ((ma 18), .inl (cI, 80, .inl fSe)), ((ma 19), .inl (cI, 80, .inl fSs))] → va_S A s.heap H locs → lv_has ls 4 [(0, .ref h0), (1, .int 0), (2, .int 32768), (3, .int kc0)] → K H locs ls []) 285 ?_ ?_
          · skip
            intro lk ih285 kc0 nC0 H locs ls hm285 rkc0 gkc0 hP hD hS hl
            refine lv_iload_n hx hb d_DiscMakerModel_describe_285 rfl (lv_at hl 3 rfl) ?_
            refine lv_bipush (v := 68) hx hb d_DiscMakerModel_describe_286 (by decide) ?_
            refine lv_icmp_ge (tgt := 323) hx hb d_DiscMakerModel_describe_288 (by decide) (fun h_9 => ?_) (fun h_9 => ?_)
            · skip
              have g288_144 : 68 ≤ kc0.toInt := (i_le (by decide) rfl).mp h_9
              have wz0 := gkc0
              rw [show (kc0.toInt - 0).toNat = 68 by omega] at wz0
              refine lv_aload_n hx hb d_DiscMakerModel_describe_323 rfl (lv_at hl 0 rfl) ?_
              refine lv_iload_n hx hb d_DiscMakerModel_describe_324 rfl (lv_at hl 2 rfl) ?_
              refine lv_sipush (v := 881) hx hb d_DiscMakerModel_describe_325 (by decide) ?_
              refine lv_iadd hx hb d_DiscMakerModel_describe_328 ?_
              refine W.eq (g2 := F0 m 329 ls [.int 33649, .ref h0]) (by rw [show ((32768 : Int32) + 881) = 33649 from by decide]) ?_
              have L_33649 : (33649 : Int32).toInt = 33649 := by decide
              refine lv_iconst (v := 1) hx hb d_DiscMakerModel_describe_329 (by decide) ?_
              have hPc := hP.sub (ws' := [(h0, .inr (11, MO ma sv_thrown sv_length sv_nodes sv_many sv_directories sv_runsFrom sv_runs sv_read sv_wrong sv_isNamed sv_goes sv_goesSize sv_goesAt sv_targetParts sv_isRoot)), ((ma 16), .inl (cJ, 46080, .inr (.inl nC0)))]) [5, 6] rfl
              have hDc := hD.sub (ws' := [(h0, .inr (11, MO ma sv_thrown sv_length sv_nodes sv_many sv_directories sv_runsFrom sv_runs sv_read sv_wrong sv_isNamed sv_goes sv_goesSize sv_goesAt sv_targetParts sv_isRoot)), ((ma 16), .inl (cJ, 46080, .inr (.inl nC0)))]) [5, 6] (by decide +kernel) rfl
              have hFc := va_free (wc := [(h0, .inr (11, MO ma sv_thrown sv_length sv_nodes sv_many sv_directories sv_runsFrom sv_runs sv_read sv_wrong sv_isNamed sv_goes sv_goesSize sv_goesAt sv_targetParts sv_isRoot)), ((ma 16), .inl (cJ, 46080, .inr (.inl nC0)))]) hD hS hA [5, 6] rfl
              have hkc : 0 ≤ 0 := by decide
              have hks : 0 ≤ 0 := by decide
              refine va_callv (va_runV (C := "DiscMakerModel") (As := [.int 33649, .int 1]) (rest := []) ⟨hx, hb, hml, hown, hts⟩ (m_setF l D cB cI cJ cZ cN cF H.size h0 ma sv_thrown sv_length sv_nodes sv_many sv_directories sv_runsFrom sv_runs sv_read sv_wrong sv_isNamed sv_goes sv_goesSize sv_goesAt sv_targetParts sv_isRoot nC0 33649 1 (by (try dsimp only); first | assumption | omega | trivial) (by (try dsimp only); first | assumption | omega | trivial)) (cwV 2 hts (lg_goodV k1727 k1729 k79 k125 kc_DiscMakerModel_set) rfl rfl rfl (by decide +kernel) ⟨Nat.le_of_ble_eq_true rfl, Nat.le_of_ble_eq_true rfl⟩) ⟨fun a U g mk q => by obtain ⟨q0, q1, qP, qK, qN, qD⟩ := q; exact ⟨q0, q1, qP, va_K.moved (u := U) (U := U.calling g mk a) (Vm.Alike.refl U.vm) qK, qN.calling, qD⟩, va_recv hK hP (ci := 11) (q0 := 5) rfl rfl, fun U hU hW => ⟨rfl, by rw [hU], by rw [hU]; exact hPc, va_K.moved hW.alike hK, NN.warm hW hN, hDc.weaken (fun _ _ _ _ => trivial)⟩⟩ rfl rfl hl.1 rfl (lv_room (Nat.le_of_ble_eq_true rfl)) d_DiscMakerModel_describe_330 ⟨hkc, hks⟩) hS (fun q _ h => hFc q h) hFc (fun u t H1 locs ht hvm hp_r49 hB hz1 hk1 hS => ?_)
              obtain ⟨G_50, rfl⟩ : ∃ z, z = u := ⟨_, rfl⟩
              obtain ⟨hP1, hD1⟩ := hB
              rw [ht] at hP1
              obtain ⟨hP, hD⟩ := va_join (wr := [((ma 1), .inl (cI, 40, .inl fK)), ((ma 9), .inl (cI, 40, .inl fNS)), ((ma 13), .inl (cI, 40, .inl fBs)), ((ma 15), .inl (cI, 40, .inl fEs)), ((ma 17), .inl (cI, 24, .inl fTb)), ((ma 18), .inl (cI, 80, .inl fSe)), ((ma 19), .inl (cI, 80, .inl fSs))]) (w1 := [(h0, .inr (11, MO ma sv_thrown sv_length sv_nodes sv_many sv_directories sv_runsFrom sv_runs sv_read sv_wrong sv_isNamed sv_goes sv_goesSize sv_goesAt sv_targetParts sv_isRoot)), ((ma 16), .inl (cJ, 46080, .inr (.inl G_50)))]) hP hD [5, 6] [0, 1, 2, 3, 4, 7, 8] rfl rfl (by decide +kernel) (by decide +kernel) hk1 hFc hP1 hD1
              clear hPc hDc hFc hP1 hD1 hk1 hz1 hkc hks
              generalize H1 = H at hP hS ⊢
              have hP : va_P D CL [((ma 1), .inl (cI, 40, .inl fK)), ((ma 9), .inl (cI, 40, .inl fNS)), ((ma 13), .inl (cI, 40, .inl fBs)), ((ma 15), .inl (cI, 40, .inl fEs)), ((ma 17), .inl (cI, 24, .inl fTb)), ((ma 18), .inl (cI, 80, .inl fSe)), ((ma 19), .inl (cI, 80, .inl fSs)), (h0, .inr (11, MO ma sv_thrown sv_length sv_nodes sv_many sv_directories sv_runsFrom sv_runs sv_read sv_wrong sv_isNamed sv_goes sv_goesSize sv_goesAt sv_targetParts sv_isRoot)), ((ma 16), .inl (cJ, 46080, .inr (.inl G_50)))] H := hP
              have hD : va_D A [((ma 1), .inl (cI, 40, .inl fK)), ((ma 9), .inl (cI, 40, .inl fNS)), ((ma 13), .inl (cI, 40, .inl fBs)), ((ma 15), .inl (cI, 40, .inl fEs)), ((ma 17), .inl (cI, 24, .inl fTb)), ((ma 18), .inl (cI, 80, .inl fSe)), ((ma 19), .inl (cI, 80, .inl fSs)), (h0, .inr (11, MO ma sv_thrown sv_length sv_nodes sv_many sv_directories sv_runsFrom sv_runs sv_read sv_wrong sv_isNamed sv_goes sv_goesSize sv_goesAt sv_targetParts sv_isRoot)), ((ma 16), .inl (cJ, 46080, .inr (.inl G_50)))] := hD
              try dsimp only at hp_r49
              have hw_51 := hp_r49
              try rw [L_1] at hw_51
              try rw [L_33649] at hw_51
              have rd0 := ds_M (ds_12 rt0 wr0 wb0 (by omega) rfl) wz0 hw_51 rfl (by omega)
              have hb0 := rd0.1
              have hz1 := hz.sub (c := 34816) (d := 38912) (by decide) (by decide)
              have hz1 := hz1.bl hb0 (Or.inl (by rw [show ((_ : List Int).length : Int) = 882 from rd0.2.1]; decide))
              refine lv_iinc (v := 1) hx hb d_DiscMakerModel_describe_333 hl (k := 1) rfl (by decide) (by decide +kernel) rfl (fun ls hl => ?_)
              have hl : lv_has ls 4 [(1, .int 1), (0, .ref h0), (2, .int 32768), (3, .int kc0)] := hl
              refine lv_goto (tgt := 2) hx hb d_DiscMakerModel_describe_336 (by decide) ?_
              refine lv_iload_n hx hb d_DiscMakerModel_describe_2 rfl (lv_at hl 0 rfl) ?_
              refine lv_iconst (v := 3) hx hb d_DiscMakerModel_describe_3 (by decide) ?_
              refine lv_icmp_ge (tgt := 339) hx hb d_DiscMakerModel_describe_4 (by decide) (fun h_9 => absurd h_9 (by decide)) (fun _ => ?_)
              refine lv_sipush (v := 2048) hx hb d_DiscMakerModel_describe_7 (by decide) ?_
              refine lv_bipush (v := 16) hx hb d_DiscMakerModel_describe_10 (by decide) ?_
              refine lv_iload_n hx hb d_DiscMakerModel_describe_12 rfl (lv_at hl 0 rfl) ?_
              refine lv_iadd hx hb d_DiscMakerModel_describe_13 ?_
              refine W.eq (g2 := F0 m 14 ls [.int 17, .int 2048]) (by rw [show ((16 : Int32) + 1) = 17 from by decide]) ?_
              refine lv_imul hx hb d_DiscMakerModel_describe_14 ?_
              refine W.eq (g2 := F0 m 15 ls [.int 34816]) (by rw [show ((2048 : Int32) * 17) = 34816 from by decide]) ?_
              have L_34816 : (34816 : Int32).toInt = 34816 := by decide
              refine lv_istore_n hx hb d_DiscMakerModel_describe_15 rfl hl (by decide) rfl (fun ls hl => ?_)
              have hl : lv_has ls 4 [(2, .int 34816), (1, .int 1), (0, .ref h0), (3, .int kc0)] := hl
              refine lv_aload_n hx hb d_DiscMakerModel_describe_16 rfl (lv_at hl 2 rfl) ?_
              refine lv_iload_n hx hb d_DiscMakerModel_describe_17 rfl (lv_at hl 0 rfl) ?_
              refine lv_iload_n hx hb d_DiscMakerModel_describe_18 rfl (lv_at hl 1 rfl) ?_
              refine lv_iconst (v := 2) hx hb d_DiscMakerModel_describe_19 (by decide) ?_
              refine lv_icmp_ge (tgt := 29) hx hb d_DiscMakerModel_describe_20 (by decide) (fun h_9 => absurd h_9 (by decide)) (fun _ => ?_)
              refine lv_iload_n hx hb d_DiscMakerModel_describe_23 rfl (lv_at hl 1 rfl) ?_
              refine lv_iconst (v := 1) hx hb d_DiscMakerModel_describe_24 (by decide) ?_
              refine lv_iadd hx hb d_DiscMakerModel_describe_25 ?_
              refine W.eq (g2 := F0 m 26 ls [.int 2, .int 34816, .ref h0]) (by rw [show ((1 : Int32) + 1) = 2 from by decide]) ?_
              refine lv_goto (tgt := 32) hx hb d_DiscMakerModel_describe_26 (by decide) ?_
              have hPc := hP.sub (ws' := [(h0, .inr (11, MO ma sv_thrown sv_length sv_nodes sv_many sv_directories sv_runsFrom sv_runs sv_read sv_wrong sv_isNamed sv_goes sv_goesSize sv_goesAt sv_targetParts sv_isRoot)), ((ma 16), .inl (cJ, 46080, .inr (.inl G_50)))]) [7, 8] rfl
              have hDc := hD.sub (ws' := [(h0, .inr (11, MO ma sv_thrown sv_length sv_nodes sv_many sv_directories sv_runsFrom sv_runs sv_read sv_wrong sv_isNamed sv_goes sv_goesSize sv_goesAt sv_targetParts sv_isRoot)), ((ma 16), .inl (cJ, 46080, .inr (.inl G_50)))]) [7, 8] (by decide +kernel) rfl
              have hFc := va_free (wc := [(h0, .inr (11, MO ma sv_thrown sv_length sv_nodes sv_many sv_directories sv_runsFrom sv_runs sv_read sv_wrong sv_isNamed sv_goes sv_goesSize sv_goesAt sv_targetParts sv_isRoot)), ((ma 16), .inl (cJ, 46080, .inr (.inl G_50)))]) hD hS hA [7, 8] rfl
              have hkc : 0 ≤ 0 := by decide
              have hks : 0 ≤ 0 := by decide
              refine va_callv (va_runV (C := "DiscMakerModel") (As := [.int 34816, .int 2]) (rest := []) ⟨hx, hb, hml, hown, hts⟩ (m_setF l D cB cI cJ cZ cN cF H.size h0 ma sv_thrown sv_length sv_nodes sv_many sv_directories sv_runsFrom sv_runs sv_read sv_wrong sv_isNamed sv_goes sv_goesSize sv_goesAt sv_targetParts sv_isRoot G_50 34816 2 (by (try dsimp only); first | assumption | omega | trivial) (by (try dsimp only); first | assumption | omega | trivial)) (cwV 2 hts (lg_goodV k1727 k1729 k79 k125 kc_DiscMakerModel_set) rfl rfl rfl (by decide +kernel) ⟨Nat.le_of_ble_eq_true rfl, Nat.le_of_ble_eq_true rfl⟩) ⟨fun a U g mk q => by obtain ⟨q0, q1, qP, qK, qN, qD⟩ := q; exact ⟨q0, q1, qP, va_K.moved (u := U) (U := U.calling g mk a) (Vm.Alike.refl U.vm) qK, qN.calling, qD⟩, va_recv hK hP (ci := 11) (q0 := 7) rfl rfl, fun U hU hW => ⟨rfl, by rw [hU], by rw [hU]; exact hPc, va_K.moved hW.alike hK, NN.warm hW hN, hDc.weaken (fun _ _ _ _ => trivial)⟩⟩ rfl rfl hl.1 rfl (lv_room (Nat.le_of_ble_eq_true rfl)) d_DiscMakerModel_describe_32 ⟨hkc, hks⟩) hS (fun q _ h => hFc q h) hFc (fun u t H1 locs ht hvm hp_r52 hB hz1 hk1 hS => ?_)
              obtain ⟨G_53, rfl⟩ : ∃ z, z = u := ⟨_, rfl⟩
              obtain ⟨hP1, hD1⟩ := hB
              rw [ht] at hP1
              obtain ⟨hP, hD⟩ := va_join (wr := [((ma 1), .inl (cI, 40, .inl fK)), ((ma 9), .inl (cI, 40, .inl fNS)), ((ma 13), .inl (cI, 40, .inl fBs)), ((ma 15), .inl (cI, 40, .inl fEs)), ((ma 17), .inl (cI, 24, .inl fTb)), ((ma 18), .inl (cI, 80, .inl fSe)), ((ma 19), .inl (cI, 80, .inl fSs))]) (w1 := [(h0, .inr (11, MO ma sv_thrown sv_length sv_nodes sv_many sv_directories sv_runsFrom sv_runs sv_read sv_wrong sv_isNamed sv_goes sv_goesSize sv_goesAt sv_targetParts sv_isRoot)), ((ma 16), .inl (cJ, 46080, .inr (.inl G_53)))]) hP hD [7, 8] [0, 1, 2, 3, 4, 5, 6] rfl rfl (by decide +kernel) (by decide +kernel) hk1 hFc hP1 hD1
              clear hPc hDc hFc hP1 hD1 hk1 hz1 hkc hks
              generalize H1 = H at hP hS ⊢
              have hP : va_P D CL [((ma 1), .inl (cI, 40, .inl fK)), ((ma 9), .inl (cI, 40, .inl fNS)), ((ma 13), .inl (cI, 40, .inl fBs)), ((ma 15), .inl (cI, 40, .inl fEs)), ((ma 17), .inl (cI, 24, .inl fTb)), ((ma 18), .inl (cI, 80, .inl fSe)), ((ma 19), .inl (cI, 80, .inl fSs)), (h0, .inr (11, MO ma sv_thrown sv_length sv_nodes sv_many sv_directories sv_runsFrom sv_runs sv_read sv_wrong sv_isNamed sv_goes sv_goesSize sv_goesAt sv_targetParts sv_isRoot)), ((ma 16), .inl (cJ, 46080, .inr (.inl G_53)))] H := hP
              have hD : va_D A [((ma 1), .inl (cI, 40, .inl fK)), ((ma 9), .inl (cI, 40, .inl fNS)), ((ma 13), .inl (cI, 40, .inl fBs)), ((ma 15), .inl (cI, 40, .inl fEs)), ((ma 17), .inl (cI, 24, .inl fTb)), ((ma 18), .inl (cI, 80, .inl fSe)), ((ma 19), .inl (cI, 80, .inl fSs)), (h0, .inr (11, MO ma sv_thrown sv_length sv_nodes sv_many sv_directories sv_runsFrom sv_runs sv_read sv_wrong sv_isNamed sv_goes sv_goesSize sv_goesAt sv_targetParts sv_isRoot)), ((ma 16), .inl (cJ, 46080, .inr (.inl G_53)))] := hD
              try dsimp only at hp_r52
              have hw_54 := hp_r52
              try rw [L_2] at hw_54
              try rw [L_34816] at hw_54
              refine lv_aload_n hx hb d_DiscMakerModel_describe_35 rfl (lv_at hl 2 rfl) ?_
              refine lv_iload_n hx hb d_DiscMakerModel_describe_36 rfl (lv_at hl 0 rfl) ?_
              refine lv_iconst (v := 1) hx hb d_DiscMakerModel_describe_37 (by decide) ?_
              refine lv_iadd hx hb d_DiscMakerModel_describe_38 ?_
              refine W.eq (g2 := F0 m 39 ls [.int 34817, .ref h0]) (by rw [show ((34816 : Int32) + 1) = 34817 from by decide]) ?_
              have L_34817 : (34817 : Int32).toInt = 34817 := by decide
              refine lv_bipush (v := 67) hx hb d_DiscMakerModel_describe_39 (by decide) ?_
              have hPc := hP.sub (ws' := [(h0, .inr (11, MO ma sv_thrown sv_length sv_nodes sv_many sv_directories sv_runsFrom sv_runs sv_read sv_wrong sv_isNamed sv_goes sv_goesSize sv_goesAt sv_targetParts sv_isRoot)), ((ma 16), .inl (cJ, 46080, .inr (.inl G_53)))]) [7, 8] rfl
              have hDc := hD.sub (ws' := [(h0, .inr (11, MO ma sv_thrown sv_length sv_nodes sv_many sv_directories sv_runsFrom sv_runs sv_read sv_wrong sv_isNamed sv_goes sv_goesSize sv_goesAt sv_targetParts sv_isRoot)), ((ma 16), .inl (cJ, 46080, .inr (.inl G_53)))]) [7, 8] (by decide +kernel) rfl
              have hFc := va_free (wc := [(h0, .inr (11, MO ma sv_thrown sv_length sv_nodes sv_many sv_directories sv_runsFrom sv_runs sv_read sv_wrong sv_isNamed sv_goes sv_goesSize sv_goesAt sv_targetParts sv_isRoot)), ((ma 16), .inl (cJ, 46080, .inr (.inl G_53)))]) hD hS hA [7, 8] rfl
              have hkc : 0 ≤ 0 := by decide
              have hks : 0 ≤ 0 := by decide
              refine va_callv (va_runV (C := "DiscMakerModel") (As := [.int 34817, .int 67]) (rest := []) ⟨hx, hb, hml, hown, hts⟩ (m_setF l D cB cI cJ cZ cN cF H.size h0 ma sv_thrown sv_length sv_nodes sv_many sv_directories sv_runsFrom sv_runs sv_read sv_wrong sv_isNamed sv_goes sv_goesSize sv_goesAt sv_targetParts sv_isRoot G_53 34817 67 (by (try dsimp only); first | assumption | omega | trivial) (by (try dsimp only); first | assumption | omega | trivial)) (cwV 2 hts (lg_goodV k1727 k1729 k79 k125 kc_DiscMakerModel_set) rfl rfl rfl (by decide +kernel) ⟨Nat.le_of_ble_eq_true rfl, Nat.le_of_ble_eq_true rfl⟩) ⟨fun a U g mk q => by obtain ⟨q0, q1, qP, qK, qN, qD⟩ := q; exact ⟨q0, q1, qP, va_K.moved (u := U) (U := U.calling g mk a) (Vm.Alike.refl U.vm) qK, qN.calling, qD⟩, va_recv hK hP (ci := 11) (q0 := 7) rfl rfl, fun U hU hW => ⟨rfl, by rw [hU], by rw [hU]; exact hPc, va_K.moved hW.alike hK, NN.warm hW hN, hDc.weaken (fun _ _ _ _ => trivial)⟩⟩ rfl rfl hl.1 rfl (lv_room (Nat.le_of_ble_eq_true rfl)) d_DiscMakerModel_describe_41 ⟨hkc, hks⟩) hS (fun q _ h => hFc q h) hFc (fun u t H1 locs ht hvm hp_r55 hB hz1 hk1 hS => ?_)
              obtain ⟨G_56, rfl⟩ : ∃ z, z = u := ⟨_, rfl⟩
              obtain ⟨hP1, hD1⟩ := hB
              rw [ht] at hP1
              obtain ⟨hP, hD⟩ := va_join (wr := [((ma 1), .inl (cI, 40, .inl fK)), ((ma 9), .inl (cI, 40, .inl fNS)), ((ma 13), .inl (cI, 40, .inl fBs)), ((ma 15), .inl (cI, 40, .inl fEs)), ((ma 17), .inl (cI, 24, .inl fTb)), ((ma 18), .inl (cI, 80, .inl fSe)), ((ma 19), .inl (cI, 80, .inl fSs))]) (w1 := [(h0, .inr (11, MO ma sv_thrown sv_length sv_nodes sv_many sv_directories sv_runsFrom sv_runs sv_read sv_wrong sv_isNamed sv_goes sv_goesSize sv_goesAt sv_targetParts sv_isRoot)), ((ma 16), .inl (cJ, 46080, .inr (.inl G_56)))]) hP hD [7, 8] [0, 1, 2, 3, 4, 5, 6] rfl rfl (by decide +kernel) (by decide +kernel) hk1 hFc hP1 hD1
              clear hPc hDc hFc hP1 hD1 hk1 hz1 hkc hks
              generalize H1 = H at hP hS ⊢
              have hP : va_P D CL [((ma 1), .inl (cI, 40, .inl fK)), ((ma 9), .inl (cI, 40, .inl fNS)), ((ma 13), .inl (cI, 40, .inl fBs)), ((ma 15), .inl (cI, 40, .inl fEs)), ((ma 17), .inl (cI, 24, .inl fTb)), ((ma 18), .inl (cI, 80, .inl fSe)), ((ma 19), .inl (cI, 80, .inl fSs)), (h0, .inr (11, MO ma sv_thrown sv_length sv_nodes sv_many sv_directories sv_runsFrom sv_runs sv_read sv_wrong sv_isNamed sv_goes sv_goesSize sv_goesAt sv_targetParts sv_isRoot)), ((ma 16), .inl (cJ, 46080, .inr (.inl G_56)))] H := hP
              have hD : va_D A [((ma 1), .inl (cI, 40, .inl fK)), ((ma 9), .inl (cI, 40, .inl fNS)), ((ma 13), .inl (cI, 40, .inl fBs)), ((ma 15), .inl (cI, 40, .inl fEs)), ((ma 17), .inl (cI, 24, .inl fTb)), ((ma 18), .inl (cI, 80, .inl fSe)), ((ma 19), .inl (cI, 80, .inl fSs)), (h0, .inr (11, MO ma sv_thrown sv_length sv_nodes sv_many sv_directories sv_runsFrom sv_runs sv_read sv_wrong sv_isNamed sv_goes sv_goesSize sv_goesAt sv_targetParts sv_isRoot)), ((ma 16), .inl (cJ, 46080, .inr (.inl G_56)))] := hD
              try dsimp only at hp_r55
              have hw_57 := hp_r55
              try rw [L_67] at hw_57
              try rw [L_34817] at hw_57
              refine lv_aload_n hx hb d_DiscMakerModel_describe_44 rfl (lv_at hl 2 rfl) ?_
              refine lv_iload_n hx hb d_DiscMakerModel_describe_45 rfl (lv_at hl 0 rfl) ?_
              refine lv_iconst (v := 2) hx hb d_DiscMakerModel_describe_46 (by decide) ?_
              refine lv_iadd hx hb d_DiscMakerModel_describe_47 ?_
              refine W.eq (g2 := F0 m 48 ls [.int 34818, .ref h0]) (by rw [show ((34816 : Int32) + 2) = 34818 from by decide]) ?_
              have L_34818 : (34818 : Int32).toInt = 34818 := by decide
              refine lv_bipush (v := 68) hx hb d_DiscMakerModel_describe_48 (by decide) ?_
              have hPc := hP.sub (ws' := [(h0, .inr (11, MO ma sv_thrown sv_length sv_nodes sv_many sv_directories sv_runsFrom sv_runs sv_read sv_wrong sv_isNamed sv_goes sv_goesSize sv_goesAt sv_targetParts sv_isRoot)), ((ma 16), .inl (cJ, 46080, .inr (.inl G_56)))]) [7, 8] rfl
              have hDc := hD.sub (ws' := [(h0, .inr (11, MO ma sv_thrown sv_length sv_nodes sv_many sv_directories sv_runsFrom sv_runs sv_read sv_wrong sv_isNamed sv_goes sv_goesSize sv_goesAt sv_targetParts sv_isRoot)), ((ma 16), .inl (cJ, 46080, .inr (.inl G_56)))]) [7, 8] (by decide +kernel) rfl
              have hFc := va_free (wc := [(h0, .inr (11, MO ma sv_thrown sv_length sv_nodes sv_many sv_directories sv_runsFrom sv_runs sv_read sv_wrong sv_isNamed sv_goes sv_goesSize sv_goesAt sv_targetParts sv_isRoot)), ((ma 16), .inl (cJ, 46080, .inr (.inl G_56)))]) hD hS hA [7, 8] rfl
              have hkc : 0 ≤ 0 := by decide
              have hks : 0 ≤ 0 := by decide
              refine va_callv (va_runV (C := "DiscMakerModel") (As := [.int 34818, .int 68]) (rest := []) ⟨hx, hb, hml, hown, hts⟩ (m_setF l D cB cI cJ cZ cN cF H.size h0 ma sv_thrown sv_length sv_nodes sv_many sv_directories sv_runsFrom sv_runs sv_read sv_wrong sv_isNamed sv_goes sv_goesSize sv_goesAt sv_targetParts sv_isRoot G_56 34818 68 (by (try dsimp only); first | assumption | omega | trivial) (by (try dsimp only); first | assumption | omega | trivial)) (cwV 2 hts (lg_goodV k1727 k1729 k79 k125 kc_DiscMakerModel_set) rfl rfl rfl (by decide +kernel) ⟨Nat.le_of_ble_eq_true rfl, Nat.le_of_ble_eq_true rfl⟩) ⟨fun a U g mk q => by obtain ⟨q0, q1, qP, qK, qN, qD⟩ := q; exact ⟨q0, q1, qP, va_K.moved (u := U) (U := U.calling g mk a) (Vm.Alike.refl U.vm) qK, qN.calling, qD⟩, va_recv hK hP (ci := 11) (q0 := 7) rfl rfl, fun U hU hW => ⟨rfl, by rw [hU], by rw [hU]; exact hPc, va_K.moved hW.alike hK, NN.warm hW hN, hDc.weaken (fun _ _ _ _ => trivial)⟩⟩ rfl rfl hl.1 rfl (lv_room (Nat.le_of_ble_eq_true rfl)) d_DiscMakerModel_describe_50 ⟨hkc, hks⟩) hS (fun q _ h => hFc q h) hFc (fun u t H1 locs ht hvm hp_r58 hB hz1 hk1 hS => ?_)
              obtain ⟨G_59, rfl⟩ : ∃ z, z = u := ⟨_, rfl⟩
              obtain ⟨hP1, hD1⟩ := hB
              rw [ht] at hP1
              obtain ⟨hP, hD⟩ := va_join (wr := [((ma 1), .inl (cI, 40, .inl fK)), ((ma 9), .inl (cI, 40, .inl fNS)), ((ma 13), .inl (cI, 40, .inl fBs)), ((ma 15), .inl (cI, 40, .inl fEs)), ((ma 17), .inl (cI, 24, .inl fTb)), ((ma 18), .inl (cI, 80, .inl fSe)), ((ma 19), .inl (cI, 80, .inl fSs))]) (w1 := [(h0, .inr (11, MO ma sv_thrown sv_length sv_nodes sv_many sv_directories sv_runsFrom sv_runs sv_read sv_wrong sv_isNamed sv_goes sv_goesSize sv_goesAt sv_targetParts sv_isRoot)), ((ma 16), .inl (cJ, 46080, .inr (.inl G_59)))]) hP hD [7, 8] [0, 1, 2, 3, 4, 5, 6] rfl rfl (by decide +kernel) (by decide +kernel) hk1 hFc hP1 hD1
              clear hPc hDc hFc hP1 hD1 hk1 hz1 hkc hks
              generalize H1 = H at hP hS ⊢
              have hP : va_P D CL [((ma 1), .inl (cI, 40, .inl fK)), ((ma 9), .inl (cI, 40, .inl fNS)), ((ma 13), .inl (cI, 40, .inl fBs)), ((ma 15), .inl (cI, 40, .inl fEs)), ((ma 17), .inl (cI, 24, .inl fTb)), ((ma 18), .inl (cI, 80, .inl fSe)), ((ma 19), .inl (cI, 80, .inl fSs)), (h0, .inr (11, MO ma sv_thrown sv_length sv_nodes sv_many sv_directories sv_runsFrom sv_runs sv_read sv_wrong sv_isNamed sv_goes sv_goesSize sv_goesAt sv_targetParts sv_isRoot)), ((ma 16), .inl (cJ, 46080, .inr (.inl G_59)))] H := hP
              have hD : va_D A [((ma 1), .inl (cI, 40, .inl fK)), ((ma 9), .inl (cI, 40, .inl fNS)), ((ma 13), .inl (cI, 40, .inl fBs)), ((ma 15), .inl (cI, 40, .inl fEs)), ((ma 17), .inl (cI, 24, .inl fTb)), ((ma 18), .inl (cI, 80, .inl fSe)), ((ma 19), .inl (cI, 80, .inl fSs)), (h0, .inr (11, MO ma sv_thrown sv_length sv_nodes sv_many sv_directories sv_runsFrom sv_runs sv_read sv_wrong sv_isNamed sv_goes sv_goesSize sv_goesAt sv_targetParts sv_isRoot)), ((ma 16), .inl (cJ, 46080, .inr (.inl G_59)))] := hD
              try dsimp only at hp_r58
              have hw_60 := hp_r58
              try rw [L_68] at hw_60
              try rw [L_34818] at hw_60
              refine lv_aload_n hx hb d_DiscMakerModel_describe_53 rfl (lv_at hl 2 rfl) ?_
              refine lv_iload_n hx hb d_DiscMakerModel_describe_54 rfl (lv_at hl 0 rfl) ?_
              refine lv_iconst (v := 3) hx hb d_DiscMakerModel_describe_55 (by decide) ?_
              refine lv_iadd hx hb d_DiscMakerModel_describe_56 ?_
              refine W.eq (g2 := F0 m 57 ls [.int 34819, .ref h0]) (by rw [show ((34816 : Int32) + 3) = 34819 from by decide]) ?_
              have L_34819 : (34819 : Int32).toInt = 34819 := by decide
              refine lv_bipush (v := 48) hx hb d_DiscMakerModel_describe_57 (by decide) ?_
              have hPc := hP.sub (ws' := [(h0, .inr (11, MO ma sv_thrown sv_length sv_nodes sv_many sv_directories sv_runsFrom sv_runs sv_read sv_wrong sv_isNamed sv_goes sv_goesSize sv_goesAt sv_targetParts sv_isRoot)), ((ma 16), .inl (cJ, 46080, .inr (.inl G_59)))]) [7, 8] rfl
              have hDc := hD.sub (ws' := [(h0, .inr (11, MO ma sv_thrown sv_length sv_nodes sv_many sv_directories sv_runsFrom sv_runs sv_read sv_wrong sv_isNamed sv_goes sv_goesSize sv_goesAt sv_targetParts sv_isRoot)), ((ma 16), .inl (cJ, 46080, .inr (.inl G_59)))]) [7, 8] (by decide +kernel) rfl
              have hFc := va_free (wc := [(h0, .inr (11, MO ma sv_thrown sv_length sv_nodes sv_many sv_directories sv_runsFrom sv_runs sv_read sv_wrong sv_isNamed sv_goes sv_goesSize sv_goesAt sv_targetParts sv_isRoot)), ((ma 16), .inl (cJ, 46080, .inr (.inl G_59)))]) hD hS hA [7, 8] rfl
              have hkc : 0 ≤ 0 := by decide
              have hks : 0 ≤ 0 := by decide
              refine va_callv (va_runV (C := "DiscMakerModel") (As := [.int 34819, .int 48]) (rest := []) ⟨hx, hb, hml, hown, hts⟩ (m_setF l D cB cI cJ cZ cN cF H.size h0 ma sv_thrown sv_length sv_nodes sv_many sv_directories sv_runsFrom sv_runs sv_read sv_wrong sv_isNamed sv_goes sv_goesSize sv_goesAt sv_targetParts sv_isRoot G_59 34819 48 (by (try dsimp only); first | assumption | omega | trivial) (by (try dsimp only); first | assumption | omega | trivial)) (cwV 2 hts (lg_goodV k1727 k1729 k79 k125 kc_DiscMakerModel_set) rfl rfl rfl (by decide +kernel) ⟨Nat.le_of_ble_eq_true rfl, Nat.le_of_ble_eq_true rfl⟩) ⟨fun a U g mk q => by obtain ⟨q0, q1, qP, qK, qN, qD⟩ := q; exact ⟨q0, q1, qP, va_K.moved (u := U) (U := U.calling g mk a) (Vm.Alike.refl U.vm) qK, qN.calling, qD⟩, va_recv hK hP (ci := 11) (q0 := 7) rfl rfl, fun U hU hW => ⟨rfl, by rw [hU], by rw [hU]; exact hPc, va_K.moved hW.alike hK, NN.warm hW hN, hDc.weaken (fun _ _ _ _ => trivial)⟩⟩ rfl rfl hl.1 rfl (lv_room (Nat.le_of_ble_eq_true rfl)) d_DiscMakerModel_describe_59 ⟨hkc, hks⟩) hS (fun q _ h => hFc q h) hFc (fun u t H1 locs ht hvm hp_r61 hB hz1 hk1 hS => ?_)
              obtain ⟨G_62, rfl⟩ : ∃ z, z = u := ⟨_, rfl⟩
              obtain ⟨hP1, hD1⟩ := hB
              rw [ht] at hP1
              obtain ⟨hP, hD⟩ := va_join (wr := [((ma 1), .inl (cI, 40, .inl fK)), ((ma 9), .inl (cI, 40, .inl fNS)), ((ma 13), .inl (cI, 40, .inl fBs)), ((ma 15), .inl (cI, 40, .inl fEs)), ((ma 17), .inl (cI, 24, .inl fTb)), ((ma 18), .inl (cI, 80, .inl fSe)), ((ma 19), .inl (cI, 80, .inl fSs))]) (w1 := [(h0, .inr (11, MO ma sv_thrown sv_length sv_nodes sv_many sv_directories sv_runsFrom sv_runs sv_read sv_wrong sv_isNamed sv_goes sv_goesSize sv_goesAt sv_targetParts sv_isRoot)), ((ma 16), .inl (cJ, 46080, .inr (.inl G_62)))]) hP hD [7, 8] [0, 1, 2, 3, 4, 5, 6] rfl rfl (by decide +kernel) (by decide +kernel) hk1 hFc hP1 hD1
              clear hPc hDc hFc hP1 hD1 hk1 hz1 hkc hks
              generalize H1 = H at hP hS ⊢
              have hP : va_P D CL [((ma 1), .inl (cI, 40, .inl fK)), ((ma 9), .inl (cI, 40, .inl fNS)), ((ma 13), .inl (cI, 40, .inl fBs)), ((ma 15), .inl (cI, 40, .inl fEs)), ((ma 17), .inl (cI, 24, .inl fTb)), ((ma 18), .inl (cI, 80, .inl fSe)), ((ma 19), .inl (cI, 80, .inl fSs)), (h0, .inr (11, MO ma sv_thrown sv_length sv_nodes sv_many sv_directories sv_runsFrom sv_runs sv_read sv_wrong sv_isNamed sv_goes sv_goesSize sv_goesAt sv_targetParts sv_isRoot)), ((ma 16), .inl (cJ, 46080, .inr (.inl G_62)))] H := hP
              have hD : va_D A [((ma 1), .inl (cI, 40, .inl fK)), ((ma 9), .inl (cI, 40, .inl fNS)), ((ma 13), .inl (cI, 40, .inl fBs)), ((ma 15), .inl (cI, 40, .inl fEs)), ((ma 17), .inl (cI, 24, .inl fTb)), ((ma 18), .inl (cI, 80, .inl fSe)), ((ma 19), .inl (cI, 80, .inl fSs)), (h0, .inr (11, MO ma sv_thrown sv_length sv_nodes sv_many sv_directories sv_runsFrom sv_runs sv_read sv_wrong sv_isNamed sv_goes sv_goesSize sv_goesAt sv_targetParts sv_isRoot)), ((ma 16), .inl (cJ, 46080, .inr (.inl G_62)))] := hD
              try dsimp only at hp_r61
              have hw_63 := hp_r61
              try rw [L_48] at hw_63
              try rw [L_34819] at hw_63
              refine lv_aload_n hx hb d_DiscMakerModel_describe_62 rfl (lv_at hl 2 rfl) ?_
              refine lv_iload_n hx hb d_DiscMakerModel_describe_63 rfl (lv_at hl 0 rfl) ?_
              refine lv_iconst (v := 4) hx hb d_DiscMakerModel_describe_64 (by decide) ?_
              refine lv_iadd hx hb d_DiscMakerModel_describe_65 ?_
              refine W.eq (g2 := F0 m 66 ls [.int 34820, .ref h0]) (by rw [show ((34816 : Int32) + 4) = 34820 from by decide]) ?_
              have L_34820 : (34820 : Int32).toInt = 34820 := by decide
              refine lv_bipush (v := 48) hx hb d_DiscMakerModel_describe_66 (by decide) ?_
              have hPc := hP.sub (ws' := [(h0, .inr (11, MO ma sv_thrown sv_length sv_nodes sv_many sv_directories sv_runsFrom sv_runs sv_read sv_wrong sv_isNamed sv_goes sv_goesSize sv_goesAt sv_targetParts sv_isRoot)), ((ma 16), .inl (cJ, 46080, .inr (.inl G_62)))]) [7, 8] rfl
              have hDc := hD.sub (ws' := [(h0, .inr (11, MO ma sv_thrown sv_length sv_nodes sv_many sv_directories sv_runsFrom sv_runs sv_read sv_wrong sv_isNamed sv_goes sv_goesSize sv_goesAt sv_targetParts sv_isRoot)), ((ma 16), .inl (cJ, 46080, .inr (.inl G_62)))]) [7, 8] (by decide +kernel) rfl
              have hFc := va_free (wc := [(h0, .inr (11, MO ma sv_thrown sv_length sv_nodes sv_many sv_directories sv_runsFrom sv_runs sv_read sv_wrong sv_isNamed sv_goes sv_goesSize sv_goesAt sv_targetParts sv_isRoot)), ((ma 16), .inl (cJ, 46080, .inr (.inl G_62)))]) hD hS hA [7, 8] rfl
              have hkc : 0 ≤ 0 := by decide
              have hks : 0 ≤ 0 := by decide
              refine va_callv (va_runV (C := "DiscMakerModel") (As := [.int 34820, .int 48]) (rest := []) ⟨hx, hb, hml, hown, hts⟩ (m_setF l D cB cI cJ cZ cN cF H.size h0 ma sv_thrown sv_length sv_nodes sv_many sv_directories sv_runsFrom sv_runs sv_read sv_wrong sv_isNamed sv_goes sv_goesSize sv_goesAt sv_targetParts sv_isRoot G_62 34820 48 (by (try dsimp only); first | assumption | omega | trivial) (by (try dsimp only); first | assumption | omega | trivial)) (cwV 2 hts (lg_goodV k1727 k1729 k79 k125 kc_DiscMakerModel_set) rfl rfl rfl (by decide +kernel) ⟨Nat.le_of_ble_eq_true rfl, Nat.le_of_ble_eq_true rfl⟩) ⟨fun a U g mk q => by obtain ⟨q0, q1, qP, qK, qN, qD⟩ := q; exact ⟨q0, q1, qP, va_K.moved (u := U) (U := U.calling g mk a) (Vm.Alike.refl U.vm) qK, qN.calling, qD⟩, va_recv hK hP (ci := 11) (q0 := 7) rfl rfl, fun U hU hW => ⟨rfl, by rw [hU], by rw [hU]; exact hPc, va_K.moved hW.alike hK, NN.warm hW hN, hDc.weaken (fun _ _ _ _ => trivial)⟩⟩ rfl rfl hl.1 rfl (lv_room (Nat.le_of_ble_eq_true rfl)) d_DiscMakerModel_describe_68 ⟨hkc, hks⟩) hS (fun q _ h => hFc q h) hFc (fun u t H1 locs ht hvm hp_r64 hB hz1 hk1 hS => ?_)
              obtain ⟨G_65, rfl⟩ : ∃ z, z = u := ⟨_, rfl⟩
              obtain ⟨hP1, hD1⟩ := hB
              rw [ht] at hP1
              obtain ⟨hP, hD⟩ := va_join (wr := [((ma 1), .inl (cI, 40, .inl fK)), ((ma 9), .inl (cI, 40, .inl fNS)), ((ma 13), .inl (cI, 40, .inl fBs)), ((ma 15), .inl (cI, 40, .inl fEs)), ((ma 17), .inl (cI, 24, .inl fTb)), ((ma 18), .inl (cI, 80, .inl fSe)), ((ma 19), .inl (cI, 80, .inl fSs))]) (w1 := [(h0, .inr (11, MO ma sv_thrown sv_length sv_nodes sv_many sv_directories sv_runsFrom sv_runs sv_read sv_wrong sv_isNamed sv_goes sv_goesSize sv_goesAt sv_targetParts sv_isRoot)), ((ma 16), .inl (cJ, 46080, .inr (.inl G_65)))]) hP hD [7, 8] [0, 1, 2, 3, 4, 5, 6] rfl rfl (by decide +kernel) (by decide +kernel) hk1 hFc hP1 hD1
              clear hPc hDc hFc hP1 hD1 hk1 hz1 hkc hks
              generalize H1 = H at hP hS ⊢
              have hP : va_P D CL [((ma 1), .inl (cI, 40, .inl fK)), ((ma 9), .inl (cI, 40, .inl fNS)), ((ma 13), .inl (cI, 40, .inl fBs)), ((ma 15), .inl (cI, 40, .inl fEs)), ((ma 17), .inl (cI, 24, .inl fTb)), ((ma 18), .inl (cI, 80, .inl fSe)), ((ma 19), .inl (cI, 80, .inl fSs)), (h0, .inr (11, MO ma sv_thrown sv_length sv_nodes sv_many sv_directories sv_runsFrom sv_runs sv_read sv_wrong sv_isNamed sv_goes sv_goesSize sv_goesAt sv_targetParts sv_isRoot)), ((ma 16), .inl (cJ, 46080, .inr (.inl G_65)))] H := hP
              have hD : va_D A [((ma 1), .inl (cI, 40, .inl fK)), ((ma 9), .inl (cI, 40, .inl fNS)), ((ma 13), .inl (cI, 40, .inl fBs)), ((ma 15), .inl (cI, 40, .inl fEs)), ((ma 17), .inl (cI, 24, .inl fTb)), ((ma 18), .inl (cI, 80, .inl fSe)), ((ma 19), .inl (cI, 80, .inl fSs)), (h0, .inr (11, MO ma sv_thrown sv_length sv_nodes sv_many sv_directories sv_runsFrom sv_runs sv_read sv_wrong sv_isNamed sv_goes sv_goesSize sv_goesAt sv_targetParts sv_isRoot)), ((ma 16), .inl (cJ, 46080, .inr (.inl G_65)))] := hD
              try dsimp only at hp_r64
              have hw_66 := hp_r64
              try rw [L_48] at hw_66
              try rw [L_34820] at hw_66
              refine lv_aload_n hx hb d_DiscMakerModel_describe_71 rfl (lv_at hl 2 rfl) ?_
              refine lv_iload_n hx hb d_DiscMakerModel_describe_72 rfl (lv_at hl 0 rfl) ?_
              refine lv_iconst (v := 5) hx hb d_DiscMakerModel_describe_73 (by decide) ?_
              refine lv_iadd hx hb d_DiscMakerModel_describe_74 ?_
              refine W.eq (g2 := F0 m 75 ls [.int 34821, .ref h0]) (by rw [show ((34816 : Int32) + 5) = 34821 from by decide]) ?_
              have L_34821 : (34821 : Int32).toInt = 34821 := by decide
              refine lv_bipush (v := 49) hx hb d_DiscMakerModel_describe_75 (by decide) ?_
              have hPc := hP.sub (ws' := [(h0, .inr (11, MO ma sv_thrown sv_length sv_nodes sv_many sv_directories sv_runsFrom sv_runs sv_read sv_wrong sv_isNamed sv_goes sv_goesSize sv_goesAt sv_targetParts sv_isRoot)), ((ma 16), .inl (cJ, 46080, .inr (.inl G_65)))]) [7, 8] rfl
              have hDc := hD.sub (ws' := [(h0, .inr (11, MO ma sv_thrown sv_length sv_nodes sv_many sv_directories sv_runsFrom sv_runs sv_read sv_wrong sv_isNamed sv_goes sv_goesSize sv_goesAt sv_targetParts sv_isRoot)), ((ma 16), .inl (cJ, 46080, .inr (.inl G_65)))]) [7, 8] (by decide +kernel) rfl
              have hFc := va_free (wc := [(h0, .inr (11, MO ma sv_thrown sv_length sv_nodes sv_many sv_directories sv_runsFrom sv_runs sv_read sv_wrong sv_isNamed sv_goes sv_goesSize sv_goesAt sv_targetParts sv_isRoot)), ((ma 16), .inl (cJ, 46080, .inr (.inl G_65)))]) hD hS hA [7, 8] rfl
              have hkc : 0 ≤ 0 := by decide
              have hks : 0 ≤ 0 := by decide
              refine va_callv (va_runV (C := "DiscMakerModel") (As := [.int 34821, .int 49]) (rest := []) ⟨hx, hb, hml, hown, hts⟩ (m_setF l D cB cI cJ cZ cN cF H.size h0 ma sv_thrown sv_length sv_nodes sv_many sv_directories sv_runsFrom sv_runs sv_read sv_wrong sv_isNamed sv_goes sv_goesSize sv_goesAt sv_targetParts sv_isRoot G_65 34821 49 (by (try dsimp only); first | assumption | omega | trivial) (by (try dsimp only); first | assumption | omega | trivial)) (cwV 2 hts (lg_goodV k1727 k1729 k79 k125 kc_DiscMakerModel_set) rfl rfl rfl (by decide +kernel) ⟨Nat.le_of_ble_eq_true rfl, Nat.le_of_ble_eq_true rfl⟩) ⟨fun a U g mk q => by obtain ⟨q0, q1, qP, qK, qN, qD⟩ := q; exact ⟨q0, q1, qP, va_K.moved (u := U) (U := U.calling g mk a) (Vm.Alike.refl U.vm) qK, qN.calling, qD⟩, va_recv hK hP (ci := 11) (q0 := 7) rfl rfl, fun U hU hW => ⟨rfl, by rw [hU], by rw [hU]; exact hPc, va_K.moved hW.alike hK, NN.warm hW hN, hDc.weaken (fun _ _ _ _ => trivial)⟩⟩ rfl rfl hl.1 rfl (lv_room (Nat.le_of_ble_eq_true rfl)) d_DiscMakerModel_describe_77 ⟨hkc, hks⟩) hS (fun q _ h => hFc q h) hFc (fun u t H1 locs ht hvm hp_r67 hB hz1 hk1 hS => ?_)
              obtain ⟨G_68, rfl⟩ : ∃ z, z = u := ⟨_, rfl⟩
              obtain ⟨hP1, hD1⟩ := hB
              rw [ht] at hP1
              obtain ⟨hP, hD⟩ := va_join (wr := [((ma 1), .inl (cI, 40, .inl fK)), ((ma 9), .inl (cI, 40, .inl fNS)), ((ma 13), .inl (cI, 40, .inl fBs)), ((ma 15), .inl (cI, 40, .inl fEs)), ((ma 17), .inl (cI, 24, .inl fTb)), ((ma 18), .inl (cI, 80, .inl fSe)), ((ma 19), .inl (cI, 80, .inl fSs))]) (w1 := [(h0, .inr (11, MO ma sv_thrown sv_length sv_nodes sv_many sv_directories sv_runsFrom sv_runs sv_read sv_wrong sv_isNamed sv_goes sv_goesSize sv_goesAt sv_targetParts sv_isRoot)), ((ma 16), .inl (cJ, 46080, .inr (.inl G_68)))]) hP hD [7, 8] [0, 1, 2, 3, 4, 5, 6] rfl rfl (by decide +kernel) (by decide +kernel) hk1 hFc hP1 hD1
              clear hPc hDc hFc hP1 hD1 hk1 hz1 hkc hks
              generalize H1 = H at hP hS ⊢
              have hP : va_P D CL [((ma 1), .inl (cI, 40, .inl fK)), ((ma 9), .inl (cI, 40, .inl fNS)), ((ma 13), .inl (cI, 40, .inl fBs)), ((ma 15), .inl (cI, 40, .inl fEs)), ((ma 17), .inl (cI, 24, .inl fTb)), ((ma 18), .inl (cI, 80, .inl fSe)), ((ma 19), .inl (cI, 80, .inl fSs)), (h0, .inr (11, MO ma sv_thrown sv_length sv_nodes sv_many sv_directories sv_runsFrom sv_runs sv_read sv_wrong sv_isNamed sv_goes sv_goesSize sv_goesAt sv_targetParts sv_isRoot)), ((ma 16), .inl (cJ, 46080, .inr (.inl G_68)))] H := hP
              have hD : va_D A [((ma 1), .inl (cI, 40, .inl fK)), ((ma 9), .inl (cI, 40, .inl fNS)), ((ma 13), .inl (cI, 40, .inl fBs)), ((ma 15), .inl (cI, 40, .inl fEs)), ((ma 17), .inl (cI, 24, .inl fTb)), ((ma 18), .inl (cI, 80, .inl fSe)), ((ma 19), .inl (cI, 80, .inl fSs)), (h0, .inr (11, MO ma sv_thrown sv_length sv_nodes sv_many sv_directories sv_runsFrom sv_runs sv_read sv_wrong sv_isNamed sv_goes sv_goesSize sv_goesAt sv_targetParts sv_isRoot)), ((ma 16), .inl (cJ, 46080, .inr (.inl G_68)))] := hD
              try dsimp only at hp_r67
              have hw_69 := hp_r67
              try rw [L_49] at hw_69
              try rw [L_34821] at hw_69
              refine lv_aload_n hx hb d_DiscMakerModel_describe_80 rfl (lv_at hl 2 rfl) ?_
              refine lv_iload_n hx hb d_DiscMakerModel_describe_81 rfl (lv_at hl 0 rfl) ?_
              refine lv_bipush (v := 6) hx hb d_DiscMakerModel_describe_82 (by decide) ?_
              refine lv_iadd hx hb d_DiscMakerModel_describe_84 ?_
              refine W.eq (g2 := F0 m 85 ls [.int 34822, .ref h0]) (by rw [show ((34816 : Int32) + 6) = 34822 from by decide]) ?_
              have L_34822 : (34822 : Int32).toInt = 34822 := by decide
              refine lv_iconst (v := 1) hx hb d_DiscMakerModel_describe_85 (by decide) ?_
              have hPc := hP.sub (ws' := [(h0, .inr (11, MO ma sv_thrown sv_length sv_nodes sv_many sv_directories sv_runsFrom sv_runs sv_read sv_wrong sv_isNamed sv_goes sv_goesSize sv_goesAt sv_targetParts sv_isRoot)), ((ma 16), .inl (cJ, 46080, .inr (.inl G_68)))]) [7, 8] rfl
              have hDc := hD.sub (ws' := [(h0, .inr (11, MO ma sv_thrown sv_length sv_nodes sv_many sv_directories sv_runsFrom sv_runs sv_read sv_wrong sv_isNamed sv_goes sv_goesSize sv_goesAt sv_targetParts sv_isRoot)), ((ma 16), .inl (cJ, 46080, .inr (.inl G_68)))]) [7, 8] (by decide +kernel) rfl
              have hFc := va_free (wc := [(h0, .inr (11, MO ma sv_thrown sv_length sv_nodes sv_many sv_directories sv_runsFrom sv_runs sv_read sv_wrong sv_isNamed sv_goes sv_goesSize sv_goesAt sv_targetParts sv_isRoot)), ((ma 16), .inl (cJ, 46080, .inr (.inl G_68)))]) hD hS hA [7, 8] rfl
              have hkc : 0 ≤ 0 := by decide
              have hks : 0 ≤ 0 := by decide
              refine va_callv (va_runV (C := "DiscMakerModel") (As := [.int 34822, .int 1]) (rest := []) ⟨hx, hb, hml, hown, hts⟩ (m_setF l D cB cI cJ cZ cN cF H.size h0 ma sv_thrown sv_length sv_nodes sv_many sv_directories sv_runsFrom sv_runs sv_read sv_wrong sv_isNamed sv_goes sv_goesSize sv_goesAt sv_targetParts sv_isRoot G_68 34822 1 (by (try dsimp only); first | assumption | omega | trivial) (by (try dsimp only); first | assumption | omega | trivial)) (cwV 2 hts (lg_goodV k1727 k1729 k79 k125 kc_DiscMakerModel_set) rfl rfl rfl (by decide +kernel) ⟨Nat.le_of_ble_eq_true rfl, Nat.le_of_ble_eq_true rfl⟩) ⟨fun a U g mk q => by obtain ⟨q0, q1, qP, qK, qN, qD⟩ := q; exact ⟨q0, q1, qP, va_K.moved (u := U) (U := U.calling g mk a) (Vm.Alike.refl U.vm) qK, qN.calling, qD⟩, va_recv hK hP (ci := 11) (q0 := 7) rfl rfl, fun U hU hW => ⟨rfl, by rw [hU], by rw [hU]; exact hPc, va_K.moved hW.alike hK, NN.warm hW hN, hDc.weaken (fun _ _ _ _ => trivial)⟩⟩ rfl rfl hl.1 rfl (lv_room (Nat.le_of_ble_eq_true rfl)) d_DiscMakerModel_describe_86 ⟨hkc, hks⟩) hS (fun q _ h => hFc q h) hFc (fun u t H1 locs ht hvm hp_r70 hB hz1 hk1 hS => ?_)
              obtain ⟨G_71, rfl⟩ : ∃ z, z = u := ⟨_, rfl⟩
              obtain ⟨hP1, hD1⟩ := hB
              rw [ht] at hP1
              obtain ⟨hP, hD⟩ := va_join (wr := [((ma 1), .inl (cI, 40, .inl fK)), ((ma 9), .inl (cI, 40, .inl fNS)), ((ma 13), .inl (cI, 40, .inl fBs)), ((ma 15), .inl (cI, 40, .inl fEs)), ((ma 17), .inl (cI, 24, .inl fTb)), ((ma 18), .inl (cI, 80, .inl fSe)), ((ma 19), .inl (cI, 80, .inl fSs))]) (w1 := [(h0, .inr (11, MO ma sv_thrown sv_length sv_nodes sv_many sv_directories sv_runsFrom sv_runs sv_read sv_wrong sv_isNamed sv_goes sv_goesSize sv_goesAt sv_targetParts sv_isRoot)), ((ma 16), .inl (cJ, 46080, .inr (.inl G_71)))]) hP hD [7, 8] [0, 1, 2, 3, 4, 5, 6] rfl rfl (by decide +kernel) (by decide +kernel) hk1 hFc hP1 hD1
              clear hPc hDc hFc hP1 hD1 hk1 hz1 hkc hks
              generalize H1 = H at hP hS ⊢
              have hP : va_P D CL [((ma 1), .inl (cI, 40, .inl fK)), ((ma 9), .inl (cI, 40, .inl fNS)), ((ma 13), .inl (cI, 40, .inl fBs)), ((ma 15), .inl (cI, 40, .inl fEs)), ((ma 17), .inl (cI, 24, .inl fTb)), ((ma 18), .inl (cI, 80, .inl fSe)), ((ma 19), .inl (cI, 80, .inl fSs)), (h0, .inr (11, MO ma sv_thrown sv_length sv_nodes sv_many sv_directories sv_runsFrom sv_runs sv_read sv_wrong sv_isNamed sv_goes sv_goesSize sv_goesAt sv_targetParts sv_isRoot)), ((ma 16), .inl (cJ, 46080, .inr (.inl G_71)))] H := hP
              have hD : va_D A [((ma 1), .inl (cI, 40, .inl fK)), ((ma 9), .inl (cI, 40, .inl fNS)), ((ma 13), .inl (cI, 40, .inl fBs)), ((ma 15), .inl (cI, 40, .inl fEs)), ((ma 17), .inl (cI, 24, .inl fTb)), ((ma 18), .inl (cI, 80, .inl fSe)), ((ma 19), .inl (cI, 80, .inl fSs)), (h0, .inr (11, MO ma sv_thrown sv_length sv_nodes sv_many sv_directories sv_runsFrom sv_runs sv_read sv_wrong sv_isNamed sv_goes sv_goesSize sv_goesAt sv_targetParts sv_isRoot)), ((ma 16), .inl (cJ, 46080, .inr (.inl G_71)))] := hD
              try dsimp only at hp_r70
              have hw_72 := hp_r70
              try rw [L_1] at hw_72
              try rw [L_34822] at hw_72
              have hh1 : BL _ _ 34816 (dhL 2) := ((((((((BL_nil _ 34816).pt hw_54 (by show _ = 34816 + ((0 : Nat) : Int); omega) (show _ = (2 % 256 : Int) by omega)).pt hw_57 (by show _ = 34816 + ((1 : Nat) : Int); omega) (show _ = (67 : Int) by omega)).pt hw_60 (by show _ = 34816 + ((2 : Nat) : Int); omega) (show _ = (68 : Int) by omega)).pt hw_63 (by show _ = 34816 + ((3 : Nat) : Int); omega) (show _ = (48 : Int) by omega)).pt hw_66 (by show _ = 34816 + ((4 : Nat) : Int); omega) (show _ = (48 : Int) by omega)).pt hw_69 (by show _ = 34816 + ((5 : Nat) : Int); omega) (show _ = (49 : Int) by omega)).pt hw_72 (by show _ = 34816 + ((6 : Nat) : Int); omega) (show _ = (1 : Int) by omega)).cast rfl rfl
              refine lv_iload_n hx hb d_DiscMakerModel_describe_89 rfl (lv_at hl 1 rfl) ?_
              refine lv_iconst (v := 2) hx hb d_DiscMakerModel_describe_90 (by decide) ?_
              refine lv_icmp_ne (tgt := 95) hx hb d_DiscMakerModel_describe_91 (by decide) (fun _ => ?_) (fun h_9 => absurd h_9 (by decide))
              refine lv_bipush (v := 8) hx hb d_DiscMakerModel_describe_95 (by decide) ?_
              refine lv_istore_n hx hb d_DiscMakerModel_describe_97 rfl hl (by decide) rfl (fun ls hl => ?_)
              have hl : lv_has ls 4 [(3, .int 8), (2, .int 34816), (1, .int 1), (0, .ref h0)] := hl
              refine zz_labM (B := fun (lk : Nat) (K : Heap → List Loc → Array Slot → List Value → Prop) => ∀ (ka1 : Int32) (nA1 : Nat → Int64) (H : Heap) (locs : List Loc) (ls : Array Slot), lk = (72 - ka1.toInt).toNat → (8 ≤ ka1.toInt ∧ ka1.toInt ≤ 72) → (BL (bF G_71) (bF nA1) (34816 + 8) (tbL (fun _ => 32) (ka1.toInt - 8).toNat)) → va_P D CL [((ma 1), .inl (cI, 40, .inl fK)), ((ma 9), .inl (cI, 40, .inl fNS)), ((ma 13), .inl (cI, 40, .inl fBs)), ((ma 15), .inl (cI, 40, .inl fEs)), ((ma 17), .inl (cI, 24, .inl fTb)), ((ma 18), .inl (cI, 80, .inl fSe)), ((ma 19), .inl (cI, 80, .inl fSs)), (h0, .inr (11, MO ma sv_thrown sv_length sv_nodes sv_many sv_directories sv_runsFrom sv_runs sv_read sv_wrong sv_isNamed sv_goes sv_goesSize sv_goesAt sv_targetParts sv_isRoot)), ((ma 16), .inl (cJ, 46080, .inr (.inl nA1)))] H → va_D A [((ma 1), .inl (cI, 40, .inl fK)), ((ma 9), .inl (cI, 40, .inl fNS)), ((ma 13), .inl (cI, 40, .inl fBs)), ((ma 15), .inl (cI, 40, .inl fEs)), ((ma 17), .inl (cI, 24, .inl fTb)), ((ma 18), .inl (cI, 80, .inl fSe)), ((ma 19), .inl (cI, 80, .inl fSs)), (h0, .inr (11, MO ma sv_thrown sv_length sv_nodes sv_many sv_directories sv_runsFrom sv_runs sv_read sv_wrong sv_isNamed sv_goes sv_goesSize sv_goesAt sv_targetParts sv_isRoot)), ((ma 16), .inl (cJ, 46080, .inr (.inl nA1)))] → va_S A s.heap H locs → lv_has ls 4 [(0, .ref h0), (1, .int 1), (2, .int 34816), (3, .int ka1)] → K H locs ls []) 98 ?_ ?_
              · skip
                intro lk ih98 ka1 nA1 H locs ls hm98 rka1 gka1 hP hD hS hl
                refine lv_iload_n hx hb d_DiscMakerModel_describe_98 rfl (lv_at hl 3 rfl) ?_
                refine lv_bipush (v := 72) hx hb d_DiscMakerModel_describe_99 (by decide) ?_
                refine lv_icmp_ge (tgt := 119) hx hb d_DiscMakerModel_describe_101 (by decide) (fun h_9 => ?_) (fun h_9 => ?_)
                · skip
                  have g101_215 : 72 ≤ ka1.toInt := (i_le (by decide) rfl).mp h_9
                  have wa1 := gka1.tbc (m := 64) (by omega)
                  refine lv_aload_n hx hb d_DiscMakerModel_describe_119 rfl (lv_at hl 0 rfl) ?_
                  refine lv_iload_n hx hb d_DiscMakerModel_describe_120 rfl (lv_at hl 2 rfl) ?_
                  refine lv_bipush (v := 80) hx hb d_DiscMakerModel_describe_121 (by decide) ?_
                  refine lv_iadd hx hb d_DiscMakerModel_describe_123 ?_
                  refine W.eq (g2 := F0 m 124 ls [.int 34896, .ref h0]) (by rw [show ((34816 : Int32) + 80) = 34896 from by decide]) ?_
                  have L_34896 : (34896 : Int32).toInt = 34896 := by decide
                  refine lv_iconst (v := 4) hx hb d_DiscMakerModel_describe_124 (by decide) ?_
                  refine lv_aload_n hx hb d_DiscMakerModel_describe_125 rfl (lv_at hl 0 rfl) ?_
                  refine va_get (D := D) (ci := 11) (v := .int sv_many) (C := "DiscMakerModel") (T := F_DiscMakerModel) (N := 48) hx hb ht9 in_DiscMakerModel hown hK hP 7 rfl rfl 20 (by decide) (ht9 _ k1451) (fun _ h9 => h9) rfl d_DiscMakerModel_describe_126 ?_
                  have hPc := hP.sub (ws' := [(h0, .inr (11, MO ma sv_thrown sv_length sv_nodes sv_many sv_directories sv_runsFrom sv_runs sv_read sv_wrong sv_isNamed sv_goes sv_goesSize sv_goesAt sv_targetParts sv_isRoot)), ((ma 16), .inl (cJ, 46080, .inr (.inl nA1)))]) [7, 8] rfl
                  have hDc := hD.sub (ws' := [(h0, .inr (11, MO ma sv_thrown sv_length sv_nodes sv_many sv_directories sv_runsFrom sv_runs sv_read sv_wrong sv_isNamed sv_goes sv_goesSize sv_goesAt sv_targetParts sv_isRoot)), ((ma 16), .inl (cJ, 46080, .inr (.inl nA1)))]) [7, 8] (by decide +kernel) rfl
                  have hFc := va_free (wc := [(h0, .inr (11, MO ma sv_thrown sv_length sv_nodes sv_many sv_directories sv_runsFrom sv_runs sv_read sv_wrong sv_isNamed sv_goes sv_goesSize sv_goesAt sv_targetParts sv_isRoot)), ((ma 16), .inl (cJ, 46080, .inr (.inl nA1)))]) hD hS hA [7, 8] rfl
                  have hkc : 0 ≤ 0 := by decide
                  have hks : 0 ≤ 0 := by decide
                  refine va_callv (va_runV (C := "DiscMakerModel") (As := [.int 34896, .int 4, .int sv_many]) (rest := []) ⟨hx, hb, hml, hown, hts⟩ (m_both4F l D cB cI cJ cZ cN cF H.size h0 ma sv_thrown sv_length sv_nodes sv_many sv_directories sv_runsFrom sv_runs sv_read sv_wrong sv_isNamed sv_goes sv_goesSize sv_goesAt sv_targetParts sv_isRoot nA1 34896 sv_many (by (try dsimp only); first | assumption | omega | trivial) (by (try dsimp only); first | assumption | omega | trivial)) (cwV 3 hts (lg_goodV k1740 k1742 k81 k125 kc_DiscMakerModel_both) rfl rfl rfl (by decide +kernel) ⟨Nat.le_of_ble_eq_true rfl, Nat.le_of_ble_eq_true rfl⟩) ⟨fun a U g mk q => by obtain ⟨q0, q1, qP, qK, qN, qD⟩ := q; exact ⟨q0, q1, qP, va_K.moved (u := U) (U := U.calling g mk a) (Vm.Alike.refl U.vm) qK, qN.calling, qD⟩, va_recv hK hP (ci := 11) (q0 := 7) rfl rfl, fun U hU hW => ⟨rfl, by rw [hU], by rw [hU]; exact hPc, va_K.moved hW.alike hK, NN.warm hW hN, hDc.weaken (fun _ _ _ _ => trivial)⟩⟩ rfl rfl hl.1 rfl (lv_room (Nat.le_of_ble_eq_true rfl)) d_DiscMakerModel_describe_129 ⟨hkc, hks⟩) hS (fun q _ h => hFc q h) hFc (fun u t H1 locs ht hvm hp_r73 hB hz1 hk1 hS => ?_)
                  obtain ⟨G_74, rfl⟩ : ∃ z, z = u := ⟨_, rfl⟩
                  obtain ⟨hP1, hD1⟩ := hB
                  rw [ht] at hP1
                  obtain ⟨hP, hD⟩ := va_join (wr := [((ma 1), .inl (cI, 40, .inl fK)), ((ma 9), .inl (cI, 40, .inl fNS)), ((ma 13), .inl (cI, 40, .inl fBs)), ((ma 15), .inl (cI, 40, .inl fEs)), ((ma 17), .inl (cI, 24, .inl fTb)), ((ma 18), .inl (cI, 80, .inl fSe)), ((ma 19), .inl (cI, 80, .inl fSs))]) (w1 := [(h0, .inr (11, MO ma sv_thrown sv_length sv_nodes sv_many sv_directories sv_runsFrom sv_runs sv_read sv_wrong sv_isNamed sv_goes sv_goesSize sv_goesAt sv_targetParts sv_isRoot)), ((ma 16), .inl (cJ, 46080, .inr (.inl G_74)))]) hP hD [7, 8] [0, 1, 2, 3, 4, 5, 6] rfl rfl (by decide +kernel) (by decide +kernel) hk1 hFc hP1 hD1
                  clear hPc hDc hFc hP1 hD1 hk1 hz1 hkc hks
                  generalize H1 = H at hP hS ⊢
                  have hP : va_P D CL [((ma 1), .inl (cI, 40, .inl fK)), ((ma 9), .inl (cI, 40, .inl fNS)), ((ma 13), .inl (cI, 40, .inl fBs)), ((ma 15), .inl (cI, 40, .inl fEs)), ((ma 17), .inl (cI, 24, .inl fTb)), ((ma 18), .inl (cI, 80, .inl fSe)), ((ma 19), .inl (cI, 80, .inl fSs)), (h0, .inr (11, MO ma sv_thrown sv_length sv_nodes sv_many sv_directories sv_runsFrom sv_runs sv_read sv_wrong sv_isNamed sv_goes sv_goesSize sv_goesAt sv_targetParts sv_isRoot)), ((ma 16), .inl (cJ, 46080, .inr (.inl G_74)))] H := hP
                  have hD : va_D A [((ma 1), .inl (cI, 40, .inl fK)), ((ma 9), .inl (cI, 40, .inl fNS)), ((ma 13), .inl (cI, 40, .inl fBs)), ((ma 15), .inl (cI, 40, .inl fEs)), ((ma 17), .inl (cI, 24, .inl fTb)), ((ma 18), .inl (cI, 80, .inl fSe)), ((ma 19), .inl (cI, 80, .inl fSs)), (h0, .inr (11, MO ma sv_thrown sv_length sv_nodes sv_many sv_directories sv_runsFrom sv_runs sv_read sv_wrong sv_isNamed sv_goes sv_goesSize sv_goesAt sv_targetParts sv_isRoot)), ((ma 16), .inl (cJ, 46080, .inr (.inl G_74)))] := hD
                  try dsimp only at hp_r73
                  have hw_75 := hp_r73
                  try rw [L_34896] at hw_75
                  refine lv_iload_n hx hb d_DiscMakerModel_describe_132 rfl (lv_at hl 1 rfl) ?_
                  refine lv_iconst (v := 1) hx hb d_DiscMakerModel_describe_133 (by decide) ?_
                  refine lv_icmp_ne (tgt := 167) hx hb d_DiscMakerModel_describe_134 (by decide) (fun h_9 => absurd (by decide) h_9) (fun _ => ?_)
                  refine lv_aload_n hx hb d_DiscMakerModel_describe_137 rfl (lv_at hl 0 rfl) ?_
                  refine lv_iload_n hx hb d_DiscMakerModel_describe_138 rfl (lv_at hl 2 rfl) ?_
                  refine lv_bipush (v := 88) hx hb d_DiscMakerModel_describe_139 (by decide) ?_
                  refine lv_iadd hx hb d_DiscMakerModel_describe_141 ?_
                  refine W.eq (g2 := F0 m 142 ls [.int 34904, .ref h0]) (by rw [show ((34816 : Int32) + 88) = 34904 from by decide]) ?_
                  have L_34904 : (34904 : Int32).toInt = 34904 := by decide
                  refine lv_bipush (v := 37) hx hb d_DiscMakerModel_describe_142 (by decide) ?_
                  have hPc := hP.sub (ws' := [(h0, .inr (11, MO ma sv_thrown sv_length sv_nodes sv_many sv_directories sv_runsFrom sv_runs sv_read sv_wrong sv_isNamed sv_goes sv_goesSize sv_goesAt sv_targetParts sv_isRoot)), ((ma 16), .inl (cJ, 46080, .inr (.inl G_74)))]) [7, 8] rfl
                  have hDc := hD.sub (ws' := [(h0, .inr (11, MO ma sv_thrown sv_length sv_nodes sv_many sv_directories sv_runsFrom sv_runs sv_read sv_wrong sv_isNamed sv_goes sv_goesSize sv_goesAt sv_targetParts sv_isRoot)), ((ma 16), .inl (cJ, 46080, .inr (.inl G_74)))]) [7, 8] (by decide +kernel) rfl
                  have hFc := va_free (wc := [(h0, .inr (11, MO ma sv_thrown sv_length sv_nodes sv_many sv_directories sv_runsFrom sv_runs sv_read sv_wrong sv_isNamed sv_goes sv_goesSize sv_goesAt sv_targetParts sv_isRoot)), ((ma 16), .inl (cJ, 46080, .inr (.inl G_74)))]) hD hS hA [7, 8] rfl
                  have hkc : 0 ≤ 0 := by decide
                  have hks : 0 ≤ 0 := by decide
                  refine va_callv (va_runV (C := "DiscMakerModel") (As := [.int 34904, .int 37]) (rest := []) ⟨hx, hb, hml, hown, hts⟩ (m_setF l D cB cI cJ cZ cN cF H.size h0 ma sv_thrown sv_length sv_nodes sv_many sv_directories sv_runsFrom sv_runs sv_read sv_wrong sv_isNamed sv_goes sv_goesSize sv_goesAt sv_targetParts sv_isRoot G_74 34904 37 (by (try dsimp only); first | assumption | omega | trivial) (by (try dsimp only); first | assumption | omega | trivial)) (cwV 2 hts (lg_goodV k1727 k1729 k79 k125 kc_DiscMakerModel_set) rfl rfl rfl (by decide +kernel) ⟨Nat.le_of_ble_eq_true rfl, Nat.le_of_ble_eq_true rfl⟩) ⟨fun a U g mk q => by obtain ⟨q0, q1, qP, qK, qN, qD⟩ := q; exact ⟨q0, q1, qP, va_K.moved (u := U) (U := U.calling g mk a) (Vm.Alike.refl U.vm) qK, qN.calling, qD⟩, va_recv hK hP (ci := 11) (q0 := 7) rfl rfl, fun U hU hW => ⟨rfl, by rw [hU], by rw [hU]; exact hPc, va_K.moved hW.alike hK, NN.warm hW hN, hDc.weaken (fun _ _ _ _ => trivial)⟩⟩ rfl rfl hl.1 rfl (lv_room (Nat.le_of_ble_eq_true rfl)) d_DiscMakerModel_describe_144 ⟨hkc, hks⟩) hS (fun q _ h => hFc q h) hFc (fun u t H1 locs ht hvm hp_r76 hB hz1 hk1 hS => ?_)
                  obtain ⟨G_77, rfl⟩ : ∃ z, z = u := ⟨_, rfl⟩
                  obtain ⟨hP1, hD1⟩ := hB
                  rw [ht] at hP1
                  obtain ⟨hP, hD⟩ := va_join (wr := [((ma 1), .inl (cI, 40, .inl fK)), ((ma 9), .inl (cI, 40, .inl fNS)), ((ma 13), .inl (cI, 40, .inl fBs)), ((ma 15), .inl (cI, 40, .inl fEs)), ((ma 17), .inl (cI, 24, .inl fTb)), ((ma 18), .inl (cI, 80, .inl fSe)), ((ma 19), .inl (cI, 80, .inl fSs))]) (w1 := [(h0, .inr (11, MO ma sv_thrown sv_length sv_nodes sv_many sv_directories sv_runsFrom sv_runs sv_read sv_wrong sv_isNamed sv_goes sv_goesSize sv_goesAt sv_targetParts sv_isRoot)), ((ma 16), .inl (cJ, 46080, .inr (.inl G_77)))]) hP hD [7, 8] [0, 1, 2, 3, 4, 5, 6] rfl rfl (by decide +kernel) (by decide +kernel) hk1 hFc hP1 hD1
                  clear hPc hDc hFc hP1 hD1 hk1 hz1 hkc hks
                  generalize H1 = H at hP hS ⊢
                  have hP : va_P D CL [((ma 1), .inl (cI, 40, .inl fK)), ((ma 9), .inl (cI, 40, .inl fNS)), ((ma 13), .inl (cI, 40, .inl fBs)), ((ma 15), .inl (cI, 40, .inl fEs)), ((ma 17), .inl (cI, 24, .inl fTb)), ((ma 18), .inl (cI, 80, .inl fSe)), ((ma 19), .inl (cI, 80, .inl fSs)), (h0, .inr (11, MO ma sv_thrown sv_length sv_nodes sv_many sv_directories sv_runsFrom sv_runs sv_read sv_wrong sv_isNamed sv_goes sv_goesSize sv_goesAt sv_targetParts sv_isRoot)), ((ma 16), .inl (cJ, 46080, .inr (.inl G_77)))] H := hP
                  have hD : va_D A [((ma 1), .inl (cI, 40, .inl fK)), ((ma 9), .inl (cI, 40, .inl fNS)), ((ma 13), .inl (cI, 40, .inl fBs)), ((ma 15), .inl (cI, 40, .inl fEs)), ((ma 17), .inl (cI, 24, .inl fTb)), ((ma 18), .inl (cI, 80, .inl fSe)), ((ma 19), .inl (cI, 80, .inl fSs)), (h0, .inr (11, MO ma sv_thrown sv_length sv_nodes sv_many sv_directories sv_runsFrom sv_runs sv_read sv_wrong sv_isNamed sv_goes sv_goesSize sv_goesAt sv_targetParts sv_isRoot)), ((ma 16), .inl (cJ, 46080, .inr (.inl G_77)))] := hD
                  try dsimp only at hp_r76
                  have hw_78 := hp_r76
                  try rw [L_37] at hw_78
                  try rw [L_34904] at hw_78
                  refine lv_aload_n hx hb d_DiscMakerModel_describe_147 rfl (lv_at hl 0 rfl) ?_
                  refine lv_iload_n hx hb d_DiscMakerModel_describe_148 rfl (lv_at hl 2 rfl) ?_
                  refine lv_bipush (v := 89) hx hb d_DiscMakerModel_describe_149 (by decide) ?_
                  refine lv_iadd hx hb d_DiscMakerModel_describe_151 ?_
                  refine W.eq (g2 := F0 m 152 ls [.int 34905, .ref h0]) (by rw [show ((34816 : Int32) + 89) = 34905 from by decide]) ?_
                  have L_34905 : (34905 : Int32).toInt = 34905 := by decide
                  refine lv_bipush (v := 47) hx hb d_DiscMakerModel_describe_152 (by decide) ?_
                  have hPc := hP.sub (ws' := [(h0, .inr (11, MO ma sv_thrown sv_length sv_nodes sv_many sv_directories sv_runsFrom sv_runs sv_read sv_wrong sv_isNamed sv_goes sv_goesSize sv_goesAt sv_targetParts sv_isRoot)), ((ma 16), .inl (cJ, 46080, .inr (.inl G_77)))]) [7, 8] rfl
                  have hDc := hD.sub (ws' := [(h0, .inr (11, MO ma sv_thrown sv_length sv_nodes sv_many sv_directories sv_runsFrom sv_runs sv_read sv_wrong sv_isNamed sv_goes sv_goesSize sv_goesAt sv_targetParts sv_isRoot)), ((ma 16), .inl (cJ, 46080, .inr (.inl G_77)))]) [7, 8] (by decide +kernel) rfl
                  have hFc := va_free (wc := [(h0, .inr (11, MO ma sv_thrown sv_length sv_nodes sv_many sv_directories sv_runsFrom sv_runs sv_read sv_wrong sv_isNamed sv_goes sv_goesSize sv_goesAt sv_targetParts sv_isRoot)), ((ma 16), .inl (cJ, 46080, .inr (.inl G_77)))]) hD hS hA [7, 8] rfl
                  have hkc : 0 ≤ 0 := by decide
                  have hks : 0 ≤ 0 := by decide
                  refine va_callv (va_runV (C := "DiscMakerModel") (As := [.int 34905, .int 47]) (rest := []) ⟨hx, hb, hml, hown, hts⟩ (m_setF l D cB cI cJ cZ cN cF H.size h0 ma sv_thrown sv_length sv_nodes sv_many sv_directories sv_runsFrom sv_runs sv_read sv_wrong sv_isNamed sv_goes sv_goesSize sv_goesAt sv_targetParts sv_isRoot G_77 34905 47 (by (try dsimp only); first | assumption | omega | trivial) (by (try dsimp only); first | assumption | omega | trivial)) (cwV 2 hts (lg_goodV k1727 k1729 k79 k125 kc_DiscMakerModel_set) rfl rfl rfl (by decide +kernel) ⟨Nat.le_of_ble_eq_true rfl, Nat.le_of_ble_eq_true rfl⟩) ⟨fun a U g mk q => by obtain ⟨q0, q1, qP, qK, qN, qD⟩ := q; exact ⟨q0, q1, qP, va_K.moved (u := U) (U := U.calling g mk a) (Vm.Alike.refl U.vm) qK, qN.calling, qD⟩, va_recv hK hP (ci := 11) (q0 := 7) rfl rfl, fun U hU hW => ⟨rfl, by rw [hU], by rw [hU]; exact hPc, va_K.moved hW.alike hK, NN.warm hW hN, hDc.weaken (fun _ _ _ _ => trivial)⟩⟩ rfl rfl hl.1 rfl (lv_room (Nat.le_of_ble_eq_true rfl)) d_DiscMakerModel_describe_154 ⟨hkc, hks⟩) hS (fun q _ h => hFc q h) hFc (fun u t H1 locs ht hvm hp_r79 hB hz1 hk1 hS => ?_)
                  obtain ⟨G_80, rfl⟩ : ∃ z, z = u := ⟨_, rfl⟩
                  obtain ⟨hP1, hD1⟩ := hB
                  rw [ht] at hP1
                  obtain ⟨hP, hD⟩ := va_join (wr := [((ma 1), .inl (cI, 40, .inl fK)), ((ma 9), .inl (cI, 40, .inl fNS)), ((ma 13), .inl (cI, 40, .inl fBs)), ((ma 15), .inl (cI, 40, .inl fEs)), ((ma 17), .inl (cI, 24, .inl fTb)), ((ma 18), .inl (cI, 80, .inl fSe)), ((ma 19), .inl (cI, 80, .inl fSs))]) (w1 := [(h0, .inr (11, MO ma sv_thrown sv_length sv_nodes sv_many sv_directories sv_runsFrom sv_runs sv_read sv_wrong sv_isNamed sv_goes sv_goesSize sv_goesAt sv_targetParts sv_isRoot)), ((ma 16), .inl (cJ, 46080, .inr (.inl G_80)))]) hP hD [7, 8] [0, 1, 2, 3, 4, 5, 6] rfl rfl (by decide +kernel) (by decide +kernel) hk1 hFc hP1 hD1
                  clear hPc hDc hFc hP1 hD1 hk1 hz1 hkc hks
                  generalize H1 = H at hP hS ⊢
                  have hP : va_P D CL [((ma 1), .inl (cI, 40, .inl fK)), ((ma 9), .inl (cI, 40, .inl fNS)), ((ma 13), .inl (cI, 40, .inl fBs)), ((ma 15), .inl (cI, 40, .inl fEs)), ((ma 17), .inl (cI, 24, .inl fTb)), ((ma 18), .inl (cI, 80, .inl fSe)), ((ma 19), .inl (cI, 80, .inl fSs)), (h0, .inr (11, MO ma sv_thrown sv_length sv_nodes sv_many sv_directories sv_runsFrom sv_runs sv_read sv_wrong sv_isNamed sv_goes sv_goesSize sv_goesAt sv_targetParts sv_isRoot)), ((ma 16), .inl (cJ, 46080, .inr (.inl G_80)))] H := hP
                  have hD : va_D A [((ma 1), .inl (cI, 40, .inl fK)), ((ma 9), .inl (cI, 40, .inl fNS)), ((ma 13), .inl (cI, 40, .inl fBs)), ((ma 15), .inl (cI, 40, .inl fEs)), ((ma 17), .inl (cI, 24, .inl fTb)), ((ma 18), .inl (cI, 80, .inl fSe)), ((ma 19), .inl (cI, 80, .inl fSs)), (h0, .inr (11, MO ma sv_thrown sv_length sv_nodes sv_many sv_directories sv_runsFrom sv_runs sv_read sv_wrong sv_isNamed sv_goes sv_goesSize sv_goesAt sv_targetParts sv_isRoot)), ((ma 16), .inl (cJ, 46080, .inr (.inl G_80)))] := hD
                  try dsimp only at hp_r79
                  have hw_81 := hp_r79
                  try rw [L_47] at hw_81
                  try rw [L_34905] at hw_81
                  refine lv_aload_n hx hb d_DiscMakerModel_describe_157 rfl (lv_at hl 0 rfl) ?_
                  refine lv_iload_n hx hb d_DiscMakerModel_describe_158 rfl (lv_at hl 2 rfl) ?_
                  refine lv_bipush (v := 90) hx hb d_DiscMakerModel_describe_159 (by decide) ?_
                  refine lv_iadd hx hb d_DiscMakerModel_describe_161 ?_
                  refine W.eq (g2 := F0 m 162 ls [.int 34906, .ref h0]) (by rw [show ((34816 : Int32) + 90) = 34906 from by decide]) ?_
                  have L_34906 : (34906 : Int32).toInt = 34906 := by decide
                  refine lv_bipush (v := 69) hx hb d_DiscMakerModel_describe_162 (by decide) ?_
                  have hPc := hP.sub (ws' := [(h0, .inr (11, MO ma sv_thrown sv_length sv_nodes sv_many sv_directories sv_runsFrom sv_runs sv_read sv_wrong sv_isNamed sv_goes sv_goesSize sv_goesAt sv_targetParts sv_isRoot)), ((ma 16), .inl (cJ, 46080, .inr (.inl G_80)))]) [7, 8] rfl
                  have hDc := hD.sub (ws' := [(h0, .inr (11, MO ma sv_thrown sv_length sv_nodes sv_many sv_directories sv_runsFrom sv_runs sv_read sv_wrong sv_isNamed sv_goes sv_goesSize sv_goesAt sv_targetParts sv_isRoot)), ((ma 16), .inl (cJ, 46080, .inr (.inl G_80)))]) [7, 8] (by decide +kernel) rfl
                  have hFc := va_free (wc := [(h0, .inr (11, MO ma sv_thrown sv_length sv_nodes sv_many sv_directories sv_runsFrom sv_runs sv_read sv_wrong sv_isNamed sv_goes sv_goesSize sv_goesAt sv_targetParts sv_isRoot)), ((ma 16), .inl (cJ, 46080, .inr (.inl G_80)))]) hD hS hA [7, 8] rfl
                  have hkc : 0 ≤ 0 := by decide
                  have hks : 0 ≤ 0 := by decide
                  refine va_callv (va_runV (C := "DiscMakerModel") (As := [.int 34906, .int 69]) (rest := []) ⟨hx, hb, hml, hown, hts⟩ (m_setF l D cB cI cJ cZ cN cF H.size h0 ma sv_thrown sv_length sv_nodes sv_many sv_directories sv_runsFrom sv_runs sv_read sv_wrong sv_isNamed sv_goes sv_goesSize sv_goesAt sv_targetParts sv_isRoot G_80 34906 69 (by (try dsimp only); first | assumption | omega | trivial) (by (try dsimp only); first | assumption | omega | trivial)) (cwV 2 hts (lg_goodV k1727 k1729 k79 k125 kc_DiscMakerModel_set) rfl rfl rfl (by decide +kernel) ⟨Nat.le_of_ble_eq_true rfl, Nat.le_of_ble_eq_true rfl⟩) ⟨fun a U g mk q => by obtain ⟨q0, q1, qP, qK, qN, qD⟩ := q; exact ⟨q0, q1, qP, va_K.moved (u := U) (U := U.calling g mk a) (Vm.Alike.refl U.vm) qK, qN.calling, qD⟩, va_recv hK hP (ci := 11) (q0 := 7) rfl rfl, fun U hU hW => ⟨rfl, by rw [hU], by rw [hU]; exact hPc, va_K.moved hW.alike hK, NN.warm hW hN, hDc.weaken (fun _ _ _ _ => trivial)⟩⟩ rfl rfl hl.1 rfl (lv_room (Nat.le_of_ble_eq_true rfl)) d_DiscMakerModel_describe_164 ⟨hkc, hks⟩) hS (fun q _ h => hFc q h) hFc (fun u t H1 locs ht hvm hp_r82 hB hz1 hk1 hS => ?_)
                  obtain ⟨G_83, rfl⟩ : ∃ z, z = u := ⟨_, rfl⟩
                  obtain ⟨hP1, hD1⟩ := hB
                  rw [ht] at hP1
                  obtain ⟨hP, hD⟩ := va_join (wr := [((ma 1), .inl (cI, 40, .inl fK)), ((ma 9), .inl (cI, 40, .inl fNS)), ((ma 13), .inl (cI, 40, .inl fBs)), ((ma 15), .inl (cI, 40, .inl fEs)), ((ma 17), .inl (cI, 24, .inl fTb)), ((ma 18), .inl (cI, 80, .inl fSe)), ((ma 19), .inl (cI, 80, .inl fSs))]) (w1 := [(h0, .inr (11, MO ma sv_thrown sv_length sv_nodes sv_many sv_directories sv_runsFrom sv_runs sv_read sv_wrong sv_isNamed sv_goes sv_goesSize sv_goesAt sv_targetParts sv_isRoot)), ((ma 16), .inl (cJ, 46080, .inr (.inl G_83)))]) hP hD [7, 8] [0, 1, 2, 3, 4, 5, 6] rfl rfl (by decide +kernel) (by decide +kernel) hk1 hFc hP1 hD1
                  clear hPc hDc hFc hP1 hD1 hk1 hz1 hkc hks
                  generalize H1 = H at hP hS ⊢
                  have hP : va_P D CL [((ma 1), .inl (cI, 40, .inl fK)), ((ma 9), .inl (cI, 40, .inl fNS)), ((ma 13), .inl (cI, 40, .inl fBs)), ((ma 15), .inl (cI, 40, .inl fEs)), ((ma 17), .inl (cI, 24, .inl fTb)), ((ma 18), .inl (cI, 80, .inl fSe)), ((ma 19), .inl (cI, 80, .inl fSs)), (h0, .inr (11, MO ma sv_thrown sv_length sv_nodes sv_many sv_directories sv_runsFrom sv_runs sv_read sv_wrong sv_isNamed sv_goes sv_goesSize sv_goesAt sv_targetParts sv_isRoot)), ((ma 16), .inl (cJ, 46080, .inr (.inl G_83)))] H := hP
                  have hD : va_D A [((ma 1), .inl (cI, 40, .inl fK)), ((ma 9), .inl (cI, 40, .inl fNS)), ((ma 13), .inl (cI, 40, .inl fBs)), ((ma 15), .inl (cI, 40, .inl fEs)), ((ma 17), .inl (cI, 24, .inl fTb)), ((ma 18), .inl (cI, 80, .inl fSe)), ((ma 19), .inl (cI, 80, .inl fSs)), (h0, .inr (11, MO ma sv_thrown sv_length sv_nodes sv_many sv_directories sv_runsFrom sv_runs sv_read sv_wrong sv_isNamed sv_goes sv_goesSize sv_goesAt sv_targetParts sv_isRoot)), ((ma 16), .inl (cJ, 46080, .inr (.inl G_83)))] := hD
                  try dsimp only at hp_r82
                  have hw_84 := hp_r82
                  try rw [L_69] at hw_84
                  try rw [L_34906] at hw_84
                  have we1 : BL _ _ (34816 + 88) [37, 47, 69] := ((((BL_nil _ (34816 + 88)).pt hw_78 (by show _ = 34816 + 88 + ((0 : Nat) : Int); omega) (show _ = (37 : Int) by omega)).pt hw_81 (by show _ = 34816 + 88 + ((1 : Nat) : Int); omega) (show _ = (47 : Int) by omega)).pt hw_84 (by show _ = 34816 + 88 + ((2 : Nat) : Int); omega) (show _ = (69 : Int) by omega)).cast rfl rfl
                  refine lv_aload_n hx hb d_DiscMakerModel_describe_167 rfl (lv_at hl 0 rfl) ?_
                  refine lv_iload_n hx hb d_DiscMakerModel_describe_168 rfl (lv_at hl 2 rfl) ?_
                  refine lv_bipush (v := 120) hx hb d_DiscMakerModel_describe_169 (by decide) ?_
                  refine lv_iadd hx hb d_DiscMakerModel_describe_171 ?_
                  refine W.eq (g2 := F0 m 172 ls [.int 34936, .ref h0]) (by rw [show ((34816 : Int32) + 120) = 34936 from by decide]) ?_
                  have L_34936 : (34936 : Int32).toInt = 34936 := by decide
                  refine lv_iconst (v := 2) hx hb d_DiscMakerModel_describe_172 (by decide) ?_
                  refine lv_iconst (v := 1) hx hb d_DiscMakerModel_describe_173 (by decide) ?_
                  have hPc := hP.sub (ws' := [(h0, .inr (11, MO ma sv_thrown sv_length sv_nodes sv_many sv_directories sv_runsFrom sv_runs sv_read sv_wrong sv_isNamed sv_goes sv_goesSize sv_goesAt sv_targetParts sv_isRoot)), ((ma 16), .inl (cJ, 46080, .inr (.inl G_83)))]) [7, 8] rfl
                  have hDc := hD.sub (ws' := [(h0, .inr (11, MO ma sv_thrown sv_length sv_nodes sv_many sv_directories sv_runsFrom sv_runs sv_read sv_wrong sv_isNamed sv_goes sv_goesSize sv_goesAt sv_targetParts sv_isRoot)), ((ma 16), .inl (cJ, 46080, .inr (.inl G_83)))]) [7, 8] (by decide +kernel) rfl
                  have hFc := va_free (wc := [(h0, .inr (11, MO ma sv_thrown sv_length sv_nodes sv_many sv_directories sv_runsFrom sv_runs sv_read sv_wrong sv_isNamed sv_goes sv_goesSize sv_goesAt sv_targetParts sv_isRoot)), ((ma 16), .inl (cJ, 46080, .inr (.inl G_83)))]) hD hS hA [7, 8] rfl
                  have hkc : 0 ≤ 0 := by decide
                  have hks : 0 ≤ 0 := by decide
                  refine va_callv (va_runV (C := "DiscMakerModel") (As := [.int 34936, .int 2, .int 1]) (rest := []) ⟨hx, hb, hml, hown, hts⟩ (m_both2F l D cB cI cJ cZ cN cF H.size h0 ma sv_thrown sv_length sv_nodes sv_many sv_directories sv_runsFrom sv_runs sv_read sv_wrong sv_isNamed sv_goes sv_goesSize sv_goesAt sv_targetParts sv_isRoot G_83 34936 1 (by (try dsimp only); first | assumption | omega | trivial) (by (try dsimp only); first | assumption | omega | trivial)) (cwV 3 hts (lg_goodV k1740 k1742 k81 k125 kc_DiscMakerModel_both) rfl rfl rfl (by decide +kernel) ⟨Nat.le_of_ble_eq_true rfl, Nat.le_of_ble_eq_true rfl⟩) ⟨fun a U g mk q => by obtain ⟨q0, q1, qP, qK, qN, qD⟩ := q; exact ⟨q0, q1, qP, va_K.moved (u := U) (U := U.calling g mk a) (Vm.Alike.refl U.vm) qK, qN.calling, qD⟩, va_recv hK hP (ci := 11) (q0 := 7) rfl rfl, fun U hU hW => ⟨rfl, by rw [hU], by rw [hU]; exact hPc, va_K.moved hW.alike hK, NN.warm hW hN, hDc.weaken (fun _ _ _ _ => trivial)⟩⟩ rfl rfl hl.1 rfl (lv_room (Nat.le_of_ble_eq_true rfl)) d_DiscMakerModel_describe_174 ⟨hkc, hks⟩) hS (fun q _ h => hFc q h) hFc (fun u t H1 locs ht hvm hp_r85 hB hz1 hk1 hS => ?_)
                  obtain ⟨G_86, rfl⟩ : ∃ z, z = u := ⟨_, rfl⟩
                  obtain ⟨hP1, hD1⟩ := hB
                  rw [ht] at hP1
                  obtain ⟨hP, hD⟩ := va_join (wr := [((ma 1), .inl (cI, 40, .inl fK)), ((ma 9), .inl (cI, 40, .inl fNS)), ((ma 13), .inl (cI, 40, .inl fBs)), ((ma 15), .inl (cI, 40, .inl fEs)), ((ma 17), .inl (cI, 24, .inl fTb)), ((ma 18), .inl (cI, 80, .inl fSe)), ((ma 19), .inl (cI, 80, .inl fSs))]) (w1 := [(h0, .inr (11, MO ma sv_thrown sv_length sv_nodes sv_many sv_directories sv_runsFrom sv_runs sv_read sv_wrong sv_isNamed sv_goes sv_goesSize sv_goesAt sv_targetParts sv_isRoot)), ((ma 16), .inl (cJ, 46080, .inr (.inl G_86)))]) hP hD [7, 8] [0, 1, 2, 3, 4, 5, 6] rfl rfl (by decide +kernel) (by decide +kernel) hk1 hFc hP1 hD1
                  clear hPc hDc hFc hP1 hD1 hk1 hz1 hkc hks
                  generalize H1 = H at hP hS ⊢
                  have hP : va_P D CL [((ma 1), .inl (cI, 40, .inl fK)), ((ma 9), .inl (cI, 40, .inl fNS)), ((ma 13), .inl (cI, 40, .inl fBs)), ((ma 15), .inl (cI, 40, .inl fEs)), ((ma 17), .inl (cI, 24, .inl fTb)), ((ma 18), .inl (cI, 80, .inl fSe)), ((ma 19), .inl (cI, 80, .inl fSs)), (h0, .inr (11, MO ma sv_thrown sv_length sv_nodes sv_many sv_directories sv_runsFrom sv_runs sv_read sv_wrong sv_isNamed sv_goes sv_goesSize sv_goesAt sv_targetParts sv_isRoot)), ((ma 16), .inl (cJ, 46080, .inr (.inl G_86)))] H := hP
                  have hD : va_D A [((ma 1), .inl (cI, 40, .inl fK)), ((ma 9), .inl (cI, 40, .inl fNS)), ((ma 13), .inl (cI, 40, .inl fBs)), ((ma 15), .inl (cI, 40, .inl fEs)), ((ma 17), .inl (cI, 24, .inl fTb)), ((ma 18), .inl (cI, 80, .inl fSe)), ((ma 19), .inl (cI, 80, .inl fSs)), (h0, .inr (11, MO ma sv_thrown sv_length sv_nodes sv_many sv_directories sv_runsFrom sv_runs sv_read sv_wrong sv_isNamed sv_goes sv_goesSize sv_goesAt sv_targetParts sv_isRoot)), ((ma 16), .inl (cJ, 46080, .inr (.inl G_86)))] := hD
                  try dsimp only at hp_r85
                  have hw_87 := hp_r85
                  try rw [L_1] at hw_87
                  try rw [L_34936] at hw_87
                  refine lv_aload_n hx hb d_DiscMakerModel_describe_177 rfl (lv_at hl 0 rfl) ?_
                  refine lv_iload_n hx hb d_DiscMakerModel_describe_178 rfl (lv_at hl 2 rfl) ?_
                  refine lv_bipush (v := 124) hx hb d_DiscMakerModel_describe_179 (by decide) ?_
                  refine lv_iadd hx hb d_DiscMakerModel_describe_181 ?_
                  refine W.eq (g2 := F0 m 182 ls [.int 34940, .ref h0]) (by rw [show ((34816 : Int32) + 124) = 34940 from by decide]) ?_
                  have L_34940 : (34940 : Int32).toInt = 34940 := by decide
                  refine lv_iconst (v := 2) hx hb d_DiscMakerModel_describe_182 (by decide) ?_
                  refine lv_iconst (v := 1) hx hb d_DiscMakerModel_describe_183 (by decide) ?_
                  have hPc := hP.sub (ws' := [(h0, .inr (11, MO ma sv_thrown sv_length sv_nodes sv_many sv_directories sv_runsFrom sv_runs sv_read sv_wrong sv_isNamed sv_goes sv_goesSize sv_goesAt sv_targetParts sv_isRoot)), ((ma 16), .inl (cJ, 46080, .inr (.inl G_86)))]) [7, 8] rfl
                  have hDc := hD.sub (ws' := [(h0, .inr (11, MO ma sv_thrown sv_length sv_nodes sv_many sv_directories sv_runsFrom sv_runs sv_read sv_wrong sv_isNamed sv_goes sv_goesSize sv_goesAt sv_targetParts sv_isRoot)), ((ma 16), .inl (cJ, 46080, .inr (.inl G_86)))]) [7, 8] (by decide +kernel) rfl
                  have hFc := va_free (wc := [(h0, .inr (11, MO ma sv_thrown sv_length sv_nodes sv_many sv_directories sv_runsFrom sv_runs sv_read sv_wrong sv_isNamed sv_goes sv_goesSize sv_goesAt sv_targetParts sv_isRoot)), ((ma 16), .inl (cJ, 46080, .inr (.inl G_86)))]) hD hS hA [7, 8] rfl
                  have hkc : 0 ≤ 0 := by decide
                  have hks : 0 ≤ 0 := by decide
                  refine va_callv (va_runV (C := "DiscMakerModel") (As := [.int 34940, .int 2, .int 1]) (rest := []) ⟨hx, hb, hml, hown, hts⟩ (m_both2F l D cB cI cJ cZ cN cF H.size h0 ma sv_thrown sv_length sv_nodes sv_many sv_directories sv_runsFrom sv_runs sv_read sv_wrong sv_isNamed sv_goes sv_goesSize sv_goesAt sv_targetParts sv_isRoot G_86 34940 1 (by (try dsimp only); first | assumption | omega | trivial) (by (try dsimp only); first | assumption | omega | trivial)) (cwV 3 hts (lg_goodV k1740 k1742 k81 k125 kc_DiscMakerModel_both) rfl rfl rfl (by decide +kernel) ⟨Nat.le_of_ble_eq_true rfl, Nat.le_of_ble_eq_true rfl⟩) ⟨fun a U g mk q => by obtain ⟨q0, q1, qP, qK, qN, qD⟩ := q; exact ⟨q0, q1, qP, va_K.moved (u := U) (U := U.calling g mk a) (Vm.Alike.refl U.vm) qK, qN.calling, qD⟩, va_recv hK hP (ci := 11) (q0 := 7) rfl rfl, fun U hU hW => ⟨rfl, by rw [hU], by rw [hU]; exact hPc, va_K.moved hW.alike hK, NN.warm hW hN, hDc.weaken (fun _ _ _ _ => trivial)⟩⟩ rfl rfl hl.1 rfl (lv_room (Nat.le_of_ble_eq_true rfl)) d_DiscMakerModel_describe_184 ⟨hkc, hks⟩) hS (fun q _ h => hFc q h) hFc (fun u t H1 locs ht hvm hp_r88 hB hz1 hk1 hS => ?_)
                  obtain ⟨G_89, rfl⟩ : ∃ z, z = u := ⟨_, rfl⟩
                  obtain ⟨hP1, hD1⟩ := hB
                  rw [ht] at hP1
                  obtain ⟨hP, hD⟩ := va_join (wr := [((ma 1), .inl (cI, 40, .inl fK)), ((ma 9), .inl (cI, 40, .inl fNS)), ((ma 13), .inl (cI, 40, .inl fBs)), ((ma 15), .inl (cI, 40, .inl fEs)), ((ma 17), .inl (cI, 24, .inl fTb)), ((ma 18), .inl (cI, 80, .inl fSe)), ((ma 19), .inl (cI, 80, .inl fSs))]) (w1 := [(h0, .inr (11, MO ma sv_thrown sv_length sv_nodes sv_many sv_directories sv_runsFrom sv_runs sv_read sv_wrong sv_isNamed sv_goes sv_goesSize sv_goesAt sv_targetParts sv_isRoot)), ((ma 16), .inl (cJ, 46080, .inr (.inl G_89)))]) hP hD [7, 8] [0, 1, 2, 3, 4, 5, 6] rfl rfl (by decide +kernel) (by decide +kernel) hk1 hFc hP1 hD1
                  clear hPc hDc hFc hP1 hD1 hk1 hz1 hkc hks
                  generalize H1 = H at hP hS ⊢
                  have hP : va_P D CL [((ma 1), .inl (cI, 40, .inl fK)), ((ma 9), .inl (cI, 40, .inl fNS)), ((ma 13), .inl (cI, 40, .inl fBs)), ((ma 15), .inl (cI, 40, .inl fEs)), ((ma 17), .inl (cI, 24, .inl fTb)), ((ma 18), .inl (cI, 80, .inl fSe)), ((ma 19), .inl (cI, 80, .inl fSs)), (h0, .inr (11, MO ma sv_thrown sv_length sv_nodes sv_many sv_directories sv_runsFrom sv_runs sv_read sv_wrong sv_isNamed sv_goes sv_goesSize sv_goesAt sv_targetParts sv_isRoot)), ((ma 16), .inl (cJ, 46080, .inr (.inl G_89)))] H := hP
                  have hD : va_D A [((ma 1), .inl (cI, 40, .inl fK)), ((ma 9), .inl (cI, 40, .inl fNS)), ((ma 13), .inl (cI, 40, .inl fBs)), ((ma 15), .inl (cI, 40, .inl fEs)), ((ma 17), .inl (cI, 24, .inl fTb)), ((ma 18), .inl (cI, 80, .inl fSe)), ((ma 19), .inl (cI, 80, .inl fSs)), (h0, .inr (11, MO ma sv_thrown sv_length sv_nodes sv_many sv_directories sv_runsFrom sv_runs sv_read sv_wrong sv_isNamed sv_goes sv_goesSize sv_goesAt sv_targetParts sv_isRoot)), ((ma 16), .inl (cJ, 46080, .inr (.inl G_89)))] := hD
                  try dsimp only at hp_r88
                  have hw_90 := hp_r88
                  try rw [L_1] at hw_90
                  try rw [L_34940] at hw_90
                  refine lv_aload_n hx hb d_DiscMakerModel_describe_187 rfl (lv_at hl 0 rfl) ?_
                  refine lv_iload_n hx hb d_DiscMakerModel_describe_188 rfl (lv_at hl 2 rfl) ?_
                  refine lv_sipush (v := 128) hx hb d_DiscMakerModel_describe_189 (by decide) ?_
                  refine lv_iadd hx hb d_DiscMakerModel_describe_192 ?_
                  refine W.eq (g2 := F0 m 193 ls [.int 34944, .ref h0]) (by rw [show ((34816 : Int32) + 128) = 34944 from by decide]) ?_
                  have L_34944 : (34944 : Int32).toInt = 34944 := by decide
                  refine lv_iconst (v := 2) hx hb d_DiscMakerModel_describe_193 (by decide) ?_
                  refine lv_sipush (v := 2048) hx hb d_DiscMakerModel_describe_194 (by decide) ?_
                  have hPc := hP.sub (ws' := [(h0, .inr (11, MO ma sv_thrown sv_length sv_nodes sv_many sv_directories sv_runsFrom sv_runs sv_read sv_wrong sv_isNamed sv_goes sv_goesSize sv_goesAt sv_targetParts sv_isRoot)), ((ma 16), .inl (cJ, 46080, .inr (.inl G_89)))]) [7, 8] rfl
                  have hDc := hD.sub (ws' := [(h0, .inr (11, MO ma sv_thrown sv_length sv_nodes sv_many sv_directories sv_runsFrom sv_runs sv_read sv_wrong sv_isNamed sv_goes sv_goesSize sv_goesAt sv_targetParts sv_isRoot)), ((ma 16), .inl (cJ, 46080, .inr (.inl G_89)))]) [7, 8] (by decide +kernel) rfl
                  have hFc := va_free (wc := [(h0, .inr (11, MO ma sv_thrown sv_length sv_nodes sv_many sv_directories sv_runsFrom sv_runs sv_read sv_wrong sv_isNamed sv_goes sv_goesSize sv_goesAt sv_targetParts sv_isRoot)), ((ma 16), .inl (cJ, 46080, .inr (.inl G_89)))]) hD hS hA [7, 8] rfl
                  have hkc : 0 ≤ 0 := by decide
                  have hks : 0 ≤ 0 := by decide
                  refine va_callv (va_runV (C := "DiscMakerModel") (As := [.int 34944, .int 2, .int 2048]) (rest := []) ⟨hx, hb, hml, hown, hts⟩ (m_both2F l D cB cI cJ cZ cN cF H.size h0 ma sv_thrown sv_length sv_nodes sv_many sv_directories sv_runsFrom sv_runs sv_read sv_wrong sv_isNamed sv_goes sv_goesSize sv_goesAt sv_targetParts sv_isRoot G_89 34944 2048 (by (try dsimp only); first | assumption | omega | trivial) (by (try dsimp only); first | assumption | omega | trivial)) (cwV 3 hts (lg_goodV k1740 k1742 k81 k125 kc_DiscMakerModel_both) rfl rfl rfl (by decide +kernel) ⟨Nat.le_of_ble_eq_true rfl, Nat.le_of_ble_eq_true rfl⟩) ⟨fun a U g mk q => by obtain ⟨q0, q1, qP, qK, qN, qD⟩ := q; exact ⟨q0, q1, qP, va_K.moved (u := U) (U := U.calling g mk a) (Vm.Alike.refl U.vm) qK, qN.calling, qD⟩, va_recv hK hP (ci := 11) (q0 := 7) rfl rfl, fun U hU hW => ⟨rfl, by rw [hU], by rw [hU]; exact hPc, va_K.moved hW.alike hK, NN.warm hW hN, hDc.weaken (fun _ _ _ _ => trivial)⟩⟩ rfl rfl hl.1 rfl (lv_room (Nat.le_of_ble_eq_true rfl)) d_DiscMakerModel_describe_197 ⟨hkc, hks⟩) hS (fun q _ h => hFc q h) hFc (fun u t H1 locs ht hvm hp_r91 hB hz1 hk1 hS => ?_)
                  obtain ⟨G_92, rfl⟩ : ∃ z, z = u := ⟨_, rfl⟩
                  obtain ⟨hP1, hD1⟩ := hB
                  rw [ht] at hP1
                  obtain ⟨hP, hD⟩ := va_join (wr := [((ma 1), .inl (cI, 40, .inl fK)), ((ma 9), .inl (cI, 40, .inl fNS)), ((ma 13), .inl (cI, 40, .inl fBs)), ((ma 15), .inl (cI, 40, .inl fEs)), ((ma 17), .inl (cI, 24, .inl fTb)), ((ma 18), .inl (cI, 80, .inl fSe)), ((ma 19), .inl (cI, 80, .inl fSs))]) (w1 := [(h0, .inr (11, MO ma sv_thrown sv_length sv_nodes sv_many sv_directories sv_runsFrom sv_runs sv_read sv_wrong sv_isNamed sv_goes sv_goesSize sv_goesAt sv_targetParts sv_isRoot)), ((ma 16), .inl (cJ, 46080, .inr (.inl G_92)))]) hP hD [7, 8] [0, 1, 2, 3, 4, 5, 6] rfl rfl (by decide +kernel) (by decide +kernel) hk1 hFc hP1 hD1
                  clear hPc hDc hFc hP1 hD1 hk1 hz1 hkc hks
                  generalize H1 = H at hP hS ⊢
                  have hP : va_P D CL [((ma 1), .inl (cI, 40, .inl fK)), ((ma 9), .inl (cI, 40, .inl fNS)), ((ma 13), .inl (cI, 40, .inl fBs)), ((ma 15), .inl (cI, 40, .inl fEs)), ((ma 17), .inl (cI, 24, .inl fTb)), ((ma 18), .inl (cI, 80, .inl fSe)), ((ma 19), .inl (cI, 80, .inl fSs)), (h0, .inr (11, MO ma sv_thrown sv_length sv_nodes sv_many sv_directories sv_runsFrom sv_runs sv_read sv_wrong sv_isNamed sv_goes sv_goesSize sv_goesAt sv_targetParts sv_isRoot)), ((ma 16), .inl (cJ, 46080, .inr (.inl G_92)))] H := hP
                  have hD : va_D A [((ma 1), .inl (cI, 40, .inl fK)), ((ma 9), .inl (cI, 40, .inl fNS)), ((ma 13), .inl (cI, 40, .inl fBs)), ((ma 15), .inl (cI, 40, .inl fEs)), ((ma 17), .inl (cI, 24, .inl fTb)), ((ma 18), .inl (cI, 80, .inl fSe)), ((ma 19), .inl (cI, 80, .inl fSs)), (h0, .inr (11, MO ma sv_thrown sv_length sv_nodes sv_many sv_directories sv_runsFrom sv_runs sv_read sv_wrong sv_isNamed sv_goes sv_goesSize sv_goesAt sv_targetParts sv_isRoot)), ((ma 16), .inl (cJ, 46080, .inr (.inl G_92)))] := hD
                  try dsimp only at hp_r91
                  have hw_93 := hp_r91
                  try rw [L_2048] at hw_93
                  try rw [L_34944] at hw_93
                  refine lv_aload_n hx hb d_DiscMakerModel_describe_200 rfl (lv_at hl 0 rfl) ?_
                  refine lv_iload_n hx hb d_DiscMakerModel_describe_201 rfl (lv_at hl 2 rfl) ?_
                  refine lv_sipush (v := 132) hx hb d_DiscMakerModel_describe_202 (by decide) ?_
                  refine lv_iadd hx hb d_DiscMakerModel_describe_205 ?_
                  refine W.eq (g2 := F0 m 206 ls [.int 34948, .ref h0]) (by rw [show ((34816 : Int32) + 132) = 34948 from by decide]) ?_
                  have L_34948 : (34948 : Int32).toInt = 34948 := by decide
                  refine lv_iconst (v := 4) hx hb d_DiscMakerModel_describe_206 (by decide) ?_
                  refine lv_aload_n hx hb d_DiscMakerModel_describe_207 rfl (lv_at hl 0 rfl) ?_
                  refine lv_iload_n hx hb d_DiscMakerModel_describe_208 rfl (lv_at hl 1 rfl) ?_
                  have hPc := hP.sub (ws' := [(h0, .inr (11, MO ma sv_thrown sv_length sv_nodes sv_many sv_directories sv_runsFrom sv_runs sv_read sv_wrong sv_isNamed sv_goes sv_goesSize sv_goesAt sv_targetParts sv_isRoot)), ((ma 1), .inl (cI, 40, .inl fK)), ((ma 9), .inl (cI, 40, .inl fNS)), ((ma 13), .inl (cI, 40, .inl fBs)), ((ma 15), .inl (cI, 40, .inl fEs)), ((ma 17), .inl (cI, 24, .inl fTb))]) [7, 0, 1, 2, 3, 4] rfl
                  have hDc := hD.sub (ws' := [(h0, .inr (11, MO ma sv_thrown sv_length sv_nodes sv_many sv_directories sv_runsFrom sv_runs sv_read sv_wrong sv_isNamed sv_goes sv_goesSize sv_goesAt sv_targetParts sv_isRoot)), ((ma 1), .inl (cI, 40, .inl fK)), ((ma 9), .inl (cI, 40, .inl fNS)), ((ma 13), .inl (cI, 40, .inl fBs)), ((ma 15), .inl (cI, 40, .inl fEs)), ((ma 17), .inl (cI, 24, .inl fTb))]) [7, 0, 1, 2, 3, 4] (by decide +kernel) rfl
                  have hFc := va_free (wc := [(h0, .inr (11, MO ma sv_thrown sv_length sv_nodes sv_many sv_directories sv_runsFrom sv_runs sv_read sv_wrong sv_isNamed sv_goes sv_goesSize sv_goesAt sv_targetParts sv_isRoot)), ((ma 1), .inl (cI, 40, .inl fK)), ((ma 9), .inl (cI, 40, .inl fNS)), ((ma 13), .inl (cI, 40, .inl fBs)), ((ma 15), .inl (cI, 40, .inl fEs)), ((ma 17), .inl (cI, 24, .inl fTb))]) hD hS hA [7, 0, 1, 2, 3, 4] rfl
                  have hkc : 0 ≤ 0 := by decide
                  have hks : 0 ≤ 0 := by decide
                  refine va_calli (va_runV (C := "DiscMakerModel") (As := [.int 1]) (rest := [.int 4, .int 34948, .ref h0]) ⟨hx, hb, hml, hown, hts⟩ (m_tableSizeF l D cB cI cJ cZ cN cF H.size h0 ma sv_thrown sv_length sv_nodes sv_many sv_directories sv_runsFrom sv_runs sv_read sv_wrong sv_isNamed sv_goes sv_goesSize sv_goesAt sv_targetParts sv_isRoot fK fNS fBs fEs fTb dt Q1 1 (by (try dsimp only); first | assumption | omega | trivial) (by (try dsimp only); first | assumption | omega | trivial) (by (try dsimp only); first | assumption | omega | trivial) ((by rw [show (1 : Int32).toNatClampNeg = 1 by decide]; exact hQ1)) (hQr1) (hlkA) (by (try dsimp only); first | assumption | omega | trivial) (by (try dsimp only); first | assumption | omega | trivial) (by (try dsimp only); first | assumption | omega | trivial) (by (try dsimp only); first | assumption | omega | trivial)) (cwV 1 hts (lg_goodV k1781 k1783 k90 k125 kc_DiscMakerModel_tableSize) rfl rfl rfl (by decide +kernel) ⟨Nat.le_of_ble_eq_true rfl, Nat.le_of_ble_eq_true rfl⟩) ⟨fun a U g mk q => by obtain ⟨q0, q1, qP, qK, qN, qD⟩ := q; exact ⟨q0, q1, qP, va_K.moved (u := U) (U := U.calling g mk a) (Vm.Alike.refl U.vm) qK, qN.calling, qD⟩, va_recv hK hP (ci := 11) (q0 := 7) rfl rfl, fun U hU hW => ⟨rfl, by rw [hU], by rw [hU]; exact hPc, va_K.moved hW.alike hK, NN.warm hW hN, hDc.weaken (fun _ _ _ _ => trivial)⟩⟩ rfl rfl hl.1 rfl (lv_room (Nat.le_of_ble_eq_true rfl)) d_DiscMakerModel_describe_209 ⟨hkc, hks⟩) hS (fun q _ h => hFc q h) hFc (fun r94 u t H1 locs ht hvm hp_r94 hB hz1 hk1 hS => ?_)
                  obtain ⟨hP1, hD1⟩ := hB
                  rw [ht] at hP1
                  obtain ⟨hP, hD⟩ := va_join (wr := [((ma 18), .inl (cI, 80, .inl fSe)), ((ma 19), .inl (cI, 80, .inl fSs)), ((ma 16), .inl (cJ, 46080, .inr (.inl G_92)))]) (w1 := [(h0, .inr (11, MO ma sv_thrown sv_length sv_nodes sv_many sv_directories sv_runsFrom sv_runs sv_read sv_wrong sv_isNamed sv_goes sv_goesSize sv_goesAt sv_targetParts sv_isRoot)), ((ma 1), .inl (cI, 40, .inl fK)), ((ma 9), .inl (cI, 40, .inl fNS)), ((ma 13), .inl (cI, 40, .inl fBs)), ((ma 15), .inl (cI, 40, .inl fEs)), ((ma 17), .inl (cI, 24, .inl fTb))]) hP hD [7, 0, 1, 2, 3, 4] [5, 6, 8] rfl rfl (by decide +kernel) (by decide +kernel) hk1 hFc hP1 hD1
                  clear hPc hDc hFc hP1 hD1 hk1 hz1 hkc hks
                  generalize H1 = H at hP hS ⊢
                  have hP : va_P D CL [((ma 18), .inl (cI, 80, .inl fSe)), ((ma 19), .inl (cI, 80, .inl fSs)), ((ma 16), .inl (cJ, 46080, .inr (.inl G_92))), (h0, .inr (11, MO ma sv_thrown sv_length sv_nodes sv_many sv_directories sv_runsFrom sv_runs sv_read sv_wrong sv_isNamed sv_goes sv_goesSize sv_goesAt sv_targetParts sv_isRoot)), ((ma 1), .inl (cI, 40, .inl fK)), ((ma 9), .inl (cI, 40, .inl fNS)), ((ma 13), .inl (cI, 40, .inl fBs)), ((ma 15), .inl (cI, 40, .inl fEs)), ((ma 17), .inl (cI, 24, .inl fTb))] H := hP
                  have hD : va_D A [((ma 18), .inl (cI, 80, .inl fSe)), ((ma 19), .inl (cI, 80, .inl fSs)), ((ma 16), .inl (cJ, 46080, .inr (.inl G_92))), (h0, .inr (11, MO ma sv_thrown sv_length sv_nodes sv_many sv_directories sv_runsFrom sv_runs sv_read sv_wrong sv_isNamed sv_goes sv_goesSize sv_goesAt sv_targetParts sv_isRoot)), ((ma 1), .inl (cI, 40, .inl fK)), ((ma 9), .inl (cI, 40, .inl fNS)), ((ma 13), .inl (cI, 40, .inl fBs)), ((ma 15), .inl (cI, 40, .inl fEs)), ((ma 17), .inl (cI, 24, .inl fTb))] := hD
                  try dsimp only at hp_r94
                  obtain ⟨hr_95, hv_96⟩ := hp_r94
                  try rw [L_1] at hv_96
                  have hPc := hP.sub (ws' := [(h0, .inr (11, MO ma sv_thrown sv_length sv_nodes sv_many sv_directories sv_runsFrom sv_runs sv_read sv_wrong sv_isNamed sv_goes sv_goesSize sv_goesAt sv_targetParts sv_isRoot)), ((ma 16), .inl (cJ, 46080, .inr (.inl G_92)))]) [3, 2] rfl
                  have hDc := hD.sub (ws' := [(h0, .inr (11, MO ma sv_thrown sv_length sv_nodes sv_many sv_directories sv_runsFrom sv_runs sv_read sv_wrong sv_isNamed sv_goes sv_goesSize sv_goesAt sv_targetParts sv_isRoot)), ((ma 16), .inl (cJ, 46080, .inr (.inl G_92)))]) [3, 2] (by decide +kernel) rfl
                  have hFc := va_free (wc := [(h0, .inr (11, MO ma sv_thrown sv_length sv_nodes sv_many sv_directories sv_runsFrom sv_runs sv_read sv_wrong sv_isNamed sv_goes sv_goesSize sv_goesAt sv_targetParts sv_isRoot)), ((ma 16), .inl (cJ, 46080, .inr (.inl G_92)))]) hD hS hA [3, 2] rfl
                  have hkc : 0 ≤ 0 := by decide
                  have hks : 0 ≤ 0 := by decide
                  refine va_callv (va_runV (C := "DiscMakerModel") (As := [.int 34948, .int 4, .int r94]) (rest := []) ⟨hx, hb, hml, hown, hts⟩ (m_both4F l D cB cI cJ cZ cN cF H.size h0 ma sv_thrown sv_length sv_nodes sv_many sv_directories sv_runsFrom sv_runs sv_read sv_wrong sv_isNamed sv_goes sv_goesSize sv_goesAt sv_targetParts sv_isRoot G_92 34948 r94 (by (try dsimp only); first | assumption | omega | trivial) (by (try dsimp only); first | assumption | omega | trivial)) (cwV 3 hts (lg_goodV k1740 k1742 k81 k125 kc_DiscMakerModel_both) rfl rfl rfl (by decide +kernel) ⟨Nat.le_of_ble_eq_true rfl, Nat.le_of_ble_eq_true rfl⟩) ⟨fun a U g mk q => by obtain ⟨q0, q1, qP, qK, qN, qD⟩ := q; exact ⟨q0, q1, qP, va_K.moved (u := U) (U := U.calling g mk a) (Vm.Alike.refl U.vm) qK, qN.calling, qD⟩, va_recv hK hP (ci := 11) (q0 := 3) rfl rfl, fun U hU hW => ⟨rfl, by rw [hU], by rw [hU]; exact hPc, va_K.moved hW.alike hK, NN.warm hW hN, hDc.weaken (fun _ _ _ _ => trivial)⟩⟩ rfl rfl hl.1 rfl (lv_room (Nat.le_of_ble_eq_true rfl)) d_DiscMakerModel_describe_212 ⟨hkc, hks⟩) hS (fun q _ h => hFc q h) hFc (fun u t H1 locs ht hvm hp_r97 hB hz1 hk1 hS => ?_)
                  obtain ⟨G_98, rfl⟩ : ∃ z, z = u := ⟨_, rfl⟩
                  obtain ⟨hP1, hD1⟩ := hB
                  rw [ht] at hP1
                  obtain ⟨hP, hD⟩ := va_join (wr := [((ma 18), .inl (cI, 80, .inl fSe)), ((ma 19), .inl (cI, 80, .inl fSs)), ((ma 1), .inl (cI, 40, .inl fK)), ((ma 9), .inl (cI, 40, .inl fNS)), ((ma 13), .inl (cI, 40, .inl fBs)), ((ma 15), .inl (cI, 40, .inl fEs)), ((ma 17), .inl (cI, 24, .inl fTb))]) (w1 := [(h0, .inr (11, MO ma sv_thrown sv_length sv_nodes sv_many sv_directories sv_runsFrom sv_runs sv_read sv_wrong sv_isNamed sv_goes sv_goesSize sv_goesAt sv_targetParts sv_isRoot)), ((ma 16), .inl (cJ, 46080, .inr (.inl G_98)))]) hP hD [3, 2] [0, 1, 4, 5, 6, 7, 8] rfl rfl (by decide +kernel) (by decide +kernel) hk1 hFc hP1 hD1
                  clear hPc hDc hFc hP1 hD1 hk1 hz1 hkc hks
                  generalize H1 = H at hP hS ⊢
                  have hP : va_P D CL [((ma 18), .inl (cI, 80, .inl fSe)), ((ma 19), .inl (cI, 80, .inl fSs)), ((ma 1), .inl (cI, 40, .inl fK)), ((ma 9), .inl (cI, 40, .inl fNS)), ((ma 13), .inl (cI, 40, .inl fBs)), ((ma 15), .inl (cI, 40, .inl fEs)), ((ma 17), .inl (cI, 24, .inl fTb)), (h0, .inr (11, MO ma sv_thrown sv_length sv_nodes sv_many sv_directories sv_runsFrom sv_runs sv_read sv_wrong sv_isNamed sv_goes sv_goesSize sv_goesAt sv_targetParts sv_isRoot)), ((ma 16), .inl (cJ, 46080, .inr (.inl G_98)))] H := hP
                  have hD : va_D A [((ma 18), .inl (cI, 80, .inl fSe)), ((ma 19), .inl (cI, 80, .inl fSs)), ((ma 1), .inl (cI, 40, .inl fK)), ((ma 9), .inl (cI, 40, .inl fNS)), ((ma 13), .inl (cI, 40, .inl fBs)), ((ma 15), .inl (cI, 40, .inl fEs)), ((ma 17), .inl (cI, 24, .inl fTb)), (h0, .inr (11, MO ma sv_thrown sv_length sv_nodes sv_many sv_directories sv_runsFrom sv_runs sv_read sv_wrong sv_isNamed sv_goes sv_goesSize sv_goesAt sv_targetParts sv_isRoot)), ((ma 16), .inl (cJ, 46080, .inr (.inl G_98)))] := hD
                  try dsimp only at hp_r97
                  have hw_99 := hp_r97
                  try rw [L_34948] at hw_99
                  refine lv_aload_n hx hb d_DiscMakerModel_describe_215 rfl (lv_at hl 0 rfl) ?_
                  refine lv_iload_n hx hb d_DiscMakerModel_describe_216 rfl (lv_at hl 2 rfl) ?_
                  refine lv_sipush (v := 140) hx hb d_DiscMakerModel_describe_217 (by decide) ?_
                  refine lv_iadd hx hb d_DiscMakerModel_describe_220 ?_
                  refine W.eq (g2 := F0 m 221 ls [.int 34956, .ref h0]) (by rw [show ((34816 : Int32) + 140) = 34956 from by decide]) ?_
                  have L_34956 : (34956 : Int32).toInt = 34956 := by decide
                  refine lv_iconst (v := 4) hx hb d_DiscMakerModel_describe_221 (by decide) ?_
                  refine lv_bipush (v := 19) hx hb d_DiscMakerModel_describe_222 (by decide) ?_
                  refine lv_iconst (v := 2) hx hb d_DiscMakerModel_describe_224 (by decide) ?_
                  refine lv_iload_n hx hb d_DiscMakerModel_describe_225 rfl (lv_at hl 1 rfl) ?_
                  refine lv_imul hx hb d_DiscMakerModel_describe_226 ?_
                  refine W.eq (g2 := F0 m 227 ls [.int 2, .int 19, .int 4, .int 34956, .ref h0]) (by rw [show ((2 : Int32) * 1) = 2 from by decide]) ?_
                  refine lv_iadd hx hb d_DiscMakerModel_describe_227 ?_
                  refine W.eq (g2 := F0 m 228 ls [.int 21, .int 4, .int 34956, .ref h0]) (by rw [show ((19 : Int32) + 2) = 21 from by decide]) ?_
                  have L_21 : (21 : Int32).toInt = 21 := by decide
                  have hPc := hP.sub (ws' := [(h0, .inr (11, MO ma sv_thrown sv_length sv_nodes sv_many sv_directories sv_runsFrom sv_runs sv_read sv_wrong sv_isNamed sv_goes sv_goesSize sv_goesAt sv_targetParts sv_isRoot)), ((ma 16), .inl (cJ, 46080, .inr (.inl G_98)))]) [7, 8] rfl
                  have hDc := hD.sub (ws' := [(h0, .inr (11, MO ma sv_thrown sv_length sv_nodes sv_many sv_directories sv_runsFrom sv_runs sv_read sv_wrong sv_isNamed sv_goes sv_goesSize sv_goesAt sv_targetParts sv_isRoot)), ((ma 16), .inl (cJ, 46080, .inr (.inl G_98)))]) [7, 8] (by decide +kernel) rfl
                  have hFc := va_free (wc := [(h0, .inr (11, MO ma sv_thrown sv_length sv_nodes sv_many sv_directories sv_runsFrom sv_runs sv_read sv_wrong sv_isNamed sv_goes sv_goesSize sv_goesAt sv_targetParts sv_isRoot)), ((ma 16), .inl (cJ, 46080, .inr (.inl G_98)))]) hD hS hA [7, 8] rfl
                  have hkc : 0 ≤ 0 := by decide
                  have hks : 0 ≤ 0 := by decide
                  refine va_callv (va_runV (C := "DiscMakerModel") (As := [.int 34956, .int 4, .int 21]) (rest := []) ⟨hx, hb, hml, hown, hts⟩ (m_low4F l D cB cI cJ cZ cN cF H.size h0 ma sv_thrown sv_length sv_nodes sv_many sv_directories sv_runsFrom sv_runs sv_read sv_wrong sv_isNamed sv_goes sv_goesSize sv_goesAt sv_targetParts sv_isRoot G_98 34956 21 (by (try dsimp only); first | assumption | omega | trivial) (by (try dsimp only); first | assumption | omega | trivial)) (cwV 3 hts (lg_goodV k1744 k1746 k82 k125 kc_DiscMakerModel_low) rfl rfl rfl (by decide +kernel) ⟨Nat.le_of_ble_eq_true rfl, Nat.le_of_ble_eq_true rfl⟩) ⟨fun a U g mk q => by obtain ⟨q0, q1, qP, qK, qN, qD⟩ := q; exact ⟨q0, q1, qP, va_K.moved (u := U) (U := U.calling g mk a) (Vm.Alike.refl U.vm) qK, qN.calling, qD⟩, va_recv hK hP (ci := 11) (q0 := 7) rfl rfl, fun U hU hW => ⟨rfl, by rw [hU], by rw [hU]; exact hPc, va_K.moved hW.alike hK, NN.warm hW hN, hDc.weaken (fun _ _ _ _ => trivial)⟩⟩ rfl rfl hl.1 rfl (lv_room (Nat.le_of_ble_eq_true rfl)) d_DiscMakerModel_describe_228 ⟨hkc, hks⟩) hS (fun q _ h => hFc q h) hFc (fun u t H1 locs ht hvm hp_r100 hB hz1 hk1 hS => ?_)
                  obtain ⟨G_101, rfl⟩ : ∃ z, z = u := ⟨_, rfl⟩
                  obtain ⟨hP1, hD1⟩ := hB
                  rw [ht] at hP1
                  obtain ⟨hP, hD⟩ := va_join (wr := [((ma 18), .inl (cI, 80, .inl fSe)), ((ma 19), .inl (cI, 80, .inl fSs)), ((ma 1), .inl (cI, 40, .inl fK)), ((ma 9), .inl (cI, 40, .inl fNS)), ((ma 13), .inl (cI, 40, .inl fBs)), ((ma 15), .inl (cI, 40, .inl fEs)), ((ma 17), .inl (cI, 24, .inl fTb))]) (w1 := [(h0, .inr (11, MO ma sv_thrown sv_length sv_nodes sv_many sv_directories sv_runsFrom sv_runs sv_read sv_wrong sv_isNamed sv_goes sv_goesSize sv_goesAt sv_targetParts sv_isRoot)), ((ma 16), .inl (cJ, 46080, .inr (.inl G_101)))]) hP hD [7, 8] [0, 1, 2, 3, 4, 5, 6] rfl rfl (by decide +kernel) (by decide +kernel) hk1 hFc hP1 hD1
                  clear hPc hDc hFc hP1 hD1 hk1 hz1 hkc hks
                  generalize H1 = H at hP hS ⊢
                  have hP : va_P D CL [((ma 18), .inl (cI, 80, .inl fSe)), ((ma 19), .inl (cI, 80, .inl fSs)), ((ma 1), .inl (cI, 40, .inl fK)), ((ma 9), .inl (cI, 40, .inl fNS)), ((ma 13), .inl (cI, 40, .inl fBs)), ((ma 15), .inl (cI, 40, .inl fEs)), ((ma 17), .inl (cI, 24, .inl fTb)), (h0, .inr (11, MO ma sv_thrown sv_length sv_nodes sv_many sv_directories sv_runsFrom sv_runs sv_read sv_wrong sv_isNamed sv_goes sv_goesSize sv_goesAt sv_targetParts sv_isRoot)), ((ma 16), .inl (cJ, 46080, .inr (.inl G_101)))] H := hP
                  have hD : va_D A [((ma 18), .inl (cI, 80, .inl fSe)), ((ma 19), .inl (cI, 80, .inl fSs)), ((ma 1), .inl (cI, 40, .inl fK)), ((ma 9), .inl (cI, 40, .inl fNS)), ((ma 13), .inl (cI, 40, .inl fBs)), ((ma 15), .inl (cI, 40, .inl fEs)), ((ma 17), .inl (cI, 24, .inl fTb)), (h0, .inr (11, MO ma sv_thrown sv_length sv_nodes sv_many sv_directories sv_runsFrom sv_runs sv_read sv_wrong sv_isNamed sv_goes sv_goesSize sv_goesAt sv_targetParts sv_isRoot)), ((ma 16), .inl (cJ, 46080, .inr (.inl G_101)))] := hD
                  try dsimp only at hp_r100
                  have hw_102 := hp_r100
                  try rw [L_21] at hw_102
                  try rw [L_34956] at hw_102
                  refine lv_aload_n hx hb d_DiscMakerModel_describe_231 rfl (lv_at hl 0 rfl) ?_
                  refine lv_iload_n hx hb d_DiscMakerModel_describe_232 rfl (lv_at hl 2 rfl) ?_
                  refine lv_sipush (v := 148) hx hb d_DiscMakerModel_describe_233 (by decide) ?_
                  refine lv_iadd hx hb d_DiscMakerModel_describe_236 ?_
                  refine W.eq (g2 := F0 m 237 ls [.int 34964, .ref h0]) (by rw [show ((34816 : Int32) + 148) = 34964 from by decide]) ?_
                  have L_34964 : (34964 : Int32).toInt = 34964 := by decide
                  refine lv_iconst (v := 4) hx hb d_DiscMakerModel_describe_237 (by decide) ?_
                  refine lv_bipush (v := 20) hx hb d_DiscMakerModel_describe_238 (by decide) ?_
                  refine lv_iconst (v := 2) hx hb d_DiscMakerModel_describe_240 (by decide) ?_
                  refine lv_iload_n hx hb d_DiscMakerModel_describe_241 rfl (lv_at hl 1 rfl) ?_
                  refine lv_imul hx hb d_DiscMakerModel_describe_242 ?_
                  refine W.eq (g2 := F0 m 243 ls [.int 2, .int 20, .int 4, .int 34964, .ref h0]) (by rw [show ((2 : Int32) * 1) = 2 from by decide]) ?_
                  refine lv_iadd hx hb d_DiscMakerModel_describe_243 ?_
                  refine W.eq (g2 := F0 m 244 ls [.int 22, .int 4, .int 34964, .ref h0]) (by rw [show ((20 : Int32) + 2) = 22 from by decide]) ?_
                  have L_22 : (22 : Int32).toInt = 22 := by decide
                  have hPc := hP.sub (ws' := [(h0, .inr (11, MO ma sv_thrown sv_length sv_nodes sv_many sv_directories sv_runsFrom sv_runs sv_read sv_wrong sv_isNamed sv_goes sv_goesSize sv_goesAt sv_targetParts sv_isRoot)), ((ma 16), .inl (cJ, 46080, .inr (.inl G_101)))]) [7, 8] rfl
                  have hDc := hD.sub (ws' := [(h0, .inr (11, MO ma sv_thrown sv_length sv_nodes sv_many sv_directories sv_runsFrom sv_runs sv_read sv_wrong sv_isNamed sv_goes sv_goesSize sv_goesAt sv_targetParts sv_isRoot)), ((ma 16), .inl (cJ, 46080, .inr (.inl G_101)))]) [7, 8] (by decide +kernel) rfl
                  have hFc := va_free (wc := [(h0, .inr (11, MO ma sv_thrown sv_length sv_nodes sv_many sv_directories sv_runsFrom sv_runs sv_read sv_wrong sv_isNamed sv_goes sv_goesSize sv_goesAt sv_targetParts sv_isRoot)), ((ma 16), .inl (cJ, 46080, .inr (.inl G_101)))]) hD hS hA [7, 8] rfl
                  have hkc : 0 ≤ 0 := by decide
                  have hks : 0 ≤ 0 := by decide
                  refine va_callv (va_runV (C := "DiscMakerModel") (As := [.int 34964, .int 4, .int 22]) (rest := []) ⟨hx, hb, hml, hown, hts⟩ (m_high4F l D cB cI cJ cZ cN cF H.size h0 ma sv_thrown sv_length sv_nodes sv_many sv_directories sv_runsFrom sv_runs sv_read sv_wrong sv_isNamed sv_goes sv_goesSize sv_goesAt sv_targetParts sv_isRoot G_101 34964 22 (by (try dsimp only); first | assumption | omega | trivial) (by (try dsimp only); first | assumption | omega | trivial)) (cwV 3 hts (lg_goodV k1748 k1750 k83 k125 kc_DiscMakerModel_high) rfl rfl rfl (by decide +kernel) ⟨Nat.le_of_ble_eq_true rfl, Nat.le_of_ble_eq_true rfl⟩) ⟨fun a U g mk q => by obtain ⟨q0, q1, qP, qK, qN, qD⟩ := q; exact ⟨q0, q1, qP, va_K.moved (u := U) (U := U.calling g mk a) (Vm.Alike.refl U.vm) qK, qN.calling, qD⟩, va_recv hK hP (ci := 11) (q0 := 7) rfl rfl, fun U hU hW => ⟨rfl, by rw [hU], by rw [hU]; exact hPc, va_K.moved hW.alike hK, NN.warm hW hN, hDc.weaken (fun _ _ _ _ => trivial)⟩⟩ rfl rfl hl.1 rfl (lv_room (Nat.le_of_ble_eq_true rfl)) d_DiscMakerModel_describe_244 ⟨hkc, hks⟩) hS (fun q _ h => hFc q h) hFc (fun u t H1 locs ht hvm hp_r103 hB hz1 hk1 hS => ?_)
                  obtain ⟨G_104, rfl⟩ : ∃ z, z = u := ⟨_, rfl⟩
                  obtain ⟨hP1, hD1⟩ := hB
                  rw [ht] at hP1
                  obtain ⟨hP, hD⟩ := va_join (wr := [((ma 18), .inl (cI, 80, .inl fSe)), ((ma 19), .inl (cI, 80, .inl fSs)), ((ma 1), .inl (cI, 40, .inl fK)), ((ma 9), .inl (cI, 40, .inl fNS)), ((ma 13), .inl (cI, 40, .inl fBs)), ((ma 15), .inl (cI, 40, .inl fEs)), ((ma 17), .inl (cI, 24, .inl fTb))]) (w1 := [(h0, .inr (11, MO ma sv_thrown sv_length sv_nodes sv_many sv_directories sv_runsFrom sv_runs sv_read sv_wrong sv_isNamed sv_goes sv_goesSize sv_goesAt sv_targetParts sv_isRoot)), ((ma 16), .inl (cJ, 46080, .inr (.inl G_104)))]) hP hD [7, 8] [0, 1, 2, 3, 4, 5, 6] rfl rfl (by decide +kernel) (by decide +kernel) hk1 hFc hP1 hD1
                  clear hPc hDc hFc hP1 hD1 hk1 hz1 hkc hks
                  generalize H1 = H at hP hS ⊢
                  have hP : va_P D CL [((ma 18), .inl (cI, 80, .inl fSe)), ((ma 19), .inl (cI, 80, .inl fSs)), ((ma 1), .inl (cI, 40, .inl fK)), ((ma 9), .inl (cI, 40, .inl fNS)), ((ma 13), .inl (cI, 40, .inl fBs)), ((ma 15), .inl (cI, 40, .inl fEs)), ((ma 17), .inl (cI, 24, .inl fTb)), (h0, .inr (11, MO ma sv_thrown sv_length sv_nodes sv_many sv_directories sv_runsFrom sv_runs sv_read sv_wrong sv_isNamed sv_goes sv_goesSize sv_goesAt sv_targetParts sv_isRoot)), ((ma 16), .inl (cJ, 46080, .inr (.inl G_104)))] H := hP
                  have hD : va_D A [((ma 18), .inl (cI, 80, .inl fSe)), ((ma 19), .inl (cI, 80, .inl fSs)), ((ma 1), .inl (cI, 40, .inl fK)), ((ma 9), .inl (cI, 40, .inl fNS)), ((ma 13), .inl (cI, 40, .inl fBs)), ((ma 15), .inl (cI, 40, .inl fEs)), ((ma 17), .inl (cI, 24, .inl fTb)), (h0, .inr (11, MO ma sv_thrown sv_length sv_nodes sv_many sv_directories sv_runsFrom sv_runs sv_read sv_wrong sv_isNamed sv_goes sv_goesSize sv_goesAt sv_targetParts sv_isRoot)), ((ma 16), .inl (cJ, 46080, .inr (.inl G_104)))] := hD
                  try dsimp only at hp_r103
                  have hw_105 := hp_r103
                  try rw [L_22] at hw_105
                  try rw [L_34964] at hw_105
                  have wt1 := hw_99
                  rw [show r94.toInt = ptS dt 1 Q1 Q1.length by (have h7 := hv_96; (try rw [show (1 : Int32).toInt = 1 by decide] at h7); exact h7)] at wt1
                  have wl1 := hw_102
                  try rw [show (21 : Int32).toInt = 21 by decide] at wl1
                  have wh1 := hw_105
                  try rw [show (22 : Int32).toInt = 22 by decide] at wh1
                  have rt1 := ds_10 (t := 1) (lo := 34816) (hi := 36864) (hz1.sub (by decide) (by decide)) hh1 wa1 hw_75 we1 hw_87 hw_90 hw_93 wt1 wl1 wh1 (by first | exact Or.inr ⟨rfl, rfl⟩ | exact Or.inl ⟨rfl, rfl⟩) rfl rfl (by omega) rfl (by omega) (by omega) (by omega) (by omega) (by omega) (by omega) (by decide)
                  refine lv_aload_n hx hb d_DiscMakerModel_describe_247 rfl (lv_at hl 0 rfl) ?_
                  refine lv_iload_n hx hb d_DiscMakerModel_describe_248 rfl (lv_at hl 1 rfl) ?_
                  refine lv_iload_n hx hb d_DiscMakerModel_describe_249 rfl (lv_at hl 2 rfl) ?_
                  refine lv_sipush (v := 156) hx hb d_DiscMakerModel_describe_250 (by decide) ?_
                  refine lv_iadd hx hb d_DiscMakerModel_describe_253 ?_
                  refine W.eq (g2 := F0 m 254 ls [.int 34972, .int 1, .ref h0]) (by rw [show ((34816 : Int32) + 156) = 34972 from by decide]) ?_
                  have L_34972 : (34972 : Int32).toInt = 34972 := by decide
                  have hPc := hP.sub (ws' := [(h0, .inr (11, MO ma sv_thrown sv_length sv_nodes sv_many sv_directories sv_runsFrom sv_runs sv_read sv_wrong sv_isNamed sv_goes sv_goesSize sv_goesAt sv_targetParts sv_isRoot)), ((ma 16), .inl (cJ, 46080, .inr (.inl G_104))), ((ma 18), .inl (cI, 80, .inl fSe)), ((ma 19), .inl (cI, 80, .inl fSs))]) [7, 8, 0, 1] rfl
                  have hDc := hD.sub (ws' := [(h0, .inr (11, MO ma sv_thrown sv_length sv_nodes sv_many sv_directories sv_runsFrom sv_runs sv_read sv_wrong sv_isNamed sv_goes sv_goesSize sv_goesAt sv_targetParts sv_isRoot)), ((ma 16), .inl (cJ, 46080, .inr (.inl G_104))), ((ma 18), .inl (cI, 80, .inl fSe)), ((ma 19), .inl (cI, 80, .inl fSs))]) [7, 8, 0, 1] (by decide +kernel) rfl
                  have hFc := va_free (wc := [(h0, .inr (11, MO ma sv_thrown sv_length sv_nodes sv_many sv_directories sv_runsFrom sv_runs sv_read sv_wrong sv_isNamed sv_goes sv_goesSize sv_goesAt sv_targetParts sv_isRoot)), ((ma 16), .inl (cJ, 46080, .inr (.inl G_104))), ((ma 18), .inl (cI, 80, .inl fSe)), ((ma 19), .inl (cI, 80, .inl fSs))]) hD hS hA [7, 8, 0, 1] rfl
                  have hkc : 0 ≤ 0 := by decide
                  have hks : 0 ≤ 0 := by decide
                  refine va_callv (va_runV (C := "DiscMakerModel") (As := [.int 1, .int 34972]) (rest := []) ⟨hx, hb, hml, hown, hts⟩ (m_rootRecordF l D cB cI cJ cZ cN cF H.size h0 ma sv_thrown sv_length sv_nodes sv_many sv_directories sv_runsFrom sv_runs sv_read sv_wrong sv_isNamed sv_goes sv_goesSize sv_goesAt sv_targetParts sv_isRoot G_104 fSe fSs (dxE dx 1 0) (dxZ dx 1 0) 36864 1 34972 (by (try dsimp only); first | assumption | omega | trivial) (by (try dsimp only); first | assumption | omega | trivial) (⟨rt1.2.2.sub (by omega) (Int.le_refl _), by omega⟩) ((by rw [show (1 : Int32).toNatClampNeg = 1 by decide]; exact hE1.1)) ((by rw [show (1 : Int32).toNatClampNeg = 1 by decide]; exact hE1.2))) (cwV 2 hts (lg_goodV k1789 k1791 k92 k125 kc_DiscMakerModel_rootRecord) rfl rfl rfl (by decide +kernel) ⟨Nat.le_of_ble_eq_true rfl, Nat.le_of_ble_eq_true rfl⟩) ⟨fun a U g mk q => by obtain ⟨q0, q1, qP, qK, qN, qD⟩ := q; exact ⟨q0, q1, qP, va_K.moved (u := U) (U := U.calling g mk a) (Vm.Alike.refl U.vm) qK, qN.calling, qD⟩, va_recv hK hP (ci := 11) (q0 := 7) rfl rfl, fun U hU hW => ⟨rfl, by rw [hU], by rw [hU]; exact hPc, va_K.moved hW.alike hK, NN.warm hW hN, hDc.weaken (fun _ _ _ _ => trivial)⟩⟩ rfl rfl hl.1 rfl (lv_room (Nat.le_of_ble_eq_true rfl)) d_DiscMakerModel_describe_254 ⟨hkc, hks⟩) hS (fun q _ h => hFc q h) hFc (fun u t H1 locs ht hvm hp_r106 hB hz1 hk1 hS => ?_)
                  obtain ⟨G_107, rfl⟩ : ∃ z, z = u := ⟨_, rfl⟩
                  obtain ⟨hP1, hD1⟩ := hB
                  rw [ht] at hP1
                  obtain ⟨hP, hD⟩ := va_join (wr := [((ma 1), .inl (cI, 40, .inl fK)), ((ma 9), .inl (cI, 40, .inl fNS)), ((ma 13), .inl (cI, 40, .inl fBs)), ((ma 15), .inl (cI, 40, .inl fEs)), ((ma 17), .inl (cI, 24, .inl fTb))]) (w1 := [(h0, .inr (11, MO ma sv_thrown sv_length sv_nodes sv_many sv_directories sv_runsFrom sv_runs sv_read sv_wrong sv_isNamed sv_goes sv_goesSize sv_goesAt sv_targetParts sv_isRoot)), ((ma 16), .inl (cJ, 46080, .inr (.inl G_107))), ((ma 18), .inl (cI, 80, .inl fSe)), ((ma 19), .inl (cI, 80, .inl fSs))]) hP hD [7, 8, 0, 1] [2, 3, 4, 5, 6] rfl rfl (by decide +kernel) (by decide +kernel) hk1 hFc hP1 hD1
                  clear hPc hDc hFc hP1 hD1 hk1 hz1 hkc hks
                  generalize H1 = H at hP hS ⊢
                  have hP : va_P D CL [((ma 1), .inl (cI, 40, .inl fK)), ((ma 9), .inl (cI, 40, .inl fNS)), ((ma 13), .inl (cI, 40, .inl fBs)), ((ma 15), .inl (cI, 40, .inl fEs)), ((ma 17), .inl (cI, 24, .inl fTb)), (h0, .inr (11, MO ma sv_thrown sv_length sv_nodes sv_many sv_directories sv_runsFrom sv_runs sv_read sv_wrong sv_isNamed sv_goes sv_goesSize sv_goesAt sv_targetParts sv_isRoot)), ((ma 16), .inl (cJ, 46080, .inr (.inl G_107))), ((ma 18), .inl (cI, 80, .inl fSe)), ((ma 19), .inl (cI, 80, .inl fSs))] H := hP
                  have hD : va_D A [((ma 1), .inl (cI, 40, .inl fK)), ((ma 9), .inl (cI, 40, .inl fNS)), ((ma 13), .inl (cI, 40, .inl fBs)), ((ma 15), .inl (cI, 40, .inl fEs)), ((ma 17), .inl (cI, 24, .inl fTb)), (h0, .inr (11, MO ma sv_thrown sv_length sv_nodes sv_many sv_directories sv_runsFrom sv_runs sv_read sv_wrong sv_isNamed sv_goes sv_goesSize sv_goesAt sv_targetParts sv_isRoot)), ((ma 16), .inl (cJ, 46080, .inr (.inl G_107))), ((ma 18), .inl (cI, 80, .inl fSe)), ((ma 19), .inl (cI, 80, .inl fSs))] := hD
                  try dsimp only at hp_r106
                  have hw_108 := hp_r106
                  try rw [L_34972] at hw_108
                  have wr1 := (hw_108).1
                  refine lv_sipush (v := 190) hx hb d_DiscMakerModel_describe_257 (by decide) ?_
                  refine lv_istore_n hx hb d_DiscMakerModel_describe_260 rfl hl (by decide) rfl (fun ls hl => ?_)
                  have hl : lv_has ls 4 [(3, .int 190), (0, .ref h0), (1, .int 1), (2, .int 34816)] := hl
                  refine zz_labM (B := fun (lk : Nat) (K : Heap → List Loc → Array Slot → List Value → Prop) => ∀ (kb1 : Int32) (nB1 : Nat → Int64) (H : Heap) (locs : List Loc) (ls : Array Slot), lk = (813 - kb1.toInt).toNat → (190 ≤ kb1.toInt ∧ kb1.toInt ≤ 813) → (BL (bF G_107) (bF nB1) (34816 + 190) (tbL (fun _ => 32) (kb1.toInt - 190).toNat)) → va_P D CL [((ma 1), .inl (cI, 40, .inl fK)), ((ma 9), .inl (cI, 40, .inl fNS)), ((ma 13), .inl (cI, 40, .inl fBs)), ((ma 15), .inl (cI, 40, .inl fEs)), ((ma 17), .inl (cI, 24, .inl fTb)), (h0, .inr (11, MO ma sv_thrown sv_length sv_nodes sv_many sv_directories sv_runsFrom sv_runs sv_read sv_wrong sv_isNamed sv_goes sv_goesSize sv_goesAt sv_targetParts sv_isRoot)), ((ma 16), .inl (cJ, 46080, .inr (.inl nB1))), ((ma 18), .inl (cI, 80, .inl fSe)), ((ma 19), .inl (cI, 80, .inl fSs))] H → va_D A [((ma 1), .inl (cI, 40, .inl fK)), ((ma 9), .inl (cI, 40, .inl fNS)), ((ma 13), .inl (cI, 40, .inl fBs)), ((ma 15), .inl (cI, 40, .inl fEs)), ((ma 17), .inl (cI, 24, .inl fTb)), (h0, .inr (11, MO ma sv_thrown sv_length sv_nodes sv_many sv_directories sv_runsFrom sv_runs sv_read sv_wrong sv_isNamed sv_goes sv_goesSize sv_goesAt sv_targetParts sv_isRoot)), ((ma 16), .inl (cJ, 46080, .inr (.inl nB1))), ((ma 18), .inl (cI, 80, .inl fSe)), ((ma 19), .inl (cI, 80, .inl fSs))] → va_S A s.heap H locs → lv_has ls 4 [(0, .ref h0), (1, .int 1), (2, .int 34816), (3, .int kb1)] → K H locs ls []) 261 ?_ ?_
                  · skip
                    intro lk ih261 kb1 nB1 H locs ls hm261 rkb1 gkb1 hP hD hS hl
                    refine lv_iload_n hx hb d_DiscMakerModel_describe_261 rfl (lv_at hl 3 rfl) ?_
                    refine lv_sipush (v := 813) hx hb d_DiscMakerModel_describe_262 (by decide) ?_
                    refine lv_icmp_ge (tgt := 283) hx hb d_DiscMakerModel_describe_265 (by decide) (fun h_9 => ?_) (fun h_9 => ?_)
                    · skip
                      have g265_307 : 813 ≤ kb1.toInt := (i_le (by decide) rfl).mp h_9
                      have wb1 := gkb1.tbc (m := 623) (by omega)
                      refine lv_iconst (v := 0) hx hb d_DiscMakerModel_describe_283 (by decide) ?_
                      refine lv_istore_n hx hb d_DiscMakerModel_describe_284 rfl hl (by decide) rfl (fun ls hl => ?_)
                      have hl : lv_has ls 4 [(3, .int 0), (0, .ref h0), (1, .int 1), (2, .int 34816)] := hl
                      refine zz_labM (B := fun (lk : Nat) (K : Heap → List Loc → Array Slot → List Value → Prop) => ∀ (kc1 : Int32) (nC1 : Nat → Int64) (H : Heap) (locs : List Loc) (ls : Array Slot), lk = (68 - kc1.toInt).toNat → (0 ≤ kc1.toInt ∧ kc1.toInt ≤ 68) → (BL (bF nB1) (bF nC1) (34816 + 813) (tbL (fun k => if k % 17 < 16 then 48 else 0) (kc1.toInt - 0).toNat)) → va_P D CL [((ma 1), .inl (cI, 40, .inl fK)), ((ma 9), .inl (cI, 40, .inl fNS)), ((ma 13), .inl (cI, 40, .inl fBs)), ((ma 15), .inl (cI, 40, .inl fEs)), ((ma 17), .inl (cI, 24, .inl fTb)), (h0, .inr (11, MO ma sv_thrown sv_length sv_nodes sv_many sv_directories sv_runsFrom sv_runs sv_read sv_wrong sv_isNamed sv_goes sv_goesSize sv_goesAt sv_targetParts sv_isRoot)), ((ma 16), .inl (cJ, 46080, .inr (.inl nC1))), ((ma 18), .inl (cI, 80, .inl fSe)), ((ma 19), .inl (cI, 80, .inl fSs))] H → va_D A [((ma 1), .inl (cI, 40, .inl fK)), ((ma 9), .inl (cI, 40, .inl fNS)), ((ma 13), .inl (cI, 40, .inl fBs)), ((ma 15), .inl (cI, 40, .inl fEs)), ((ma 17), .inl (cI, 24, .inl fTb)), (h0, .inr (11, MO ma sv_thrown sv_length sv_nodes sv_many sv_directories sv_runsFrom sv_runs sv_read sv_wrong sv_isNamed sv_goes sv_goesSize sv_goesAt sv_targetParts sv_isRoot)), ((ma 16), .inl (cJ, 46080, .inr (.inl nC1))), ((ma 18), .inl (cI, 80, .inl fSe)), ((ma 19), .inl (cI, 80, .inl fSs))] → va_S A s.heap H locs → lv_has ls 4 [(0, .ref h0), (1, .int 1), (2, .int 34816), (3, .int kc1)] → K H locs ls []) 285 ?_ ?_
                      · skip
                        intro lk ih285 kc1 nC1 H locs ls hm285 rkc1 gkc1 hP hD hS hl
                        refine lv_iload_n hx hb d_DiscMakerModel_describe_285 rfl (lv_at hl 3 rfl) ?_
                        refine lv_bipush (v := 68) hx hb d_DiscMakerModel_describe_286 (by decide) ?_
                        refine lv_icmp_ge (tgt := 323) hx hb d_DiscMakerModel_describe_288 (by decide) (fun h_9 => ?_) (fun h_9 => ?_)
                        · skip
                          have g288_312 : 68 ≤ kc1.toInt := (i_le (by decide) rfl).mp h_9
                          have wz1 := gkc1
                          rw [show (kc1.toInt - 0).toNat = 68 by omega] at wz1
                          refine lv_aload_n hx hb d_DiscMakerModel_describe_323 rfl (lv_at hl 0 rfl) ?_
                          refine lv_iload_n hx hb d_DiscMakerModel_describe_324 rfl (lv_at hl 2 rfl) ?_
                          refine lv_sipush (v := 881) hx hb d_DiscMakerModel_describe_325 (by decide) ?_
                          refine lv_iadd hx hb d_DiscMakerModel_describe_328 ?_
                          refine W.eq (g2 := F0 m 329 ls [.int 35697, .ref h0]) (by rw [show ((34816 : Int32) + 881) = 35697 from by decide]) ?_
                          have L_35697 : (35697 : Int32).toInt = 35697 := by decide
                          refine lv_iconst (v := 1) hx hb d_DiscMakerModel_describe_329 (by decide) ?_
                          have hPc := hP.sub (ws' := [(h0, .inr (11, MO ma sv_thrown sv_length sv_nodes sv_many sv_directories sv_runsFrom sv_runs sv_read sv_wrong sv_isNamed sv_goes sv_goesSize sv_goesAt sv_targetParts sv_isRoot)), ((ma 16), .inl (cJ, 46080, .inr (.inl nC1)))]) [5, 6] rfl
                          have hDc := hD.sub (ws' := [(h0, .inr (11, MO ma sv_thrown sv_length sv_nodes sv_many sv_directories sv_runsFrom sv_runs sv_read sv_wrong sv_isNamed sv_goes sv_goesSize sv_goesAt sv_targetParts sv_isRoot)), ((ma 16), .inl (cJ, 46080, .inr (.inl nC1)))]) [5, 6] (by decide +kernel) rfl
                          have hFc := va_free (wc := [(h0, .inr (11, MO ma sv_thrown sv_length sv_nodes sv_many sv_directories sv_runsFrom sv_runs sv_read sv_wrong sv_isNamed sv_goes sv_goesSize sv_goesAt sv_targetParts sv_isRoot)), ((ma 16), .inl (cJ, 46080, .inr (.inl nC1)))]) hD hS hA [5, 6] rfl
                          have hkc : 0 ≤ 0 := by decide
                          have hks : 0 ≤ 0 := by decide
                          refine va_callv (va_runV (C := "DiscMakerModel") (As := [.int 35697, .int 1]) (rest := []) ⟨hx, hb, hml, hown, hts⟩ (m_setF l D cB cI cJ cZ cN cF H.size h0 ma sv_thrown sv_length sv_nodes sv_many sv_directories sv_runsFrom sv_runs sv_read sv_wrong sv_isNamed sv_goes sv_goesSize sv_goesAt sv_targetParts sv_isRoot nC1 35697 1 (by (try dsimp only); first | assumption | omega | trivial) (by (try dsimp only); first | assumption | omega | trivial)) (cwV 2 hts (lg_goodV k1727 k1729 k79 k125 kc_DiscMakerModel_set) rfl rfl rfl (by decide +kernel) ⟨Nat.le_of_ble_eq_true rfl, Nat.le_of_ble_eq_true rfl⟩) ⟨fun a U g mk q => by obtain ⟨q0, q1, qP, qK, qN, qD⟩ := q; exact ⟨q0, q1, qP, va_K.moved (u := U) (U := U.calling g mk a) (Vm.Alike.refl U.vm) qK, qN.calling, qD⟩, va_recv hK hP (ci := 11) (q0 := 5) rfl rfl, fun U hU hW => ⟨rfl, by rw [hU], by rw [hU]; exact hPc, va_K.moved hW.alike hK, NN.warm hW hN, hDc.weaken (fun _ _ _ _ => trivial)⟩⟩ rfl rfl hl.1 rfl (lv_room (Nat.le_of_ble_eq_true rfl)) d_DiscMakerModel_describe_330 ⟨hkc, hks⟩) hS (fun q _ h => hFc q h) hFc (fun u t H1 locs ht hvm hp_r109 hB hz1 hk1 hS => ?_)
                          obtain ⟨G_110, rfl⟩ : ∃ z, z = u := ⟨_, rfl⟩
                          obtain ⟨hP1, hD1⟩ := hB
                          rw [ht] at hP1
                          obtain ⟨hP, hD⟩ := va_join (wr := [((ma 1), .inl (cI, 40, .inl fK)), ((ma 9), .inl (cI, 40, .inl fNS)), ((ma 13), .inl (cI, 40, .inl fBs)), ((ma 15), .inl (cI, 40, .inl fEs)), ((ma 17), .inl (cI, 24, .inl fTb)), ((ma 18), .inl (cI, 80, .inl fSe)), ((ma 19), .inl (cI, 80, .inl fSs))]) (w1 := [(h0, .inr (11, MO ma sv_thrown sv_length sv_nodes sv_many sv_directories sv_runsFrom sv_runs sv_read sv_wrong sv_isNamed sv_goes sv_goesSize sv_goesAt sv_targetParts sv_isRoot)), ((ma 16), .inl (cJ, 46080, .inr (.inl G_110)))]) hP hD [5, 6] [0, 1, 2, 3, 4, 7, 8] rfl rfl (by decide +kernel) (by decide +kernel) hk1 hFc hP1 hD1
                          clear hPc hDc hFc hP1 hD1 hk1 hz1 hkc hks
                          generalize H1 = H at hP hS ⊢
                          have hP : va_P D CL [((ma 1), .inl (cI, 40, .inl fK)), ((ma 9), .inl (cI, 40, .inl fNS)), ((ma 13), .inl (cI, 40, .inl fBs)), ((ma 15), .inl (cI, 40, .inl fEs)), ((ma 17), .inl (cI, 24, .inl fTb)), ((ma 18), .inl (cI, 80, .inl fSe)), ((ma 19), .inl (cI, 80, .inl fSs)), (h0, .inr (11, MO ma sv_thrown sv_length sv_nodes sv_many sv_directories sv_runsFrom sv_runs sv_read sv_wrong sv_isNamed sv_goes sv_goesSize sv_goesAt sv_targetParts sv_isRoot)), ((ma 16), .inl (cJ, 46080, .inr (.inl G_110)))] H := hP
                          have hD : va_D A [((ma 1), .inl (cI, 40, .inl fK)), ((ma 9), .inl (cI, 40, .inl fNS)), ((ma 13), .inl (cI, 40, .inl fBs)), ((ma 15), .inl (cI, 40, .inl fEs)), ((ma 17), .inl (cI, 24, .inl fTb)), ((ma 18), .inl (cI, 80, .inl fSe)), ((ma 19), .inl (cI, 80, .inl fSs)), (h0, .inr (11, MO ma sv_thrown sv_length sv_nodes sv_many sv_directories sv_runsFrom sv_runs sv_read sv_wrong sv_isNamed sv_goes sv_goesSize sv_goesAt sv_targetParts sv_isRoot)), ((ma 16), .inl (cJ, 46080, .inr (.inl G_110)))] := hD
                          try dsimp only at hp_r109
                          have hw_111 := hp_r109
                          try rw [L_1] at hw_111
                          try rw [L_35697] at hw_111
                          have rd1 := ds_M (ds_12 rt1 wr1 wb1 (by omega) rfl) wz1 hw_111 rfl (by omega)
                          have hb1 := rd1.1
                          have hz2 := hz1.sub (c := 36864) (d := 38912) (by decide) (by decide)
                          have hz2 := hz2.bl hb1 (Or.inl (by rw [show ((_ : List Int).length : Int) = 882 from rd1.2.1]; decide))
                          refine lv_iinc (v := 2) hx hb d_DiscMakerModel_describe_333 hl (k := 1) rfl (by decide) (by decide +kernel) rfl (fun ls hl => ?_)
                          have hl : lv_has ls 4 [(1, .int 2), (0, .ref h0), (2, .int 34816), (3, .int kc1)] := hl
                          refine lv_goto (tgt := 2) hx hb d_DiscMakerModel_describe_336 (by decide) ?_
                          refine lv_iload_n hx hb d_DiscMakerModel_describe_2 rfl (lv_at hl 0 rfl) ?_
                          refine lv_iconst (v := 3) hx hb d_DiscMakerModel_describe_3 (by decide) ?_
                          refine lv_icmp_ge (tgt := 339) hx hb d_DiscMakerModel_describe_4 (by decide) (fun h_9 => absurd h_9 (by decide)) (fun _ => ?_)
                          refine lv_sipush (v := 2048) hx hb d_DiscMakerModel_describe_7 (by decide) ?_
                          refine lv_bipush (v := 16) hx hb d_DiscMakerModel_describe_10 (by decide) ?_
                          refine lv_iload_n hx hb d_DiscMakerModel_describe_12 rfl (lv_at hl 0 rfl) ?_
                          refine lv_iadd hx hb d_DiscMakerModel_describe_13 ?_
                          refine W.eq (g2 := F0 m 14 ls [.int 18, .int 2048]) (by rw [show ((16 : Int32) + 2) = 18 from by decide]) ?_
                          have L_18 : (18 : Int32).toInt = 18 := by decide
                          refine lv_imul hx hb d_DiscMakerModel_describe_14 ?_
                          refine W.eq (g2 := F0 m 15 ls [.int 36864]) (by rw [show ((2048 : Int32) * 18) = 36864 from by decide]) ?_
                          have L_36864 : (36864 : Int32).toInt = 36864 := by decide
                          refine lv_istore_n hx hb d_DiscMakerModel_describe_15 rfl hl (by decide) rfl (fun ls hl => ?_)
                          have hl : lv_has ls 4 [(2, .int 36864), (1, .int 2), (0, .ref h0), (3, .int kc1)] := hl
                          refine lv_aload_n hx hb d_DiscMakerModel_describe_16 rfl (lv_at hl 2 rfl) ?_
                          refine lv_iload_n hx hb d_DiscMakerModel_describe_17 rfl (lv_at hl 0 rfl) ?_
                          refine lv_iload_n hx hb d_DiscMakerModel_describe_18 rfl (lv_at hl 1 rfl) ?_
                          refine lv_iconst (v := 2) hx hb d_DiscMakerModel_describe_19 (by decide) ?_
                          refine lv_icmp_ge (tgt := 29) hx hb d_DiscMakerModel_describe_20 (by decide) (fun _ => ?_) (fun h_9 => absurd (by decide) h_9)
                          refine lv_sipush (v := 255) hx hb d_DiscMakerModel_describe_29 (by decide) ?_
                          have hPc := hP.sub (ws' := [(h0, .inr (11, MO ma sv_thrown sv_length sv_nodes sv_many sv_directories sv_runsFrom sv_runs sv_read sv_wrong sv_isNamed sv_goes sv_goesSize sv_goesAt sv_targetParts sv_isRoot)), ((ma 16), .inl (cJ, 46080, .inr (.inl G_110)))]) [7, 8] rfl
                          have hDc := hD.sub (ws' := [(h0, .inr (11, MO ma sv_thrown sv_length sv_nodes sv_many sv_directories sv_runsFrom sv_runs sv_read sv_wrong sv_isNamed sv_goes sv_goesSize sv_goesAt sv_targetParts sv_isRoot)), ((ma 16), .inl (cJ, 46080, .inr (.inl G_110)))]) [7, 8] (by decide +kernel) rfl
                          have hFc := va_free (wc := [(h0, .inr (11, MO ma sv_thrown sv_length sv_nodes sv_many sv_directories sv_runsFrom sv_runs sv_read sv_wrong sv_isNamed sv_goes sv_goesSize sv_goesAt sv_targetParts sv_isRoot)), ((ma 16), .inl (cJ, 46080, .inr (.inl G_110)))]) hD hS hA [7, 8] rfl
                          have hkc : 0 ≤ 0 := by decide
                          have hks : 0 ≤ 0 := by decide
                          refine va_callv (va_runV (C := "DiscMakerModel") (As := [.int 36864, .int 255]) (rest := []) ⟨hx, hb, hml, hown, hts⟩ (m_setF l D cB cI cJ cZ cN cF H.size h0 ma sv_thrown sv_length sv_nodes sv_many sv_directories sv_runsFrom sv_runs sv_read sv_wrong sv_isNamed sv_goes sv_goesSize sv_goesAt sv_targetParts sv_isRoot G_110 36864 255 (by (try dsimp only); first | assumption | omega | trivial) (by (try dsimp only); first | assumption | omega | trivial)) (cwV 2 hts (lg_goodV k1727 k1729 k79 k125 kc_DiscMakerModel_set) rfl rfl rfl (by decide +kernel) ⟨Nat.le_of_ble_eq_true rfl, Nat.le_of_ble_eq_true rfl⟩) ⟨fun a U g mk q => by obtain ⟨q0, q1, qP, qK, qN, qD⟩ := q; exact ⟨q0, q1, qP, va_K.moved (u := U) (U := U.calling g mk a) (Vm.Alike.refl U.vm) qK, qN.calling, qD⟩, va_recv hK hP (ci := 11) (q0 := 7) rfl rfl, fun U hU hW => ⟨rfl, by rw [hU], by rw [hU]; exact hPc, va_K.moved hW.alike hK, NN.warm hW hN, hDc.weaken (fun _ _ _ _ => trivial)⟩⟩ rfl rfl hl.1 rfl (lv_room (Nat.le_of_ble_eq_true rfl)) d_DiscMakerModel_describe_32 ⟨hkc, hks⟩) hS (fun q _ h => hFc q h) hFc (fun u t H1 locs ht hvm hp_r112 hB hz1 hk1 hS => ?_)
                          obtain ⟨G_113, rfl⟩ : ∃ z, z = u := ⟨_, rfl⟩
                          obtain ⟨hP1, hD1⟩ := hB
                          rw [ht] at hP1
                          obtain ⟨hP, hD⟩ := va_join (wr := [((ma 1), .inl (cI, 40, .inl fK)), ((ma 9), .inl (cI, 40, .inl fNS)), ((ma 13), .inl (cI, 40, .inl fBs)), ((ma 15), .inl (cI, 40, .inl fEs)), ((ma 17), .inl (cI, 24, .inl fTb)), ((ma 18), .inl (cI, 80, .inl fSe)), ((ma 19), .inl (cI, 80, .inl fSs))]) (w1 := [(h0, .inr (11, MO ma sv_thrown sv_length sv_nodes sv_many sv_directories sv_runsFrom sv_runs sv_read sv_wrong sv_isNamed sv_goes sv_goesSize sv_goesAt sv_targetParts sv_isRoot)), ((ma 16), .inl (cJ, 46080, .inr (.inl G_113)))]) hP hD [7, 8] [0, 1, 2, 3, 4, 5, 6] rfl rfl (by decide +kernel) (by decide +kernel) hk1 hFc hP1 hD1
                          clear hPc hDc hFc hP1 hD1 hk1 hz1 hkc hks
                          generalize H1 = H at hP hS ⊢
                          have hP : va_P D CL [((ma 1), .inl (cI, 40, .inl fK)), ((ma 9), .inl (cI, 40, .inl fNS)), ((ma 13), .inl (cI, 40, .inl fBs)), ((ma 15), .inl (cI, 40, .inl fEs)), ((ma 17), .inl (cI, 24, .inl fTb)), ((ma 18), .inl (cI, 80, .inl fSe)), ((ma 19), .inl (cI, 80, .inl fSs)), (h0, .inr (11, MO ma sv_thrown sv_length sv_nodes sv_many sv_directories sv_runsFrom sv_runs sv_read sv_wrong sv_isNamed sv_goes sv_goesSize sv_goesAt sv_targetParts sv_isRoot)), ((ma 16), .inl (cJ, 46080, .inr (.inl G_113)))] H := hP
                          have hD : va_D A [((ma 1), .inl (cI, 40, .inl fK)), ((ma 9), .inl (cI, 40, .inl fNS)), ((ma 13), .inl (cI, 40, .inl fBs)), ((ma 15), .inl (cI, 40, .inl fEs)), ((ma 17), .inl (cI, 24, .inl fTb)), ((ma 18), .inl (cI, 80, .inl fSe)), ((ma 19), .inl (cI, 80, .inl fSs)), (h0, .inr (11, MO ma sv_thrown sv_length sv_nodes sv_many sv_directories sv_runsFrom sv_runs sv_read sv_wrong sv_isNamed sv_goes sv_goesSize sv_goesAt sv_targetParts sv_isRoot)), ((ma 16), .inl (cJ, 46080, .inr (.inl G_113)))] := hD
                          try dsimp only at hp_r112
                          have hw_114 := hp_r112
                          try rw [L_255] at hw_114
                          try rw [L_36864] at hw_114
                          refine lv_aload_n hx hb d_DiscMakerModel_describe_35 rfl (lv_at hl 2 rfl) ?_
                          refine lv_iload_n hx hb d_DiscMakerModel_describe_36 rfl (lv_at hl 0 rfl) ?_
                          refine lv_iconst (v := 1) hx hb d_DiscMakerModel_describe_37 (by decide) ?_
                          refine lv_iadd hx hb d_DiscMakerModel_describe_38 ?_
                          refine W.eq (g2 := F0 m 39 ls [.int 36865, .ref h0]) (by rw [show ((36864 : Int32) + 1) = 36865 from by decide]) ?_
                          have L_36865 : (36865 : Int32).toInt = 36865 := by decide
                          refine lv_bipush (v := 67) hx hb d_DiscMakerModel_describe_39 (by decide) ?_
                          have hPc := hP.sub (ws' := [(h0, .inr (11, MO ma sv_thrown sv_length sv_nodes sv_many sv_directories sv_runsFrom sv_runs sv_read sv_wrong sv_isNamed sv_goes sv_goesSize sv_goesAt sv_targetParts sv_isRoot)), ((ma 16), .inl (cJ, 46080, .inr (.inl G_113)))]) [7, 8] rfl
                          have hDc := hD.sub (ws' := [(h0, .inr (11, MO ma sv_thrown sv_length sv_nodes sv_many sv_directories sv_runsFrom sv_runs sv_read sv_wrong sv_isNamed sv_goes sv_goesSize sv_goesAt sv_targetParts sv_isRoot)), ((ma 16), .inl (cJ, 46080, .inr (.inl G_113)))]) [7, 8] (by decide +kernel) rfl
                          have hFc := va_free (wc := [(h0, .inr (11, MO ma sv_thrown sv_length sv_nodes sv_many sv_directories sv_runsFrom sv_runs sv_read sv_wrong sv_isNamed sv_goes sv_goesSize sv_goesAt sv_targetParts sv_isRoot)), ((ma 16), .inl (cJ, 46080, .inr (.inl G_113)))]) hD hS hA [7, 8] rfl
                          have hkc : 0 ≤ 0 := by decide
                          have hks : 0 ≤ 0 := by decide
                          refine va_callv (va_runV (C := "DiscMakerModel") (As := [.int 36865, .int 67]) (rest := []) ⟨hx, hb, hml, hown, hts⟩ (m_setF l D cB cI cJ cZ cN cF H.size h0 ma sv_thrown sv_length sv_nodes sv_many sv_directories sv_runsFrom sv_runs sv_read sv_wrong sv_isNamed sv_goes sv_goesSize sv_goesAt sv_targetParts sv_isRoot G_113 36865 67 (by (try dsimp only); first | assumption | omega | trivial) (by (try dsimp only); first | assumption | omega | trivial)) (cwV 2 hts (lg_goodV k1727 k1729 k79 k125 kc_DiscMakerModel_set) rfl rfl rfl (by decide +kernel) ⟨Nat.le_of_ble_eq_true rfl, Nat.le_of_ble_eq_true rfl⟩) ⟨fun a U g mk q => by obtain ⟨q0, q1, qP, qK, qN, qD⟩ := q; exact ⟨q0, q1, qP, va_K.moved (u := U) (U := U.calling g mk a) (Vm.Alike.refl U.vm) qK, qN.calling, qD⟩, va_recv hK hP (ci := 11) (q0 := 7) rfl rfl, fun U hU hW => ⟨rfl, by rw [hU], by rw [hU]; exact hPc, va_K.moved hW.alike hK, NN.warm hW hN, hDc.weaken (fun _ _ _ _ => trivial)⟩⟩ rfl rfl hl.1 rfl (lv_room (Nat.le_of_ble_eq_true rfl)) d_DiscMakerModel_describe_41 ⟨hkc, hks⟩) hS (fun q _ h => hFc q h) hFc (fun u t H1 locs ht hvm hp_r115 hB hz1 hk1 hS => ?_)
                          obtain ⟨G_116, rfl⟩ : ∃ z, z = u := ⟨_, rfl⟩
                          obtain ⟨hP1, hD1⟩ := hB
                          rw [ht] at hP1
                          obtain ⟨hP, hD⟩ := va_join (wr := [((ma 1), .inl (cI, 40, .inl fK)), ((ma 9), .inl (cI, 40, .inl fNS)), ((ma 13), .inl (cI, 40, .inl fBs)), ((ma 15), .inl (cI, 40, .inl fEs)), ((ma 17), .inl (cI, 24, .inl fTb)), ((ma 18), .inl (cI, 80, .inl fSe)), ((ma 19), .inl (cI, 80, .inl fSs))]) (w1 := [(h0, .inr (11, MO ma sv_thrown sv_length sv_nodes sv_many sv_directories sv_runsFrom sv_runs sv_read sv_wrong sv_isNamed sv_goes sv_goesSize sv_goesAt sv_targetParts sv_isRoot)), ((ma 16), .inl (cJ, 46080, .inr (.inl G_116)))]) hP hD [7, 8] [0, 1, 2, 3, 4, 5, 6] rfl rfl (by decide +kernel) (by decide +kernel) hk1 hFc hP1 hD1
                          clear hPc hDc hFc hP1 hD1 hk1 hz1 hkc hks
                          generalize H1 = H at hP hS ⊢
                          have hP : va_P D CL [((ma 1), .inl (cI, 40, .inl fK)), ((ma 9), .inl (cI, 40, .inl fNS)), ((ma 13), .inl (cI, 40, .inl fBs)), ((ma 15), .inl (cI, 40, .inl fEs)), ((ma 17), .inl (cI, 24, .inl fTb)), ((ma 18), .inl (cI, 80, .inl fSe)), ((ma 19), .inl (cI, 80, .inl fSs)), (h0, .inr (11, MO ma sv_thrown sv_length sv_nodes sv_many sv_directories sv_runsFrom sv_runs sv_read sv_wrong sv_isNamed sv_goes sv_goesSize sv_goesAt sv_targetParts sv_isRoot)), ((ma 16), .inl (cJ, 46080, .inr (.inl G_116)))] H := hP
                          have hD : va_D A [((ma 1), .inl (cI, 40, .inl fK)), ((ma 9), .inl (cI, 40, .inl fNS)), ((ma 13), .inl (cI, 40, .inl fBs)), ((ma 15), .inl (cI, 40, .inl fEs)), ((ma 17), .inl (cI, 24, .inl fTb)), ((ma 18), .inl (cI, 80, .inl fSe)), ((ma 19), .inl (cI, 80, .inl fSs)), (h0, .inr (11, MO ma sv_thrown sv_length sv_nodes sv_many sv_directories sv_runsFrom sv_runs sv_read sv_wrong sv_isNamed sv_goes sv_goesSize sv_goesAt sv_targetParts sv_isRoot)), ((ma 16), .inl (cJ, 46080, .inr (.inl G_116)))] := hD
                          try dsimp only at hp_r115
                          have hw_117 := hp_r115
                          try rw [L_67] at hw_117
                          try rw [L_36865] at hw_117
                          refine lv_aload_n hx hb d_DiscMakerModel_describe_44 rfl (lv_at hl 2 rfl) ?_
                          refine lv_iload_n hx hb d_DiscMakerModel_describe_45 rfl (lv_at hl 0 rfl) ?_
                          refine lv_iconst (v := 2) hx hb d_DiscMakerModel_describe_46 (by decide) ?_
                          refine lv_iadd hx hb d_DiscMakerModel_describe_47 ?_
                          refine W.eq (g2 := F0 m 48 ls [.int 36866, .ref h0]) (by rw [show ((36864 : Int32) + 2) = 36866 from by decide]) ?_
                          have L_36866 : (36866 : Int32).toInt = 36866 := by decide
                          refine lv_bipush (v := 68) hx hb d_DiscMakerModel_describe_48 (by decide) ?_
                          have hPc := hP.sub (ws' := [(h0, .inr (11, MO ma sv_thrown sv_length sv_nodes sv_many sv_directories sv_runsFrom sv_runs sv_read sv_wrong sv_isNamed sv_goes sv_goesSize sv_goesAt sv_targetParts sv_isRoot)), ((ma 16), .inl (cJ, 46080, .inr (.inl G_116)))]) [7, 8] rfl
                          have hDc := hD.sub (ws' := [(h0, .inr (11, MO ma sv_thrown sv_length sv_nodes sv_many sv_directories sv_runsFrom sv_runs sv_read sv_wrong sv_isNamed sv_goes sv_goesSize sv_goesAt sv_targetParts sv_isRoot)), ((ma 16), .inl (cJ, 46080, .inr (.inl G_116)))]) [7, 8] (by decide +kernel) rfl
                          have hFc := va_free (wc := [(h0, .inr (11, MO ma sv_thrown sv_length sv_nodes sv_many sv_directories sv_runsFrom sv_runs sv_read sv_wrong sv_isNamed sv_goes sv_goesSize sv_goesAt sv_targetParts sv_isRoot)), ((ma 16), .inl (cJ, 46080, .inr (.inl G_116)))]) hD hS hA [7, 8] rfl
                          have hkc : 0 ≤ 0 := by decide
                          have hks : 0 ≤ 0 := by decide
                          refine va_callv (va_runV (C := "DiscMakerModel") (As := [.int 36866, .int 68]) (rest := []) ⟨hx, hb, hml, hown, hts⟩ (m_setF l D cB cI cJ cZ cN cF H.size h0 ma sv_thrown sv_length sv_nodes sv_many sv_directories sv_runsFrom sv_runs sv_read sv_wrong sv_isNamed sv_goes sv_goesSize sv_goesAt sv_targetParts sv_isRoot G_116 36866 68 (by (try dsimp only); first | assumption | omega | trivial) (by (try dsimp only); first | assumption | omega | trivial)) (cwV 2 hts (lg_goodV k1727 k1729 k79 k125 kc_DiscMakerModel_set) rfl rfl rfl (by decide +kernel) ⟨Nat.le_of_ble_eq_true rfl, Nat.le_of_ble_eq_true rfl⟩) ⟨fun a U g mk q => by obtain ⟨q0, q1, qP, qK, qN, qD⟩ := q; exact ⟨q0, q1, qP, va_K.moved (u := U) (U := U.calling g mk a) (Vm.Alike.refl U.vm) qK, qN.calling, qD⟩, va_recv hK hP (ci := 11) (q0 := 7) rfl rfl, fun U hU hW => ⟨rfl, by rw [hU], by rw [hU]; exact hPc, va_K.moved hW.alike hK, NN.warm hW hN, hDc.weaken (fun _ _ _ _ => trivial)⟩⟩ rfl rfl hl.1 rfl (lv_room (Nat.le_of_ble_eq_true rfl)) d_DiscMakerModel_describe_50 ⟨hkc, hks⟩) hS (fun q _ h => hFc q h) hFc (fun u t H1 locs ht hvm hp_r118 hB hz1 hk1 hS => ?_)
                          obtain ⟨G_119, rfl⟩ : ∃ z, z = u := ⟨_, rfl⟩
                          obtain ⟨hP1, hD1⟩ := hB
                          rw [ht] at hP1
                          obtain ⟨hP, hD⟩ := va_join (wr := [((ma 1), .inl (cI, 40, .inl fK)), ((ma 9), .inl (cI, 40, .inl fNS)), ((ma 13), .inl (cI, 40, .inl fBs)), ((ma 15), .inl (cI, 40, .inl fEs)), ((ma 17), .inl (cI, 24, .inl fTb)), ((ma 18), .inl (cI, 80, .inl fSe)), ((ma 19), .inl (cI, 80, .inl fSs))]) (w1 := [(h0, .inr (11, MO ma sv_thrown sv_length sv_nodes sv_many sv_directories sv_runsFrom sv_runs sv_read sv_wrong sv_isNamed sv_goes sv_goesSize sv_goesAt sv_targetParts sv_isRoot)), ((ma 16), .inl (cJ, 46080, .inr (.inl G_119)))]) hP hD [7, 8] [0, 1, 2, 3, 4, 5, 6] rfl rfl (by decide +kernel) (by decide +kernel) hk1 hFc hP1 hD1
                          clear hPc hDc hFc hP1 hD1 hk1 hz1 hkc hks
                          generalize H1 = H at hP hS ⊢
                          have hP : va_P D CL [((ma 1), .inl (cI, 40, .inl fK)), ((ma 9), .inl (cI, 40, .inl fNS)), ((ma 13), .inl (cI, 40, .inl fBs)), ((ma 15), .inl (cI, 40, .inl fEs)), ((ma 17), .inl (cI, 24, .inl fTb)), ((ma 18), .inl (cI, 80, .inl fSe)), ((ma 19), .inl (cI, 80, .inl fSs)), (h0, .inr (11, MO ma sv_thrown sv_length sv_nodes sv_many sv_directories sv_runsFrom sv_runs sv_read sv_wrong sv_isNamed sv_goes sv_goesSize sv_goesAt sv_targetParts sv_isRoot)), ((ma 16), .inl (cJ, 46080, .inr (.inl G_119)))] H := hP
                          have hD : va_D A [((ma 1), .inl (cI, 40, .inl fK)), ((ma 9), .inl (cI, 40, .inl fNS)), ((ma 13), .inl (cI, 40, .inl fBs)), ((ma 15), .inl (cI, 40, .inl fEs)), ((ma 17), .inl (cI, 24, .inl fTb)), ((ma 18), .inl (cI, 80, .inl fSe)), ((ma 19), .inl (cI, 80, .inl fSs)), (h0, .inr (11, MO ma sv_thrown sv_length sv_nodes sv_many sv_directories sv_runsFrom sv_runs sv_read sv_wrong sv_isNamed sv_goes sv_goesSize sv_goesAt sv_targetParts sv_isRoot)), ((ma 16), .inl (cJ, 46080, .inr (.inl G_119)))] := hD
                          try dsimp only at hp_r118
                          have hw_120 := hp_r118
                          try rw [L_68] at hw_120
                          try rw [L_36866] at hw_120
                          refine lv_aload_n hx hb d_DiscMakerModel_describe_53 rfl (lv_at hl 2 rfl) ?_
                          refine lv_iload_n hx hb d_DiscMakerModel_describe_54 rfl (lv_at hl 0 rfl) ?_
                          refine lv_iconst (v := 3) hx hb d_DiscMakerModel_describe_55 (by decide) ?_
                          refine lv_iadd hx hb d_DiscMakerModel_describe_56 ?_
                          refine W.eq (g2 := F0 m 57 ls [.int 36867, .ref h0]) (by rw [show ((36864 : Int32) + 3) = 36867 from by decide]) ?_
                          have L_36867 : (36867 : Int32).toInt = 36867 := by decide
                          refine lv_bipush (v := 48) hx hb d_DiscMakerModel_describe_57 (by decide) ?_
                          have hPc := hP.sub (ws' := [(h0, .inr (11, MO ma sv_thrown sv_length sv_nodes sv_many sv_directories sv_runsFrom sv_runs sv_read sv_wrong sv_isNamed sv_goes sv_goesSize sv_goesAt sv_targetParts sv_isRoot)), ((ma 16), .inl (cJ, 46080, .inr (.inl G_119)))]) [7, 8] rfl
                          have hDc := hD.sub (ws' := [(h0, .inr (11, MO ma sv_thrown sv_length sv_nodes sv_many sv_directories sv_runsFrom sv_runs sv_read sv_wrong sv_isNamed sv_goes sv_goesSize sv_goesAt sv_targetParts sv_isRoot)), ((ma 16), .inl (cJ, 46080, .inr (.inl G_119)))]) [7, 8] (by decide +kernel) rfl
                          have hFc := va_free (wc := [(h0, .inr (11, MO ma sv_thrown sv_length sv_nodes sv_many sv_directories sv_runsFrom sv_runs sv_read sv_wrong sv_isNamed sv_goes sv_goesSize sv_goesAt sv_targetParts sv_isRoot)), ((ma 16), .inl (cJ, 46080, .inr (.inl G_119)))]) hD hS hA [7, 8] rfl
                          have hkc : 0 ≤ 0 := by decide
                          have hks : 0 ≤ 0 := by decide
                          refine va_callv (va_runV (C := "DiscMakerModel") (As := [.int 36867, .int 48]) (rest := []) ⟨hx, hb, hml, hown, hts⟩ (m_setF l D cB cI cJ cZ cN cF H.size h0 ma sv_thrown sv_length sv_nodes sv_many sv_directories sv_runsFrom sv_runs sv_read sv_wrong sv_isNamed sv_goes sv_goesSize sv_goesAt sv_targetParts sv_isRoot G_119 36867 48 (by (try dsimp only); first | assumption | omega | trivial) (by (try dsimp only); first | assumption | omega | trivial)) (cwV 2 hts (lg_goodV k1727 k1729 k79 k125 kc_DiscMakerModel_set) rfl rfl rfl (by decide +kernel) ⟨Nat.le_of_ble_eq_true rfl, Nat.le_of_ble_eq_true rfl⟩) ⟨fun a U g mk q => by obtain ⟨q0, q1, qP, qK, qN, qD⟩ := q; exact ⟨q0, q1, qP, va_K.moved (u := U) (U := U.calling g mk a) (Vm.Alike.refl U.vm) qK, qN.calling, qD⟩, va_recv hK hP (ci := 11) (q0 := 7) rfl rfl, fun U hU hW => ⟨rfl, by rw [hU], by rw [hU]; exact hPc, va_K.moved hW.alike hK, NN.warm hW hN, hDc.weaken (fun _ _ _ _ => trivial)⟩⟩ rfl rfl hl.1 rfl (lv_room (Nat.le_of_ble_eq_true rfl)) d_DiscMakerModel_describe_59 ⟨hkc, hks⟩) hS (fun q _ h => hFc q h) hFc (fun u t H1 locs ht hvm hp_r121 hB hz1 hk1 hS => ?_)
                          obtain ⟨G_122, rfl⟩ : ∃ z, z = u := ⟨_, rfl⟩
                          obtain ⟨hP1, hD1⟩ := hB
                          rw [ht] at hP1
                          obtain ⟨hP, hD⟩ := va_join (wr := [((ma 1), .inl (cI, 40, .inl fK)), ((ma 9), .inl (cI, 40, .inl fNS)), ((ma 13), .inl (cI, 40, .inl fBs)), ((ma 15), .inl (cI, 40, .inl fEs)), ((ma 17), .inl (cI, 24, .inl fTb)), ((ma 18), .inl (cI, 80, .inl fSe)), ((ma 19), .inl (cI, 80, .inl fSs))]) (w1 := [(h0, .inr (11, MO ma sv_thrown sv_length sv_nodes sv_many sv_directories sv_runsFrom sv_runs sv_read sv_wrong sv_isNamed sv_goes sv_goesSize sv_goesAt sv_targetParts sv_isRoot)), ((ma 16), .inl (cJ, 46080, .inr (.inl G_122)))]) hP hD [7, 8] [0, 1, 2, 3, 4, 5, 6] rfl rfl (by decide +kernel) (by decide +kernel) hk1 hFc hP1 hD1
                          clear hPc hDc hFc hP1 hD1 hk1 hz1 hkc hks
                          generalize H1 = H at hP hS ⊢
                          have hP : va_P D CL [((ma 1), .inl (cI, 40, .inl fK)), ((ma 9), .inl (cI, 40, .inl fNS)), ((ma 13), .inl (cI, 40, .inl fBs)), ((ma 15), .inl (cI, 40, .inl fEs)), ((ma 17), .inl (cI, 24, .inl fTb)), ((ma 18), .inl (cI, 80, .inl fSe)), ((ma 19), .inl (cI, 80, .inl fSs)), (h0, .inr (11, MO ma sv_thrown sv_length sv_nodes sv_many sv_directories sv_runsFrom sv_runs sv_read sv_wrong sv_isNamed sv_goes sv_goesSize sv_goesAt sv_targetParts sv_isRoot)), ((ma 16), .inl (cJ, 46080, .inr (.inl G_122)))] H := hP
                          have hD : va_D A [((ma 1), .inl (cI, 40, .inl fK)), ((ma 9), .inl (cI, 40, .inl fNS)), ((ma 13), .inl (cI, 40, .inl fBs)), ((ma 15), .inl (cI, 40, .inl fEs)), ((ma 17), .inl (cI, 24, .inl fTb)), ((ma 18), .inl (cI, 80, .inl fSe)), ((ma 19), .inl (cI, 80, .inl fSs)), (h0, .inr (11, MO ma sv_thrown sv_length sv_nodes sv_many sv_directories sv_runsFrom sv_runs sv_read sv_wrong sv_isNamed sv_goes sv_goesSize sv_goesAt sv_targetParts sv_isRoot)), ((ma 16), .inl (cJ, 46080, .inr (.inl G_122)))] := hD
                          try dsimp only at hp_r121
                          have hw_123 := hp_r121
                          try rw [L_48] at hw_123
                          try rw [L_36867] at hw_123
                          refine lv_aload_n hx hb d_DiscMakerModel_describe_62 rfl (lv_at hl 2 rfl) ?_
                          refine lv_iload_n hx hb d_DiscMakerModel_describe_63 rfl (lv_at hl 0 rfl) ?_
                          refine lv_iconst (v := 4) hx hb d_DiscMakerModel_describe_64 (by decide) ?_
                          refine lv_iadd hx hb d_DiscMakerModel_describe_65 ?_
                          refine W.eq (g2 := F0 m 66 ls [.int 36868, .ref h0]) (by rw [show ((36864 : Int32) + 4) = 36868 from by decide]) ?_
                          have L_36868 : (36868 : Int32).toInt = 36868 := by decide
                          refine lv_bipush (v := 48) hx hb d_DiscMakerModel_describe_66 (by decide) ?_
                          have hPc := hP.sub (ws' := [(h0, .inr (11, MO ma sv_thrown sv_length sv_nodes sv_many sv_directories sv_runsFrom sv_runs sv_read sv_wrong sv_isNamed sv_goes sv_goesSize sv_goesAt sv_targetParts sv_isRoot)), ((ma 16), .inl (cJ, 46080, .inr (.inl G_122)))]) [7, 8] rfl
                          have hDc := hD.sub (ws' := [(h0, .inr (11, MO ma sv_thrown sv_length sv_nodes sv_many sv_directories sv_runsFrom sv_runs sv_read sv_wrong sv_isNamed sv_goes sv_goesSize sv_goesAt sv_targetParts sv_isRoot)), ((ma 16), .inl (cJ, 46080, .inr (.inl G_122)))]) [7, 8] (by decide +kernel) rfl
                          have hFc := va_free (wc := [(h0, .inr (11, MO ma sv_thrown sv_length sv_nodes sv_many sv_directories sv_runsFrom sv_runs sv_read sv_wrong sv_isNamed sv_goes sv_goesSize sv_goesAt sv_targetParts sv_isRoot)), ((ma 16), .inl (cJ, 46080, .inr (.inl G_122)))]) hD hS hA [7, 8] rfl
                          have hkc : 0 ≤ 0 := by decide
                          have hks : 0 ≤ 0 := by decide
                          refine va_callv (va_runV (C := "DiscMakerModel") (As := [.int 36868, .int 48]) (rest := []) ⟨hx, hb, hml, hown, hts⟩ (m_setF l D cB cI cJ cZ cN cF H.size h0 ma sv_thrown sv_length sv_nodes sv_many sv_directories sv_runsFrom sv_runs sv_read sv_wrong sv_isNamed sv_goes sv_goesSize sv_goesAt sv_targetParts sv_isRoot G_122 36868 48 (by (try dsimp only); first | assumption | omega | trivial) (by (try dsimp only); first | assumption | omega | trivial)) (cwV 2 hts (lg_goodV k1727 k1729 k79 k125 kc_DiscMakerModel_set) rfl rfl rfl (by decide +kernel) ⟨Nat.le_of_ble_eq_true rfl, Nat.le_of_ble_eq_true rfl⟩) ⟨fun a U g mk q => by obtain ⟨q0, q1, qP, qK, qN, qD⟩ := q; exact ⟨q0, q1, qP, va_K.moved (u := U) (U := U.calling g mk a) (Vm.Alike.refl U.vm) qK, qN.calling, qD⟩, va_recv hK hP (ci := 11) (q0 := 7) rfl rfl, fun U hU hW => ⟨rfl, by rw [hU], by rw [hU]; exact hPc, va_K.moved hW.alike hK, NN.warm hW hN, hDc.weaken (fun _ _ _ _ => trivial)⟩⟩ rfl rfl hl.1 rfl (lv_room (Nat.le_of_ble_eq_true rfl)) d_DiscMakerModel_describe_68 ⟨hkc, hks⟩) hS (fun q _ h => hFc q h) hFc (fun u t H1 locs ht hvm hp_r124 hB hz1 hk1 hS => ?_)
                          obtain ⟨G_125, rfl⟩ : ∃ z, z = u := ⟨_, rfl⟩
                          obtain ⟨hP1, hD1⟩ := hB
                          rw [ht] at hP1
                          obtain ⟨hP, hD⟩ := va_join (wr := [((ma 1), .inl (cI, 40, .inl fK)), ((ma 9), .inl (cI, 40, .inl fNS)), ((ma 13), .inl (cI, 40, .inl fBs)), ((ma 15), .inl (cI, 40, .inl fEs)), ((ma 17), .inl (cI, 24, .inl fTb)), ((ma 18), .inl (cI, 80, .inl fSe)), ((ma 19), .inl (cI, 80, .inl fSs))]) (w1 := [(h0, .inr (11, MO ma sv_thrown sv_length sv_nodes sv_many sv_directories sv_runsFrom sv_runs sv_read sv_wrong sv_isNamed sv_goes sv_goesSize sv_goesAt sv_targetParts sv_isRoot)), ((ma 16), .inl (cJ, 46080, .inr (.inl G_125)))]) hP hD [7, 8] [0, 1, 2, 3, 4, 5, 6] rfl rfl (by decide +kernel) (by decide +kernel) hk1 hFc hP1 hD1
                          clear hPc hDc hFc hP1 hD1 hk1 hz1 hkc hks
                          generalize H1 = H at hP hS ⊢
                          have hP : va_P D CL [((ma 1), .inl (cI, 40, .inl fK)), ((ma 9), .inl (cI, 40, .inl fNS)), ((ma 13), .inl (cI, 40, .inl fBs)), ((ma 15), .inl (cI, 40, .inl fEs)), ((ma 17), .inl (cI, 24, .inl fTb)), ((ma 18), .inl (cI, 80, .inl fSe)), ((ma 19), .inl (cI, 80, .inl fSs)), (h0, .inr (11, MO ma sv_thrown sv_length sv_nodes sv_many sv_directories sv_runsFrom sv_runs sv_read sv_wrong sv_isNamed sv_goes sv_goesSize sv_goesAt sv_targetParts sv_isRoot)), ((ma 16), .inl (cJ, 46080, .inr (.inl G_125)))] H := hP
                          have hD : va_D A [((ma 1), .inl (cI, 40, .inl fK)), ((ma 9), .inl (cI, 40, .inl fNS)), ((ma 13), .inl (cI, 40, .inl fBs)), ((ma 15), .inl (cI, 40, .inl fEs)), ((ma 17), .inl (cI, 24, .inl fTb)), ((ma 18), .inl (cI, 80, .inl fSe)), ((ma 19), .inl (cI, 80, .inl fSs)), (h0, .inr (11, MO ma sv_thrown sv_length sv_nodes sv_many sv_directories sv_runsFrom sv_runs sv_read sv_wrong sv_isNamed sv_goes sv_goesSize sv_goesAt sv_targetParts sv_isRoot)), ((ma 16), .inl (cJ, 46080, .inr (.inl G_125)))] := hD
                          try dsimp only at hp_r124
                          have hw_126 := hp_r124
                          try rw [L_48] at hw_126
                          try rw [L_36868] at hw_126
                          refine lv_aload_n hx hb d_DiscMakerModel_describe_71 rfl (lv_at hl 2 rfl) ?_
                          refine lv_iload_n hx hb d_DiscMakerModel_describe_72 rfl (lv_at hl 0 rfl) ?_
                          refine lv_iconst (v := 5) hx hb d_DiscMakerModel_describe_73 (by decide) ?_
                          refine lv_iadd hx hb d_DiscMakerModel_describe_74 ?_
                          refine W.eq (g2 := F0 m 75 ls [.int 36869, .ref h0]) (by rw [show ((36864 : Int32) + 5) = 36869 from by decide]) ?_
                          have L_36869 : (36869 : Int32).toInt = 36869 := by decide
                          refine lv_bipush (v := 49) hx hb d_DiscMakerModel_describe_75 (by decide) ?_
                          have hPc := hP.sub (ws' := [(h0, .inr (11, MO ma sv_thrown sv_length sv_nodes sv_many sv_directories sv_runsFrom sv_runs sv_read sv_wrong sv_isNamed sv_goes sv_goesSize sv_goesAt sv_targetParts sv_isRoot)), ((ma 16), .inl (cJ, 46080, .inr (.inl G_125)))]) [7, 8] rfl
                          have hDc := hD.sub (ws' := [(h0, .inr (11, MO ma sv_thrown sv_length sv_nodes sv_many sv_directories sv_runsFrom sv_runs sv_read sv_wrong sv_isNamed sv_goes sv_goesSize sv_goesAt sv_targetParts sv_isRoot)), ((ma 16), .inl (cJ, 46080, .inr (.inl G_125)))]) [7, 8] (by decide +kernel) rfl
                          have hFc := va_free (wc := [(h0, .inr (11, MO ma sv_thrown sv_length sv_nodes sv_many sv_directories sv_runsFrom sv_runs sv_read sv_wrong sv_isNamed sv_goes sv_goesSize sv_goesAt sv_targetParts sv_isRoot)), ((ma 16), .inl (cJ, 46080, .inr (.inl G_125)))]) hD hS hA [7, 8] rfl
                          have hkc : 0 ≤ 0 := by decide
                          have hks : 0 ≤ 0 := by decide
                          refine va_callv (va_runV (C := "DiscMakerModel") (As := [.int 36869, .int 49]) (rest := []) ⟨hx, hb, hml, hown, hts⟩ (m_setF l D cB cI cJ cZ cN cF H.size h0 ma sv_thrown sv_length sv_nodes sv_many sv_directories sv_runsFrom sv_runs sv_read sv_wrong sv_isNamed sv_goes sv_goesSize sv_goesAt sv_targetParts sv_isRoot G_125 36869 49 (by (try dsimp only); first | assumption | omega | trivial) (by (try dsimp only); first | assumption | omega | trivial)) (cwV 2 hts (lg_goodV k1727 k1729 k79 k125 kc_DiscMakerModel_set) rfl rfl rfl (by decide +kernel) ⟨Nat.le_of_ble_eq_true rfl, Nat.le_of_ble_eq_true rfl⟩) ⟨fun a U g mk q => by obtain ⟨q0, q1, qP, qK, qN, qD⟩ := q; exact ⟨q0, q1, qP, va_K.moved (u := U) (U := U.calling g mk a) (Vm.Alike.refl U.vm) qK, qN.calling, qD⟩, va_recv hK hP (ci := 11) (q0 := 7) rfl rfl, fun U hU hW => ⟨rfl, by rw [hU], by rw [hU]; exact hPc, va_K.moved hW.alike hK, NN.warm hW hN, hDc.weaken (fun _ _ _ _ => trivial)⟩⟩ rfl rfl hl.1 rfl (lv_room (Nat.le_of_ble_eq_true rfl)) d_DiscMakerModel_describe_77 ⟨hkc, hks⟩) hS (fun q _ h => hFc q h) hFc (fun u t H1 locs ht hvm hp_r127 hB hz1 hk1 hS => ?_)
                          obtain ⟨G_128, rfl⟩ : ∃ z, z = u := ⟨_, rfl⟩
                          obtain ⟨hP1, hD1⟩ := hB
                          rw [ht] at hP1
                          obtain ⟨hP, hD⟩ := va_join (wr := [((ma 1), .inl (cI, 40, .inl fK)), ((ma 9), .inl (cI, 40, .inl fNS)), ((ma 13), .inl (cI, 40, .inl fBs)), ((ma 15), .inl (cI, 40, .inl fEs)), ((ma 17), .inl (cI, 24, .inl fTb)), ((ma 18), .inl (cI, 80, .inl fSe)), ((ma 19), .inl (cI, 80, .inl fSs))]) (w1 := [(h0, .inr (11, MO ma sv_thrown sv_length sv_nodes sv_many sv_directories sv_runsFrom sv_runs sv_read sv_wrong sv_isNamed sv_goes sv_goesSize sv_goesAt sv_targetParts sv_isRoot)), ((ma 16), .inl (cJ, 46080, .inr (.inl G_128)))]) hP hD [7, 8] [0, 1, 2, 3, 4, 5, 6] rfl rfl (by decide +kernel) (by decide +kernel) hk1 hFc hP1 hD1
                          clear hPc hDc hFc hP1 hD1 hk1 hz1 hkc hks
                          generalize H1 = H at hP hS ⊢
                          have hP : va_P D CL [((ma 1), .inl (cI, 40, .inl fK)), ((ma 9), .inl (cI, 40, .inl fNS)), ((ma 13), .inl (cI, 40, .inl fBs)), ((ma 15), .inl (cI, 40, .inl fEs)), ((ma 17), .inl (cI, 24, .inl fTb)), ((ma 18), .inl (cI, 80, .inl fSe)), ((ma 19), .inl (cI, 80, .inl fSs)), (h0, .inr (11, MO ma sv_thrown sv_length sv_nodes sv_many sv_directories sv_runsFrom sv_runs sv_read sv_wrong sv_isNamed sv_goes sv_goesSize sv_goesAt sv_targetParts sv_isRoot)), ((ma 16), .inl (cJ, 46080, .inr (.inl G_128)))] H := hP
                          have hD : va_D A [((ma 1), .inl (cI, 40, .inl fK)), ((ma 9), .inl (cI, 40, .inl fNS)), ((ma 13), .inl (cI, 40, .inl fBs)), ((ma 15), .inl (cI, 40, .inl fEs)), ((ma 17), .inl (cI, 24, .inl fTb)), ((ma 18), .inl (cI, 80, .inl fSe)), ((ma 19), .inl (cI, 80, .inl fSs)), (h0, .inr (11, MO ma sv_thrown sv_length sv_nodes sv_many sv_directories sv_runsFrom sv_runs sv_read sv_wrong sv_isNamed sv_goes sv_goesSize sv_goesAt sv_targetParts sv_isRoot)), ((ma 16), .inl (cJ, 46080, .inr (.inl G_128)))] := hD
                          try dsimp only at hp_r127
                          have hw_129 := hp_r127
                          try rw [L_49] at hw_129
                          try rw [L_36869] at hw_129
                          refine lv_aload_n hx hb d_DiscMakerModel_describe_80 rfl (lv_at hl 2 rfl) ?_
                          refine lv_iload_n hx hb d_DiscMakerModel_describe_81 rfl (lv_at hl 0 rfl) ?_
                          refine lv_bipush (v := 6) hx hb d_DiscMakerModel_describe_82 (by decide) ?_
                          refine lv_iadd hx hb d_DiscMakerModel_describe_84 ?_
                          refine W.eq (g2 := F0 m 85 ls [.int 36870, .ref h0]) (by rw [show ((36864 : Int32) + 6) = 36870 from by decide]) ?_
                          have L_36870 : (36870 : Int32).toInt = 36870 := by decide
                          refine lv_iconst (v := 1) hx hb d_DiscMakerModel_describe_85 (by decide) ?_
                          have hPc := hP.sub (ws' := [(h0, .inr (11, MO ma sv_thrown sv_length sv_nodes sv_many sv_directories sv_runsFrom sv_runs sv_read sv_wrong sv_isNamed sv_goes sv_goesSize sv_goesAt sv_targetParts sv_isRoot)), ((ma 16), .inl (cJ, 46080, .inr (.inl G_128)))]) [7, 8] rfl
                          have hDc := hD.sub (ws' := [(h0, .inr (11, MO ma sv_thrown sv_length sv_nodes sv_many sv_directories sv_runsFrom sv_runs sv_read sv_wrong sv_isNamed sv_goes sv_goesSize sv_goesAt sv_targetParts sv_isRoot)), ((ma 16), .inl (cJ, 46080, .inr (.inl G_128)))]) [7, 8] (by decide +kernel) rfl
                          have hFc := va_free (wc := [(h0, .inr (11, MO ma sv_thrown sv_length sv_nodes sv_many sv_directories sv_runsFrom sv_runs sv_read sv_wrong sv_isNamed sv_goes sv_goesSize sv_goesAt sv_targetParts sv_isRoot)), ((ma 16), .inl (cJ, 46080, .inr (.inl G_128)))]) hD hS hA [7, 8] rfl
                          have hkc : 0 ≤ 0 := by decide
                          have hks : 0 ≤ 0 := by decide
                          refine va_callv (va_runV (C := "DiscMakerModel") (As := [.int 36870, .int 1]) (rest := []) ⟨hx, hb, hml, hown, hts⟩ (m_setF l D cB cI cJ cZ cN cF H.size h0 ma sv_thrown sv_length sv_nodes sv_many sv_directories sv_runsFrom sv_runs sv_read sv_wrong sv_isNamed sv_goes sv_goesSize sv_goesAt sv_targetParts sv_isRoot G_128 36870 1 (by (try dsimp only); first | assumption | omega | trivial) (by (try dsimp only); first | assumption | omega | trivial)) (cwV 2 hts (lg_goodV k1727 k1729 k79 k125 kc_DiscMakerModel_set) rfl rfl rfl (by decide +kernel) ⟨Nat.le_of_ble_eq_true rfl, Nat.le_of_ble_eq_true rfl⟩) ⟨fun a U g mk q => by obtain ⟨q0, q1, qP, qK, qN, qD⟩ := q; exact ⟨q0, q1, qP, va_K.moved (u := U) (U := U.calling g mk a) (Vm.Alike.refl U.vm) qK, qN.calling, qD⟩, va_recv hK hP (ci := 11) (q0 := 7) rfl rfl, fun U hU hW => ⟨rfl, by rw [hU], by rw [hU]; exact hPc, va_K.moved hW.alike hK, NN.warm hW hN, hDc.weaken (fun _ _ _ _ => trivial)⟩⟩ rfl rfl hl.1 rfl (lv_room (Nat.le_of_ble_eq_true rfl)) d_DiscMakerModel_describe_86 ⟨hkc, hks⟩) hS (fun q _ h => hFc q h) hFc (fun u t H1 locs ht hvm hp_r130 hB hz1 hk1 hS => ?_)
                          obtain ⟨G_131, rfl⟩ : ∃ z, z = u := ⟨_, rfl⟩
                          obtain ⟨hP1, hD1⟩ := hB
                          rw [ht] at hP1
                          obtain ⟨hP, hD⟩ := va_join (wr := [((ma 1), .inl (cI, 40, .inl fK)), ((ma 9), .inl (cI, 40, .inl fNS)), ((ma 13), .inl (cI, 40, .inl fBs)), ((ma 15), .inl (cI, 40, .inl fEs)), ((ma 17), .inl (cI, 24, .inl fTb)), ((ma 18), .inl (cI, 80, .inl fSe)), ((ma 19), .inl (cI, 80, .inl fSs))]) (w1 := [(h0, .inr (11, MO ma sv_thrown sv_length sv_nodes sv_many sv_directories sv_runsFrom sv_runs sv_read sv_wrong sv_isNamed sv_goes sv_goesSize sv_goesAt sv_targetParts sv_isRoot)), ((ma 16), .inl (cJ, 46080, .inr (.inl G_131)))]) hP hD [7, 8] [0, 1, 2, 3, 4, 5, 6] rfl rfl (by decide +kernel) (by decide +kernel) hk1 hFc hP1 hD1
                          clear hPc hDc hFc hP1 hD1 hk1 hz1 hkc hks
                          generalize H1 = H at hP hS ⊢
                          have hP : va_P D CL [((ma 1), .inl (cI, 40, .inl fK)), ((ma 9), .inl (cI, 40, .inl fNS)), ((ma 13), .inl (cI, 40, .inl fBs)), ((ma 15), .inl (cI, 40, .inl fEs)), ((ma 17), .inl (cI, 24, .inl fTb)), ((ma 18), .inl (cI, 80, .inl fSe)), ((ma 19), .inl (cI, 80, .inl fSs)), (h0, .inr (11, MO ma sv_thrown sv_length sv_nodes sv_many sv_directories sv_runsFrom sv_runs sv_read sv_wrong sv_isNamed sv_goes sv_goesSize sv_goesAt sv_targetParts sv_isRoot)), ((ma 16), .inl (cJ, 46080, .inr (.inl G_131)))] H := hP
                          have hD : va_D A [((ma 1), .inl (cI, 40, .inl fK)), ((ma 9), .inl (cI, 40, .inl fNS)), ((ma 13), .inl (cI, 40, .inl fBs)), ((ma 15), .inl (cI, 40, .inl fEs)), ((ma 17), .inl (cI, 24, .inl fTb)), ((ma 18), .inl (cI, 80, .inl fSe)), ((ma 19), .inl (cI, 80, .inl fSs)), (h0, .inr (11, MO ma sv_thrown sv_length sv_nodes sv_many sv_directories sv_runsFrom sv_runs sv_read sv_wrong sv_isNamed sv_goes sv_goesSize sv_goesAt sv_targetParts sv_isRoot)), ((ma 16), .inl (cJ, 46080, .inr (.inl G_131)))] := hD
                          try dsimp only at hp_r130
                          have hw_132 := hp_r130
                          try rw [L_1] at hw_132
                          try rw [L_36870] at hw_132
                          have hh2 : BL _ _ 36864 (dhL 255) := ((((((((BL_nil _ 36864).pt hw_114 (by show _ = 36864 + ((0 : Nat) : Int); omega) (show _ = (255 % 256 : Int) by omega)).pt hw_117 (by show _ = 36864 + ((1 : Nat) : Int); omega) (show _ = (67 : Int) by omega)).pt hw_120 (by show _ = 36864 + ((2 : Nat) : Int); omega) (show _ = (68 : Int) by omega)).pt hw_123 (by show _ = 36864 + ((3 : Nat) : Int); omega) (show _ = (48 : Int) by omega)).pt hw_126 (by show _ = 36864 + ((4 : Nat) : Int); omega) (show _ = (48 : Int) by omega)).pt hw_129 (by show _ = 36864 + ((5 : Nat) : Int); omega) (show _ = (49 : Int) by omega)).pt hw_132 (by show _ = 36864 + ((6 : Nat) : Int); omega) (show _ = (1 : Int) by omega)).cast rfl rfl
                          refine lv_iload_n hx hb d_DiscMakerModel_describe_89 rfl (lv_at hl 1 rfl) ?_
                          refine lv_iconst (v := 2) hx hb d_DiscMakerModel_describe_90 (by decide) ?_
                          refine lv_icmp_ne (tgt := 95) hx hb d_DiscMakerModel_describe_91 (by decide) (fun h_9 => absurd (by decide) h_9) (fun _ => ?_)
                          have hP9 := hP.sub (ws' := [(h0, .inr (11, MO ma sv_thrown sv_length sv_nodes sv_many sv_directories sv_runsFrom sv_runs sv_read sv_wrong sv_isNamed sv_goes sv_goesSize sv_goesAt sv_targetParts sv_isRoot)), ((ma 16), .inl (cJ, 46080, .inr (.inl G_131))), ((ma 1), .inl (cI, 40, .inl fK)), ((ma 9), .inl (cI, 40, .inl fNS)), ((ma 13), .inl (cI, 40, .inl fBs)), ((ma 15), .inl (cI, 40, .inl fEs)), ((ma 17), .inl (cI, 24, .inl fTb)), ((ma 18), .inl (cI, 80, .inl fSe)), ((ma 19), .inl (cI, 80, .inl fSs))]) [7, 8, 0, 1, 2, 3, 4, 5, 6] rfl
                          have hD9 := hD.sub (ws' := [(h0, .inr (11, MO ma sv_thrown sv_length sv_nodes sv_many sv_directories sv_runsFrom sv_runs sv_read sv_wrong sv_isNamed sv_goes sv_goesSize sv_goesAt sv_targetParts sv_isRoot)), ((ma 16), .inl (cJ, 46080, .inr (.inl G_131))), ((ma 1), .inl (cI, 40, .inl fK)), ((ma 9), .inl (cI, 40, .inl fNS)), ((ma 13), .inl (cI, 40, .inl fBs)), ((ma 15), .inl (cI, 40, .inl fEs)), ((ma 17), .inl (cI, 24, .inl fTb)), ((ma 18), .inl (cI, 80, .inl fSe)), ((ma 19), .inl (cI, 80, .inl fSs))]) [7, 8, 0, 1, 2, 3, 4, 5, 6] (by decide +kernel) rfl
                          exact W.vret hx hb hr (fun t ht hW => ⟨⟨G_131, rfl, ⟨_, _, hb0, hb1, hh2⟩, by rw [ht]; exact hP9, hD9⟩, hS.F ht⟩) hS.2.2 d_DiscMakerModel_describe_94
                        · skip
                          have g288_312 : ¬ 68 ≤ kc1.toInt := fun h8 => h_9 ((i_le (by decide) rfl).mpr h8)
                          refine lv_aload_n hx hb d_DiscMakerModel_describe_291 rfl (lv_at hl 0 rfl) ?_
                          refine lv_iload_n hx hb d_DiscMakerModel_describe_292 rfl (lv_at hl 2 rfl) ?_
                          refine lv_sipush (v := 813) hx hb d_DiscMakerModel_describe_293 (by decide) ?_
                          refine lv_iadd hx hb d_DiscMakerModel_describe_296 ?_
                          refine W.eq (g2 := F0 m 297 ls [.int 35629, .ref h0]) (by rw [show ((34816 : Int32) + 813) = 35629 from by decide]) ?_
                          have L_35629 : (35629 : Int32).toInt = 35629 := by decide
                          refine lv_iload_n hx hb d_DiscMakerModel_describe_297 rfl (lv_at hl 3 rfl) ?_
                          refine lv_iadd hx hb d_DiscMakerModel_describe_298 ?_
                          refine lv_topi (fun v133 e_v133 => ?_)
                          have t_v133 : v133.toInt = 35629 + kc1.toInt := by rw [e_v133]; exact i_add (by decide) rfl (by omega) (by omega)
                          refine zz_labM (B := fun (lk : Nat) (K : Heap → List Loc → Array Slot → List Value → Prop) => ∀ (cv1 : Int32) (H : Heap) (locs : List Loc) (ls : Array Slot), lk = 0 → (cv1.toInt = if (kc1.toInt - 0).toNat % 17 < 16 then 48 else 0) → va_P D CL [((ma 1), .inl (cI, 40, .inl fK)), ((ma 9), .inl (cI, 40, .inl fNS)), ((ma 13), .inl (cI, 40, .inl fBs)), ((ma 15), .inl (cI, 40, .inl fEs)), ((ma 17), .inl (cI, 24, .inl fTb)), (h0, .inr (11, MO ma sv_thrown sv_length sv_nodes sv_many sv_directories sv_runsFrom sv_runs sv_read sv_wrong sv_isNamed sv_goes sv_goesSize sv_goesAt sv_targetParts sv_isRoot)), ((ma 16), .inl (cJ, 46080, .inr (.inl nC1))), ((ma 18), .inl (cI, 80, .inl fSe)), ((ma 19), .inl (cI, 80, .inl fSs))] H → va_D A [((ma 1), .inl (cI, 40, .inl fK)), ((ma 9), .inl (cI, 40, .inl fNS)), ((ma 13), .inl (cI, 40, .inl fBs)), ((ma 15), .inl (cI, 40, .inl fEs)), ((ma 17), .inl (cI, 24, .inl fTb)), (h0, .inr (11, MO ma sv_thrown sv_length sv_nodes sv_many sv_directories sv_runsFrom sv_runs sv_read sv_wrong sv_isNamed sv_goes sv_goesSize sv_goesAt sv_targetParts sv_isRoot)), ((ma 16), .inl (cJ, 46080, .inr (.inl nC1))), ((ma 18), .inl (cI, 80, .inl fSe)), ((ma 19), .inl (cI, 80, .inl fSs))] → va_S A s.heap H locs → lv_has ls 4 [(0, .ref h0), (1, .int 1), (2, .int 34816), (3, .int kc1)] → K H locs ls [.int cv1, .int v133, .ref h0]) 314 ?_ ?_
                          · skip
                            intro lk ih314 cv1 H locs ls hm314 ecv1 hP hD hS hl
                            have hPc := hP.sub (ws' := [(h0, .inr (11, MO ma sv_thrown sv_length sv_nodes sv_many sv_directories sv_runsFrom sv_runs sv_read sv_wrong sv_isNamed sv_goes sv_goesSize sv_goesAt sv_targetParts sv_isRoot)), ((ma 16), .inl (cJ, 46080, .inr (.inl nC1)))]) [5, 6] rfl
                            have hDc := hD.sub (ws' := [(h0, .inr (11, MO ma sv_thrown sv_length sv_nodes sv_many sv_directories sv_runsFrom sv_runs sv_read sv_wrong sv_isNamed sv_goes sv_goesSize sv_goesAt sv_targetParts sv_isRoot)), ((ma 16), .inl (cJ, 46080, .inr (.inl nC1)))]) [5, 6] (by decide +kernel) rfl
                            have hFc := va_free (wc := [(h0, .inr (11, MO ma sv_thrown sv_length sv_nodes sv_many sv_directories sv_runsFrom sv_runs sv_read sv_wrong sv_isNamed sv_goes sv_goesSize sv_goesAt sv_targetParts sv_isRoot)), ((ma 16), .inl (cJ, 46080, .inr (.inl nC1)))]) hD hS hA [5, 6] rfl
                            have hkc : 0 ≤ 0 := by decide
                            have hks : 0 ≤ 0 := by decide
                            refine va_callv (va_runV (C := "DiscMakerModel") (As := [.int v133, .int cv1]) (rest := []) ⟨hx, hb, hml, hown, hts⟩ (m_setF l D cB cI cJ cZ cN cF H.size h0 ma sv_thrown sv_length sv_nodes sv_many sv_directories sv_runsFrom sv_runs sv_read sv_wrong sv_isNamed sv_goes sv_goesSize sv_goesAt sv_targetParts sv_isRoot nC1 v133 cv1 (by (try dsimp only); first | assumption | omega | trivial) (by (try dsimp only); first | assumption | omega | trivial)) (cwV 2 hts (lg_goodV k1727 k1729 k79 k125 kc_DiscMakerModel_set) rfl rfl rfl (by decide +kernel) ⟨Nat.le_of_ble_eq_true rfl, Nat.le_of_ble_eq_true rfl⟩) ⟨fun a U g mk q => by obtain ⟨q0, q1, qP, qK, qN, qD⟩ := q; exact ⟨q0, q1, qP, va_K.moved (u := U) (U := U.calling g mk a) (Vm.Alike.refl U.vm) qK, qN.calling, qD⟩, va_recv hK hP (ci := 11) (q0 := 5) rfl rfl, fun U hU hW => ⟨rfl, by rw [hU], by rw [hU]; exact hPc, va_K.moved hW.alike hK, NN.warm hW hN, hDc.weaken (fun _ _ _ _ => trivial)⟩⟩ rfl rfl hl.1 rfl (lv_room (Nat.le_of_ble_eq_true rfl)) d_DiscMakerModel_describe_314 ⟨hkc, hks⟩) hS (fun q _ h => hFc q h) hFc (fun u t H1 locs ht hvm hp_r134 hB hz1 hk1 hS => ?_)
                            obtain ⟨G_135, rfl⟩ : ∃ z, z = u := ⟨_, rfl⟩
                            obtain ⟨hP1, hD1⟩ := hB
                            rw [ht] at hP1
                            obtain ⟨hP, hD⟩ := va_join (wr := [((ma 1), .inl (cI, 40, .inl fK)), ((ma 9), .inl (cI, 40, .inl fNS)), ((ma 13), .inl (cI, 40, .inl fBs)), ((ma 15), .inl (cI, 40, .inl fEs)), ((ma 17), .inl (cI, 24, .inl fTb)), ((ma 18), .inl (cI, 80, .inl fSe)), ((ma 19), .inl (cI, 80, .inl fSs))]) (w1 := [(h0, .inr (11, MO ma sv_thrown sv_length sv_nodes sv_many sv_directories sv_runsFrom sv_runs sv_read sv_wrong sv_isNamed sv_goes sv_goesSize sv_goesAt sv_targetParts sv_isRoot)), ((ma 16), .inl (cJ, 46080, .inr (.inl G_135)))]) hP hD [5, 6] [0, 1, 2, 3, 4, 7, 8] rfl rfl (by decide +kernel) (by decide +kernel) hk1 hFc hP1 hD1
                            clear hPc hDc hFc hP1 hD1 hk1 hz1 hkc hks
                            generalize H1 = H at hP hS ⊢
                            have hP : va_P D CL [((ma 1), .inl (cI, 40, .inl fK)), ((ma 9), .inl (cI, 40, .inl fNS)), ((ma 13), .inl (cI, 40, .inl fBs)), ((ma 15), .inl (cI, 40, .inl fEs)), ((ma 17), .inl (cI, 24, .inl fTb)), ((ma 18), .inl (cI, 80, .inl fSe)), ((ma 19), .inl (cI, 80, .inl fSs)), (h0, .inr (11, MO ma sv_thrown sv_length sv_nodes sv_many sv_directories sv_runsFrom sv_runs sv_read sv_wrong sv_isNamed sv_goes sv_goesSize sv_goesAt sv_targetParts sv_isRoot)), ((ma 16), .inl (cJ, 46080, .inr (.inl G_135)))] H := hP
                            have hD : va_D A [((ma 1), .inl (cI, 40, .inl fK)), ((ma 9), .inl (cI, 40, .inl fNS)), ((ma 13), .inl (cI, 40, .inl fBs)), ((ma 15), .inl (cI, 40, .inl fEs)), ((ma 17), .inl (cI, 24, .inl fTb)), ((ma 18), .inl (cI, 80, .inl fSe)), ((ma 19), .inl (cI, 80, .inl fSs)), (h0, .inr (11, MO ma sv_thrown sv_length sv_nodes sv_many sv_directories sv_runsFrom sv_runs sv_read sv_wrong sv_isNamed sv_goes sv_goesSize sv_goesAt sv_targetParts sv_isRoot)), ((ma 16), .inl (cJ, 46080, .inr (.inl G_135)))] := hD
                            try dsimp only at hp_r134
                            have hw_136 := hp_r134
                            obtain ⟨v137, e_v137⟩ : ∃ z : Int32, z = kc1 + 1 := ⟨_, rfl⟩
                            refine lv_iinc (v := v137) hx hb d_DiscMakerModel_describe_317 hl (k := 3) rfl e_v137.symm (by decide +kernel) rfl (fun ls hl => ?_)
                            have t_v137 : v137.toInt = kc1.toInt + 1 := by rw [e_v137]; exact i_add rfl (by decide) (by omega) (by omega)
                            have hl : lv_has ls 4 [(3, .int v137), (0, .ref h0), (1, .int 1), (2, .int 34816)] := hl
                            refine lv_goto (tgt := 285) hx hb d_DiscMakerModel_describe_320 (by decide) ?_
                            have hP := hP.sub (ws' := [((ma 1), .inl (cI, 40, .inl fK)), ((ma 9), .inl (cI, 40, .inl fNS)), ((ma 13), .inl (cI, 40, .inl fBs)), ((ma 15), .inl (cI, 40, .inl fEs)), ((ma 17), .inl (cI, 24, .inl fTb)), (h0, .inr (11, MO ma sv_thrown sv_length sv_nodes sv_many sv_directories sv_runsFrom sv_runs sv_read sv_wrong sv_isNamed sv_goes sv_goesSize sv_goesAt sv_targetParts sv_isRoot)), ((ma 16), .inl (cJ, 46080, .inr (.inl G_135))), ((ma 18), .inl (cI, 80, .inl fSe)), ((ma 19), .inl (cI, 80, .inl fSs))]) [0, 1, 2, 3, 4, 7, 8, 5, 6] rfl
                            have hD := hD.sub (ws' := [((ma 1), .inl (cI, 40, .inl fK)), ((ma 9), .inl (cI, 40, .inl fNS)), ((ma 13), .inl (cI, 40, .inl fBs)), ((ma 15), .inl (cI, 40, .inl fEs)), ((ma 17), .inl (cI, 24, .inl fTb)), (h0, .inr (11, MO ma sv_thrown sv_length sv_nodes sv_many sv_directories sv_runsFrom sv_runs sv_read sv_wrong sv_isNamed sv_goes sv_goesSize sv_goesAt sv_targetParts sv_isRoot)), ((ma 16), .inl (cJ, 46080, .inr (.inl G_135))), ((ma 18), .inl (cI, 80, .inl fSe)), ((ma 19), .inl (cI, 80, .inl fSs))]) [0, 1, 2, 3, 4, 7, 8, 5, 6] (by decide +kernel) rfl
                            have hl := lv_sub hl [1, 2, 3, 0] rfl
                            exact ih285 _ (by first | omega | (dsimp only; omega)) v137 G_135 _ _ _ rfl ((by (try dsimp only); first | assumption | omega | trivial)) ((BL.step gkc1 hw_136 (by omega) (by omega) (show v137.toInt - 0 = kc1.toInt - 0 + 1 by omega) (by rw [ecv1]; split <;> decide))) hP hD hS hl
                          · skip
                            intro kk314
                            refine lv_iload_n hx hb d_DiscMakerModel_describe_299 rfl (lv_at hl 3 rfl) ?_
                            refine lv_bipush (v := 17) hx hb d_DiscMakerModel_describe_300 (by decide) ?_
                            refine lv_irem hx hb d_DiscMakerModel_describe_302 (by decide) ?_
                            refine lv_topi (fun v138 e_v138 => ?_)
                            have t_v138 : v138.toInt = kc1.toInt % 17 := by rw [e_v138]; exact i_rem rfl (by decide) (by omega) (by omega)
                            refine lv_bipush (v := 16) hx hb d_DiscMakerModel_describe_303 (by decide) ?_
                            refine lv_icmp_ge (tgt := 313) hx hb d_DiscMakerModel_describe_305 (by decide) (fun h_9 => ?_) (fun h_9 => ?_)
                            · skip
                              have g305_391 : 16 ≤ v138.toInt := (i_le (by decide) rfl).mp h_9
                              refine lv_iconst (v := 0) hx hb d_DiscMakerModel_describe_313 (by decide) ?_
                              have hP := hP.sub (ws' := [((ma 1), .inl (cI, 40, .inl fK)), ((ma 9), .inl (cI, 40, .inl fNS)), ((ma 13), .inl (cI, 40, .inl fBs)), ((ma 15), .inl (cI, 40, .inl fEs)), ((ma 17), .inl (cI, 24, .inl fTb)), (h0, .inr (11, MO ma sv_thrown sv_length sv_nodes sv_many sv_directories sv_runsFrom sv_runs sv_read sv_wrong sv_isNamed sv_goes sv_goesSize sv_goesAt sv_targetParts sv_isRoot)), ((ma 16), .inl (cJ, 46080, .inr (.inl nC1))), ((ma 18), .inl (cI, 80, .inl fSe)), ((ma 19), .inl (cI, 80, .inl fSs))]) [0, 1, 2, 3, 4, 5, 6, 7, 8] rfl
                              have hD := hD.sub (ws' := [((ma 1), .inl (cI, 40, .inl fK)), ((ma 9), .inl (cI, 40, .inl fNS)), ((ma 13), .inl (cI, 40, .inl fBs)), ((ma 15), .inl (cI, 40, .inl fEs)), ((ma 17), .inl (cI, 24, .inl fTb)), (h0, .inr (11, MO ma sv_thrown sv_length sv_nodes sv_many sv_directories sv_runsFrom sv_runs sv_read sv_wrong sv_isNamed sv_goes sv_goesSize sv_goesAt sv_targetParts sv_isRoot)), ((ma 16), .inl (cJ, 46080, .inr (.inl nC1))), ((ma 18), .inl (cI, 80, .inl fSe)), ((ma 19), .inl (cI, 80, .inl fSs))]) [0, 1, 2, 3, 4, 5, 6, 7, 8] (by decide +kernel) rfl
                              have hl := lv_sub hl [0, 1, 2, 3] rfl
                              exact kk314 _ 0 _ _ _ rfl ((by first | (rw [if_pos (by omega)]; decide) | (rw [if_neg (by omega)]; decide))) hP hD hS hl
                            · skip
                              have g305_391 : ¬ 16 ≤ v138.toInt := fun h8 => h_9 ((i_le (by decide) rfl).mpr h8)
                              refine lv_bipush (v := 48) hx hb d_DiscMakerModel_describe_308 (by decide) ?_
                              refine lv_goto (tgt := 314) hx hb d_DiscMakerModel_describe_310 (by decide) ?_
                              have hP := hP.sub (ws' := [((ma 1), .inl (cI, 40, .inl fK)), ((ma 9), .inl (cI, 40, .inl fNS)), ((ma 13), .inl (cI, 40, .inl fBs)), ((ma 15), .inl (cI, 40, .inl fEs)), ((ma 17), .inl (cI, 24, .inl fTb)), (h0, .inr (11, MO ma sv_thrown sv_length sv_nodes sv_many sv_directories sv_runsFrom sv_runs sv_read sv_wrong sv_isNamed sv_goes sv_goesSize sv_goesAt sv_targetParts sv_isRoot)), ((ma 16), .inl (cJ, 46080, .inr (.inl nC1))), ((ma 18), .inl (cI, 80, .inl fSe)), ((ma 19), .inl (cI, 80, .inl fSs))]) [0, 1, 2, 3, 4, 5, 6, 7, 8] rfl
                              have hD := hD.sub (ws' := [((ma 1), .inl (cI, 40, .inl fK)), ((ma 9), .inl (cI, 40, .inl fNS)), ((ma 13), .inl (cI, 40, .inl fBs)), ((ma 15), .inl (cI, 40, .inl fEs)), ((ma 17), .inl (cI, 24, .inl fTb)), (h0, .inr (11, MO ma sv_thrown sv_length sv_nodes sv_many sv_directories sv_runsFrom sv_runs sv_read sv_wrong sv_isNamed sv_goes sv_goesSize sv_goesAt sv_targetParts sv_isRoot)), ((ma 16), .inl (cJ, 46080, .inr (.inl nC1))), ((ma 18), .inl (cI, 80, .inl fSe)), ((ma 19), .inl (cI, 80, .inl fSs))]) [0, 1, 2, 3, 4, 5, 6, 7, 8] (by decide +kernel) rfl
                              have hl := lv_sub hl [0, 1, 2, 3] rfl
                              exact kk314 _ 48 _ _ _ rfl ((by first | (rw [if_pos (by omega)]; decide) | (rw [if_neg (by omega)]; decide))) hP hD hS hl
                      · skip
                        intro kk285
                        have hP := hP.sub (ws' := [((ma 1), .inl (cI, 40, .inl fK)), ((ma 9), .inl (cI, 40, .inl fNS)), ((ma 13), .inl (cI, 40, .inl fBs)), ((ma 15), .inl (cI, 40, .inl fEs)), ((ma 17), .inl (cI, 24, .inl fTb)), (h0, .inr (11, MO ma sv_thrown sv_length sv_nodes sv_many sv_directories sv_runsFrom sv_runs sv_read sv_wrong sv_isNamed sv_goes sv_goesSize sv_goesAt sv_targetParts sv_isRoot)), ((ma 16), .inl (cJ, 46080, .inr (.inl nB1))), ((ma 18), .inl (cI, 80, .inl fSe)), ((ma 19), .inl (cI, 80, .inl fSs))]) [0, 1, 2, 3, 4, 5, 6, 7, 8] rfl
                        have hD := hD.sub (ws' := [((ma 1), .inl (cI, 40, .inl fK)), ((ma 9), .inl (cI, 40, .inl fNS)), ((ma 13), .inl (cI, 40, .inl fBs)), ((ma 15), .inl (cI, 40, .inl fEs)), ((ma 17), .inl (cI, 24, .inl fTb)), (h0, .inr (11, MO ma sv_thrown sv_length sv_nodes sv_many sv_directories sv_runsFrom sv_runs sv_read sv_wrong sv_isNamed sv_goes sv_goesSize sv_goesAt sv_targetParts sv_isRoot)), ((ma 16), .inl (cJ, 46080, .inr (.inl nB1))), ((ma 18), .inl (cI, 80, .inl fSe)), ((ma 19), .inl (cI, 80, .inl fSs))]) [0, 1, 2, 3, 4, 5, 6, 7, 8] (by decide +kernel) rfl
                        have hl := lv_sub hl [1, 2, 3, 0] rfl
                        exact kk285 _ 0 nB1 _ _ _ rfl ((by (try dsimp only); first | assumption | omega | trivial)) ((BL_tb0 (by decide))) hP hD hS hl
                    · skip
                      have g265_307 : ¬ 813 ≤ kb1.toInt := fun h8 => h_9 ((i_le (by decide) rfl).mpr h8)
                      refine lv_aload_n hx hb d_DiscMakerModel_describe_268 rfl (lv_at hl 0 rfl) ?_
                      refine lv_iload_n hx hb d_DiscMakerModel_describe_269 rfl (lv_at hl 2 rfl) ?_
                      refine lv_iload_n hx hb d_DiscMakerModel_describe_270 rfl (lv_at hl 3 rfl) ?_
                      refine lv_iadd hx hb d_DiscMakerModel_describe_271 ?_
                      refine lv_topi (fun v139 e_v139 => ?_)
                      have t_v139 : v139.toInt = 34816 + kb1.toInt := by rw [e_v139]; exact i_add (by decide) rfl (by omega) (by omega)
                      refine lv_bipush (v := 32) hx hb d_DiscMakerModel_describe_272 (by decide) ?_
                      have hPc := hP.sub (ws' := [(h0, .inr (11, MO ma sv_thrown sv_length sv_nodes sv_many sv_directories sv_runsFrom sv_runs sv_read sv_wrong sv_isNamed sv_goes sv_goesSize sv_goesAt sv_targetParts sv_isRoot)), ((ma 16), .inl (cJ, 46080, .inr (.inl nB1)))]) [5, 6] rfl
                      have hDc := hD.sub (ws' := [(h0, .inr (11, MO ma sv_thrown sv_length sv_nodes sv_many sv_directories sv_runsFrom sv_runs sv_read sv_wrong sv_isNamed sv_goes sv_goesSize sv_goesAt sv_targetParts sv_isRoot)), ((ma 16), .inl (cJ, 46080, .inr (.inl nB1)))]) [5, 6] (by decide +kernel) rfl
                      have hFc := va_free (wc := [(h0, .inr (11, MO ma sv_thrown sv_length sv_nodes sv_many sv_directories sv_runsFrom sv_runs sv_read sv_wrong sv_isNamed sv_goes sv_goesSize sv_goesAt sv_targetParts sv_isRoot)), ((ma 16), .inl (cJ, 46080, .inr (.inl nB1)))]) hD hS hA [5, 6] rfl
                      have hkc : 0 ≤ 0 := by decide
                      have hks : 0 ≤ 0 := by decide
                      refine va_callv (va_runV (C := "DiscMakerModel") (As := [.int v139, .int 32]) (rest := []) ⟨hx, hb, hml, hown, hts⟩ (m_setF l D cB cI cJ cZ cN cF H.size h0 ma sv_thrown sv_length sv_nodes sv_many sv_directories sv_runsFrom sv_runs sv_read sv_wrong sv_isNamed sv_goes sv_goesSize sv_goesAt sv_targetParts sv_isRoot nB1 v139 32 (by (try dsimp only); first | assumption | omega | trivial) (by (try dsimp only); first | assumption | omega | trivial)) (cwV 2 hts (lg_goodV k1727 k1729 k79 k125 kc_DiscMakerModel_set) rfl rfl rfl (by decide +kernel) ⟨Nat.le_of_ble_eq_true rfl, Nat.le_of_ble_eq_true rfl⟩) ⟨fun a U g mk q => by obtain ⟨q0, q1, qP, qK, qN, qD⟩ := q; exact ⟨q0, q1, qP, va_K.moved (u := U) (U := U.calling g mk a) (Vm.Alike.refl U.vm) qK, qN.calling, qD⟩, va_recv hK hP (ci := 11) (q0 := 5) rfl rfl, fun U hU hW => ⟨rfl, by rw [hU], by rw [hU]; exact hPc, va_K.moved hW.alike hK, NN.warm hW hN, hDc.weaken (fun _ _ _ _ => trivial)⟩⟩ rfl rfl hl.1 rfl (lv_room (Nat.le_of_ble_eq_true rfl)) d_DiscMakerModel_describe_274 ⟨hkc, hks⟩) hS (fun q _ h => hFc q h) hFc (fun u t H1 locs ht hvm hp_r140 hB hz1 hk1 hS => ?_)
                      obtain ⟨G_141, rfl⟩ : ∃ z, z = u := ⟨_, rfl⟩
                      obtain ⟨hP1, hD1⟩ := hB
                      rw [ht] at hP1
                      obtain ⟨hP, hD⟩ := va_join (wr := [((ma 1), .inl (cI, 40, .inl fK)), ((ma 9), .inl (cI, 40, .inl fNS)), ((ma 13), .inl (cI, 40, .inl fBs)), ((ma 15), .inl (cI, 40, .inl fEs)), ((ma 17), .inl (cI, 24, .inl fTb)), ((ma 18), .inl (cI, 80, .inl fSe)), ((ma 19), .inl (cI, 80, .inl fSs))]) (w1 := [(h0, .inr (11, MO ma sv_thrown sv_length sv_nodes sv_many sv_directories sv_runsFrom sv_runs sv_read sv_wrong sv_isNamed sv_goes sv_goesSize sv_goesAt sv_targetParts sv_isRoot)), ((ma 16), .inl (cJ, 46080, .inr (.inl G_141)))]) hP hD [5, 6] [0, 1, 2, 3, 4, 7, 8] rfl rfl (by decide +kernel) (by decide +kernel) hk1 hFc hP1 hD1
                      clear hPc hDc hFc hP1 hD1 hk1 hz1 hkc hks
                      generalize H1 = H at hP hS ⊢
                      have hP : va_P D CL [((ma 1), .inl (cI, 40, .inl fK)), ((ma 9), .inl (cI, 40, .inl fNS)), ((ma 13), .inl (cI, 40, .inl fBs)), ((ma 15), .inl (cI, 40, .inl fEs)), ((ma 17), .inl (cI, 24, .inl fTb)), ((ma 18), .inl (cI, 80, .inl fSe)), ((ma 19), .inl (cI, 80, .inl fSs)), (h0, .inr (11, MO ma sv_thrown sv_length sv_nodes sv_many sv_directories sv_runsFrom sv_runs sv_read sv_wrong sv_isNamed sv_goes sv_goesSize sv_goesAt sv_targetParts sv_isRoot)), ((ma 16), .inl (cJ, 46080, .inr (.inl G_141)))] H := hP
                      have hD : va_D A [((ma 1), .inl (cI, 40, .inl fK)), ((ma 9), .inl (cI, 40, .inl fNS)), ((ma 13), .inl (cI, 40, .inl fBs)), ((ma 15), .inl (cI, 40, .inl fEs)), ((ma 17), .inl (cI, 24, .inl fTb)), ((ma 18), .inl (cI, 80, .inl fSe)), ((ma 19), .inl (cI, 80, .inl fSs)), (h0, .inr (11, MO ma sv_thrown sv_length sv_nodes sv_many sv_directories sv_runsFrom sv_runs sv_read sv_wrong sv_isNamed sv_goes sv_goesSize sv_goesAt sv_targetParts sv_isRoot)), ((ma 16), .inl (cJ, 46080, .inr (.inl G_141)))] := hD
                      try dsimp only at hp_r140
                      have hw_142 := hp_r140
                      try rw [L_32] at hw_142
                      obtain ⟨v143, e_v143⟩ : ∃ z : Int32, z = kb1 + 1 := ⟨_, rfl⟩
                      refine lv_iinc (v := v143) hx hb d_DiscMakerModel_describe_277 hl (k := 3) rfl e_v143.symm (by decide +kernel) rfl (fun ls hl => ?_)
                      have t_v143 : v143.toInt = kb1.toInt + 1 := by rw [e_v143]; exact i_add rfl (by decide) (by omega) (by omega)
                      have hl : lv_has ls 4 [(3, .int v143), (0, .ref h0), (1, .int 1), (2, .int 34816)] := hl
                      refine lv_goto (tgt := 261) hx hb d_DiscMakerModel_describe_280 (by decide) ?_
                      have hP := hP.sub (ws' := [((ma 1), .inl (cI, 40, .inl fK)), ((ma 9), .inl (cI, 40, .inl fNS)), ((ma 13), .inl (cI, 40, .inl fBs)), ((ma 15), .inl (cI, 40, .inl fEs)), ((ma 17), .inl (cI, 24, .inl fTb)), (h0, .inr (11, MO ma sv_thrown sv_length sv_nodes sv_many sv_directories sv_runsFrom sv_runs sv_read sv_wrong sv_isNamed sv_goes sv_goesSize sv_goesAt sv_targetParts sv_isRoot)), ((ma 16), .inl (cJ, 46080, .inr (.inl G_141))), ((ma 18), .inl (cI, 80, .inl fSe)), ((ma 19), .inl (cI, 80, .inl fSs))]) [0, 1, 2, 3, 4, 7, 8, 5, 6] rfl
                      have hD := hD.sub (ws' := [((ma 1), .inl (cI, 40, .inl fK)), ((ma 9), .inl (cI, 40, .inl fNS)), ((ma 13), .inl (cI, 40, .inl fBs)), ((ma 15), .inl (cI, 40, .inl fEs)), ((ma 17), .inl (cI, 24, .inl fTb)), (h0, .inr (11, MO ma sv_thrown sv_length sv_nodes sv_many sv_directories sv_runsFrom sv_runs sv_read sv_wrong sv_isNamed sv_goes sv_goesSize sv_goesAt sv_targetParts sv_isRoot)), ((ma 16), .inl (cJ, 46080, .inr (.inl G_141))), ((ma 18), .inl (cI, 80, .inl fSe)), ((ma 19), .inl (cI, 80, .inl fSs))]) [0, 1, 2, 3, 4, 7, 8, 5, 6] (by decide +kernel) rfl
                      have hl := lv_sub hl [1, 2, 3, 0] rfl
                      exact ih261 _ (by first | omega | (dsimp only; omega)) v143 G_141 _ _ _ rfl ((by (try dsimp only); first | assumption | omega | trivial)) ((BL.step gkb1 hw_142 (by omega) (by omega) (show v143.toInt - 190 = kb1.toInt - 190 + 1 by omega) (by decide))) hP hD hS hl
                  · skip
                    intro kk261
                    have hP := hP.sub (ws' := [((ma 1), .inl (cI, 40, .inl fK)), ((ma 9), .inl (cI, 40, .inl fNS)), ((ma 13), .inl (cI, 40, .inl fBs)), ((ma 15), .inl (cI, 40, .inl fEs)), ((ma 17), .inl (cI, 24, .inl fTb)), (h0, .inr (11, MO ma sv_thrown sv_length sv_nodes sv_many sv_directories sv_runsFrom sv_runs sv_read sv_wrong sv_isNamed sv_goes sv_goesSize sv_goesAt sv_targetParts sv_isRoot)), ((ma 16), .inl (cJ, 46080, .inr (.inl G_107))), ((ma 18), .inl (cI, 80, .inl fSe)), ((ma 19), .inl (cI, 80, .inl fSs))]) [0, 1, 2, 3, 4, 5, 6, 7, 8] rfl
                    have hD := hD.sub (ws' := [((ma 1), .inl (cI, 40, .inl fK)), ((ma 9), .inl (cI, 40, .inl fNS)), ((ma 13), .inl (cI, 40, .inl fBs)), ((ma 15), .inl (cI, 40, .inl fEs)), ((ma 17), .inl (cI, 24, .inl fTb)), (h0, .inr (11, MO ma sv_thrown sv_length sv_nodes sv_many sv_directories sv_runsFrom sv_runs sv_read sv_wrong sv_isNamed sv_goes sv_goesSize sv_goesAt sv_targetParts sv_isRoot)), ((ma 16), .inl (cJ, 46080, .inr (.inl G_107))), ((ma 18), .inl (cI, 80, .inl fSe)), ((ma 19), .inl (cI, 80, .inl fSs))]) [0, 1, 2, 3, 4, 5, 6, 7, 8] (by decide +kernel) rfl
                    have hl := lv_sub hl [1, 2, 3, 0] rfl
                    exact kk261 _ 190 G_107 _ _ _ rfl ((by (try dsimp only); first | assumption | omega | trivial)) ((BL_tb0 (by decide))) hP hD hS hl
                · skip
                  have g101_215 : ¬ 72 ≤ ka1.toInt := fun h8 => h_9 ((i_le (by decide) rfl).mpr h8)
                  refine lv_aload_n hx hb d_DiscMakerModel_describe_104 rfl (lv_at hl 0 rfl) ?_
                  refine lv_iload_n hx hb d_DiscMakerModel_describe_105 rfl (lv_at hl 2 rfl) ?_
                  refine lv_iload_n hx hb d_DiscMakerModel_describe_106 rfl (lv_at hl 3 rfl) ?_
                  refine lv_iadd hx hb d_DiscMakerModel_describe_107 ?_
                  refine lv_topi (fun v144 e_v144 => ?_)
                  have t_v144 : v144.toInt = 34816 + ka1.toInt := by rw [e_v144]; exact i_add (by decide) rfl (by omega) (by omega)
                  refine lv_bipush (v := 32) hx hb d_DiscMakerModel_describe_108 (by decide) ?_
                  have hPc := hP.sub (ws' := [(h0, .inr (11, MO ma sv_thrown sv_length sv_nodes sv_many sv_directories sv_runsFrom sv_runs sv_read sv_wrong sv_isNamed sv_goes sv_goesSize sv_goesAt sv_targetParts sv_isRoot)), ((ma 16), .inl (cJ, 46080, .inr (.inl nA1)))]) [7, 8] rfl
                  have hDc := hD.sub (ws' := [(h0, .inr (11, MO ma sv_thrown sv_length sv_nodes sv_many sv_directories sv_runsFrom sv_runs sv_read sv_wrong sv_isNamed sv_goes sv_goesSize sv_goesAt sv_targetParts sv_isRoot)), ((ma 16), .inl (cJ, 46080, .inr (.inl nA1)))]) [7, 8] (by decide +kernel) rfl
                  have hFc := va_free (wc := [(h0, .inr (11, MO ma sv_thrown sv_length sv_nodes sv_many sv_directories sv_runsFrom sv_runs sv_read sv_wrong sv_isNamed sv_goes sv_goesSize sv_goesAt sv_targetParts sv_isRoot)), ((ma 16), .inl (cJ, 46080, .inr (.inl nA1)))]) hD hS hA [7, 8] rfl
                  have hkc : 0 ≤ 0 := by decide
                  have hks : 0 ≤ 0 := by decide
                  refine va_callv (va_runV (C := "DiscMakerModel") (As := [.int v144, .int 32]) (rest := []) ⟨hx, hb, hml, hown, hts⟩ (m_setF l D cB cI cJ cZ cN cF H.size h0 ma sv_thrown sv_length sv_nodes sv_many sv_directories sv_runsFrom sv_runs sv_read sv_wrong sv_isNamed sv_goes sv_goesSize sv_goesAt sv_targetParts sv_isRoot nA1 v144 32 (by (try dsimp only); first | assumption | omega | trivial) (by (try dsimp only); first | assumption | omega | trivial)) (cwV 2 hts (lg_goodV k1727 k1729 k79 k125 kc_DiscMakerModel_set) rfl rfl rfl (by decide +kernel) ⟨Nat.le_of_ble_eq_true rfl, Nat.le_of_ble_eq_true rfl⟩) ⟨fun a U g mk q => by obtain ⟨q0, q1, qP, qK, qN, qD⟩ := q; exact ⟨q0, q1, qP, va_K.moved (u := U) (U := U.calling g mk a) (Vm.Alike.refl U.vm) qK, qN.calling, qD⟩, va_recv hK hP (ci := 11) (q0 := 7) rfl rfl, fun U hU hW => ⟨rfl, by rw [hU], by rw [hU]; exact hPc, va_K.moved hW.alike hK, NN.warm hW hN, hDc.weaken (fun _ _ _ _ => trivial)⟩⟩ rfl rfl hl.1 rfl (lv_room (Nat.le_of_ble_eq_true rfl)) d_DiscMakerModel_describe_110 ⟨hkc, hks⟩) hS (fun q _ h => hFc q h) hFc (fun u t H1 locs ht hvm hp_r145 hB hz1 hk1 hS => ?_)
                  obtain ⟨G_146, rfl⟩ : ∃ z, z = u := ⟨_, rfl⟩
                  obtain ⟨hP1, hD1⟩ := hB
                  rw [ht] at hP1
                  obtain ⟨hP, hD⟩ := va_join (wr := [((ma 1), .inl (cI, 40, .inl fK)), ((ma 9), .inl (cI, 40, .inl fNS)), ((ma 13), .inl (cI, 40, .inl fBs)), ((ma 15), .inl (cI, 40, .inl fEs)), ((ma 17), .inl (cI, 24, .inl fTb)), ((ma 18), .inl (cI, 80, .inl fSe)), ((ma 19), .inl (cI, 80, .inl fSs))]) (w1 := [(h0, .inr (11, MO ma sv_thrown sv_length sv_nodes sv_many sv_directories sv_runsFrom sv_runs sv_read sv_wrong sv_isNamed sv_goes sv_goesSize sv_goesAt sv_targetParts sv_isRoot)), ((ma 16), .inl (cJ, 46080, .inr (.inl G_146)))]) hP hD [7, 8] [0, 1, 2, 3, 4, 5, 6] rfl rfl (by decide +kernel) (by decide +kernel) hk1 hFc hP1 hD1
                  clear hPc hDc hFc hP1 hD1 hk1 hz1 hkc hks
                  generalize H1 = H at hP hS ⊢
                  have hP : va_P D CL [((ma 1), .inl (cI, 40, .inl fK)), ((ma 9), .inl (cI, 40, .inl fNS)), ((ma 13), .inl (cI, 40, .inl fBs)), ((ma 15), .inl (cI, 40, .inl fEs)), ((ma 17), .inl (cI, 24, .inl fTb)), ((ma 18), .inl (cI, 80, .inl fSe)), ((ma 19), .inl (cI, 80, .inl fSs)), (h0, .inr (11, MO ma sv_thrown sv_length sv_nodes sv_many sv_directories sv_runsFrom sv_runs sv_read sv_wrong sv_isNamed sv_goes sv_goesSize sv_goesAt sv_targetParts sv_isRoot)), ((ma 16), .inl (cJ, 46080, .inr (.inl G_146)))] H := hP
                  have hD : va_D A [((ma 1), .inl (cI, 40, .inl fK)), ((ma 9), .inl (cI, 40, .inl fNS)), ((ma 13), .inl (cI, 40, .inl fBs)), ((ma 15), .inl (cI, 40, .inl fEs)), ((ma 17), .inl (cI, 24, .inl fTb)), ((ma 18), .inl (cI, 80, .inl fSe)), ((ma 19), .inl (cI, 80, .inl fSs)), (h0, .inr (11, MO ma sv_thrown sv_length sv_nodes sv_many sv_directories sv_runsFrom sv_runs sv_read sv_wrong sv_isNamed sv_goes sv_goesSize sv_goesAt sv_targetParts sv_isRoot)), ((ma 16), .inl (cJ, 46080, .inr (.inl G_146)))] := hD
                  try dsimp only at hp_r145
                  have hw_147 := hp_r145
                  try rw [L_32] at hw_147
                  obtain ⟨v148, e_v148⟩ : ∃ z : Int32, z = ka1 + 1 := ⟨_, rfl⟩
                  refine lv_iinc (v := v148) hx hb d_DiscMakerModel_describe_113 hl (k := 3) rfl e_v148.symm (by decide +kernel) rfl (fun ls hl => ?_)
                  have t_v148 : v148.toInt = ka1.toInt + 1 := by rw [e_v148]; exact i_add rfl (by decide) (by omega) (by omega)
                  have hl : lv_has ls 4 [(3, .int v148), (0, .ref h0), (1, .int 1), (2, .int 34816)] := hl
                  refine lv_goto (tgt := 98) hx hb d_DiscMakerModel_describe_116 (by decide) ?_
                  have hP := hP.sub (ws' := [((ma 1), .inl (cI, 40, .inl fK)), ((ma 9), .inl (cI, 40, .inl fNS)), ((ma 13), .inl (cI, 40, .inl fBs)), ((ma 15), .inl (cI, 40, .inl fEs)), ((ma 17), .inl (cI, 24, .inl fTb)), ((ma 18), .inl (cI, 80, .inl fSe)), ((ma 19), .inl (cI, 80, .inl fSs)), (h0, .inr (11, MO ma sv_thrown sv_length sv_nodes sv_many sv_directories sv_runsFrom sv_runs sv_read sv_wrong sv_isNamed sv_goes sv_goesSize sv_goesAt sv_targetParts sv_isRoot)), ((ma 16), .inl (cJ, 46080, .inr (.inl G_146)))]) [0, 1, 2, 3, 4, 5, 6, 7, 8] rfl
                  have hD := hD.sub (ws' := [((ma 1), .inl (cI, 40, .inl fK)), ((ma 9), .inl (cI, 40, .inl fNS)), ((ma 13), .inl (cI, 40, .inl fBs)), ((ma 15), .inl (cI, 40, .inl fEs)), ((ma 17), .inl (cI, 24, .inl fTb)), ((ma 18), .inl (cI, 80, .inl fSe)), ((ma 19), .inl (cI, 80, .inl fSs)), (h0, .inr (11, MO ma sv_thrown sv_length sv_nodes sv_many sv_directories sv_runsFrom sv_runs sv_read sv_wrong sv_isNamed sv_goes sv_goesSize sv_goesAt sv_targetParts sv_isRoot)), ((ma 16), .inl (cJ, 46080, .inr (.inl G_146)))]) [0, 1, 2, 3, 4, 5, 6, 7, 8] (by decide +kernel) rfl
                  have hl := lv_sub hl [1, 2, 3, 0] rfl
                  exact ih98 _ (by first | omega | (dsimp only; omega)) v148 G_146 _ _ _ rfl ((by (try dsimp only); first | assumption | omega | trivial)) ((BL.step gka1 hw_147 (by omega) (by omega) (show v148.toInt - 8 = ka1.toInt - 8 + 1 by omega) (by decide))) hP hD hS hl
              · skip
                intro kk98
                have hP := hP.sub (ws' := [((ma 1), .inl (cI, 40, .inl fK)), ((ma 9), .inl (cI, 40, .inl fNS)), ((ma 13), .inl (cI, 40, .inl fBs)), ((ma 15), .inl (cI, 40, .inl fEs)), ((ma 17), .inl (cI, 24, .inl fTb)), ((ma 18), .inl (cI, 80, .inl fSe)), ((ma 19), .inl (cI, 80, .inl fSs)), (h0, .inr (11, MO ma sv_thrown sv_length sv_nodes sv_many sv_directories sv_runsFrom sv_runs sv_read sv_wrong sv_isNamed sv_goes sv_goesSize sv_goesAt sv_targetParts sv_isRoot)), ((ma 16), .inl (cJ, 46080, .inr (.inl G_71)))]) [0, 1, 2, 3, 4, 5, 6, 7, 8] rfl
                have hD := hD.sub (ws' := [((ma 1), .inl (cI, 40, .inl fK)), ((ma 9), .inl (cI, 40, .inl fNS)), ((ma 13), .inl (cI, 40, .inl fBs)), ((ma 15), .inl (cI, 40, .inl fEs)), ((ma 17), .inl (cI, 24, .inl fTb)), ((ma 18), .inl (cI, 80, .inl fSe)), ((ma 19), .inl (cI, 80, .inl fSs)), (h0, .inr (11, MO ma sv_thrown sv_length sv_nodes sv_many sv_directories sv_runsFrom sv_runs sv_read sv_wrong sv_isNamed sv_goes sv_goesSize sv_goesAt sv_targetParts sv_isRoot)), ((ma 16), .inl (cJ, 46080, .inr (.inl G_71)))]) [0, 1, 2, 3, 4, 5, 6, 7, 8] (by decide +kernel) rfl
                have hl := lv_sub hl [3, 2, 1, 0] rfl
                exact kk98 _ 8 G_71 _ _ _ rfl ((by (try dsimp only); first | assumption | omega | trivial)) ((BL_tb0 (by decide))) hP hD hS hl
            · skip
              have g288_144 : ¬ 68 ≤ kc0.toInt := fun h8 => h_9 ((i_le (by decide) rfl).mpr h8)
              refine lv_aload_n hx hb d_DiscMakerModel_describe_291 rfl (lv_at hl 0 rfl) ?_
              refine lv_iload_n hx hb d_DiscMakerModel_describe_292 rfl (lv_at hl 2 rfl) ?_
              refine lv_sipush (v := 813) hx hb d_DiscMakerModel_describe_293 (by decide) ?_
              refine lv_iadd hx hb d_DiscMakerModel_describe_296 ?_
              refine W.eq (g2 := F0 m 297 ls [.int 33581, .ref h0]) (by rw [show ((32768 : Int32) + 813) = 33581 from by decide]) ?_
              have L_33581 : (33581 : Int32).toInt = 33581 := by decide
              refine lv_iload_n hx hb d_DiscMakerModel_describe_297 rfl (lv_at hl 3 rfl) ?_
              refine lv_iadd hx hb d_DiscMakerModel_describe_298 ?_
              refine lv_topi (fun v149 e_v149 => ?_)
              have t_v149 : v149.toInt = 33581 + kc0.toInt := by rw [e_v149]; exact i_add (by decide) rfl (by omega) (by omega)
              refine zz_labM (B := fun (lk : Nat) (K : Heap → List Loc → Array Slot → List Value → Prop) => ∀ (cv0 : Int32) (H : Heap) (locs : List Loc) (ls : Array Slot), lk = 0 → (cv0.toInt = if (kc0.toInt - 0).toNat % 17 < 16 then 48 else 0) → va_P D CL [((ma 1), .inl (cI, 40, .inl fK)), ((ma 9), .inl (cI, 40, .inl fNS)), ((ma 13), .inl (cI, 40, .inl fBs)), ((ma 15), .inl (cI, 40, .inl fEs)), ((ma 17), .inl (cI, 24, .inl fTb)), (h0, .inr (11, MO ma sv_thrown sv_length sv_nodes sv_many sv_directories sv_runsFrom sv_runs sv_read sv_wrong sv_isNamed sv_goes sv_goesSize sv_goesAt sv_targetParts sv_isRoot)), ((ma 16), .inl (cJ, 46080, .inr (.inl nC0))), ((ma 18), .inl (cI, 80, .inl fSe)), ((ma 19), .inl (cI, 80, .inl fSs))] H → va_D A [((ma 1), .inl (cI, 40, .inl fK)), ((ma 9), .inl (cI, 40, .inl fNS)), ((ma 13), .inl (cI, 40, .inl fBs)), ((ma 15), .inl (cI, 40, .inl fEs)), ((ma 17), .inl (cI, 24, .inl fTb)), (h0, .inr (11, MO ma sv_thrown sv_length sv_nodes sv_many sv_directories sv_runsFrom sv_runs sv_read sv_wrong sv_isNamed sv_goes sv_goesSize sv_goesAt sv_targetParts sv_isRoot)), ((ma 16), .inl (cJ, 46080, .inr (.inl nC0))), ((ma 18), .inl (cI, 80, .inl fSe)), ((ma 19), .inl (cI, 80, .inl fSs))] → va_S A s.heap H locs → lv_has ls 4 [(0, .ref h0), (1, .int 0), (2, .int 32768), (3, .int kc0)] → K H locs ls [.int cv0, .int v149, .ref h0]) 314 ?_ ?_
              · skip
                intro lk ih314 cv0 H locs ls hm314 ecv0 hP hD hS hl
                have hPc := hP.sub (ws' := [(h0, .inr (11, MO ma sv_thrown sv_length sv_nodes sv_many sv_directories sv_runsFrom sv_runs sv_read sv_wrong sv_isNamed sv_goes sv_goesSize sv_goesAt sv_targetParts sv_isRoot)), ((ma 16), .inl (cJ, 46080, .inr (.inl nC0)))]) [5, 6] rfl
                have hDc := hD.sub (ws' := [(h0, .inr (11, MO ma sv_thrown sv_length sv_nodes sv_many sv_directories sv_runsFrom sv_runs sv_read sv_wrong sv_isNamed sv_goes sv_goesSize sv_goesAt sv_targetParts sv_isRoot)), ((ma 16), .inl (cJ, 46080, .inr (.inl nC0)))]) [5, 6] (by decide +kernel) rfl
                have hFc := va_free (wc := [(h0, .inr (11, MO ma sv_thrown sv_length sv_nodes sv_many sv_directories sv_runsFrom sv_runs sv_read sv_wrong sv_isNamed sv_goes sv_goesSize sv_goesAt sv_targetParts sv_isRoot)), ((ma 16), .inl (cJ, 46080, .inr (.inl nC0)))]) hD hS hA [5, 6] rfl
                have hkc : 0 ≤ 0 := by decide
                have hks : 0 ≤ 0 := by decide
                refine va_callv (va_runV (C := "DiscMakerModel") (As := [.int v149, .int cv0]) (rest := []) ⟨hx, hb, hml, hown, hts⟩ (m_setF l D cB cI cJ cZ cN cF H.size h0 ma sv_thrown sv_length sv_nodes sv_many sv_directories sv_runsFrom sv_runs sv_read sv_wrong sv_isNamed sv_goes sv_goesSize sv_goesAt sv_targetParts sv_isRoot nC0 v149 cv0 (by (try dsimp only); first | assumption | omega | trivial) (by (try dsimp only); first | assumption | omega | trivial)) (cwV 2 hts (lg_goodV k1727 k1729 k79 k125 kc_DiscMakerModel_set) rfl rfl rfl (by decide +kernel) ⟨Nat.le_of_ble_eq_true rfl, Nat.le_of_ble_eq_true rfl⟩) ⟨fun a U g mk q => by obtain ⟨q0, q1, qP, qK, qN, qD⟩ := q; exact ⟨q0, q1, qP, va_K.moved (u := U) (U := U.calling g mk a) (Vm.Alike.refl U.vm) qK, qN.calling, qD⟩, va_recv hK hP (ci := 11) (q0 := 5) rfl rfl, fun U hU hW => ⟨rfl, by rw [hU], by rw [hU]; exact hPc, va_K.moved hW.alike hK, NN.warm hW hN, hDc.weaken (fun _ _ _ _ => trivial)⟩⟩ rfl rfl hl.1 rfl (lv_room (Nat.le_of_ble_eq_true rfl)) d_DiscMakerModel_describe_314 ⟨hkc, hks⟩) hS (fun q _ h => hFc q h) hFc (fun u t H1 locs ht hvm hp_r150 hB hz1 hk1 hS => ?_)
                obtain ⟨G_151, rfl⟩ : ∃ z, z = u := ⟨_, rfl⟩
                obtain ⟨hP1, hD1⟩ := hB
                rw [ht] at hP1
                obtain ⟨hP, hD⟩ := va_join (wr := [((ma 1), .inl (cI, 40, .inl fK)), ((ma 9), .inl (cI, 40, .inl fNS)), ((ma 13), .inl (cI, 40, .inl fBs)), ((ma 15), .inl (cI, 40, .inl fEs)), ((ma 17), .inl (cI, 24, .inl fTb)), ((ma 18), .inl (cI, 80, .inl fSe)), ((ma 19), .inl (cI, 80, .inl fSs))]) (w1 := [(h0, .inr (11, MO ma sv_thrown sv_length sv_nodes sv_many sv_directories sv_runsFrom sv_runs sv_read sv_wrong sv_isNamed sv_goes sv_goesSize sv_goesAt sv_targetParts sv_isRoot)), ((ma 16), .inl (cJ, 46080, .inr (.inl G_151)))]) hP hD [5, 6] [0, 1, 2, 3, 4, 7, 8] rfl rfl (by decide +kernel) (by decide +kernel) hk1 hFc hP1 hD1
                clear hPc hDc hFc hP1 hD1 hk1 hz1 hkc hks
                generalize H1 = H at hP hS ⊢
                have hP : va_P D CL [((ma 1), .inl (cI, 40, .inl fK)), ((ma 9), .inl (cI, 40, .inl fNS)), ((ma 13), .inl (cI, 40, .inl fBs)), ((ma 15), .inl (cI, 40, .inl fEs)), ((ma 17), .inl (cI, 24, .inl fTb)), ((ma 18), .inl (cI, 80, .inl fSe)), ((ma 19), .inl (cI, 80, .inl fSs)), (h0, .inr (11, MO ma sv_thrown sv_length sv_nodes sv_many sv_directories sv_runsFrom sv_runs sv_read sv_wrong sv_isNamed sv_goes sv_goesSize sv_goesAt sv_targetParts sv_isRoot)), ((ma 16), .inl (cJ, 46080, .inr (.inl G_151)))] H := hP
                have hD : va_D A [((ma 1), .inl (cI, 40, .inl fK)), ((ma 9), .inl (cI, 40, .inl fNS)), ((ma 13), .inl (cI, 40, .inl fBs)), ((ma 15), .inl (cI, 40, .inl fEs)), ((ma 17), .inl (cI, 24, .inl fTb)), ((ma 18), .inl (cI, 80, .inl fSe)), ((ma 19), .inl (cI, 80, .inl fSs)), (h0, .inr (11, MO ma sv_thrown sv_length sv_nodes sv_many sv_directories sv_runsFrom sv_runs sv_read sv_wrong sv_isNamed sv_goes sv_goesSize sv_goesAt sv_targetParts sv_isRoot)), ((ma 16), .inl (cJ, 46080, .inr (.inl G_151)))] := hD
                try dsimp only at hp_r150
                have hw_152 := hp_r150
                obtain ⟨v153, e_v153⟩ : ∃ z : Int32, z = kc0 + 1 := ⟨_, rfl⟩
                refine lv_iinc (v := v153) hx hb d_DiscMakerModel_describe_317 hl (k := 3) rfl e_v153.symm (by decide +kernel) rfl (fun ls hl => ?_)
                have t_v153 : v153.toInt = kc0.toInt + 1 := by rw [e_v153]; exact i_add rfl (by decide) (by omega) (by omega)
                have hl : lv_has ls 4 [(3, .int v153), (0, .ref h0), (1, .int 0), (2, .int 32768)] := hl
                refine lv_goto (tgt := 285) hx hb d_DiscMakerModel_describe_320 (by decide) ?_
                have hP := hP.sub (ws' := [((ma 1), .inl (cI, 40, .inl fK)), ((ma 9), .inl (cI, 40, .inl fNS)), ((ma 13), .inl (cI, 40, .inl fBs)), ((ma 15), .inl (cI, 40, .inl fEs)), ((ma 17), .inl (cI, 24, .inl fTb)), (h0, .inr (11, MO ma sv_thrown sv_length sv_nodes sv_many sv_directories sv_runsFrom sv_runs sv_read sv_wrong sv_isNamed sv_goes sv_goesSize sv_goesAt sv_targetParts sv_isRoot)), ((ma 16), .inl (cJ, 46080, .inr (.inl G_151))), ((ma 18), .inl (cI, 80, .inl fSe)), ((ma 19), .inl (cI, 80, .inl fSs))]) [0, 1, 2, 3, 4, 7, 8, 5, 6] rfl
                have hD := hD.sub (ws' := [((ma 1), .inl (cI, 40, .inl fK)), ((ma 9), .inl (cI, 40, .inl fNS)), ((ma 13), .inl (cI, 40, .inl fBs)), ((ma 15), .inl (cI, 40, .inl fEs)), ((ma 17), .inl (cI, 24, .inl fTb)), (h0, .inr (11, MO ma sv_thrown sv_length sv_nodes sv_many sv_directories sv_runsFrom sv_runs sv_read sv_wrong sv_isNamed sv_goes sv_goesSize sv_goesAt sv_targetParts sv_isRoot)), ((ma 16), .inl (cJ, 46080, .inr (.inl G_151))), ((ma 18), .inl (cI, 80, .inl fSe)), ((ma 19), .inl (cI, 80, .inl fSs))]) [0, 1, 2, 3, 4, 7, 8, 5, 6] (by decide +kernel) rfl
                have hl := lv_sub hl [1, 2, 3, 0] rfl
                exact ih285 _ (by first | omega | (dsimp only; omega)) v153 G_151 _ _ _ rfl ((by (try dsimp only); first | assumption | omega | trivial)) ((BL.step gkc0 hw_152 (by omega) (by omega) (show v153.toInt - 0 = kc0.toInt - 0 + 1 by omega) (by rw [ecv0]; split <;> decide))) hP hD hS hl
              · skip
                intro kk314
                refine lv_iload_n hx hb d_DiscMakerModel_describe_299 rfl (lv_at hl 3 rfl) ?_
                refine lv_bipush (v := 17) hx hb d_DiscMakerModel_describe_300 (by decide) ?_
                refine lv_irem hx hb d_DiscMakerModel_describe_302 (by decide) ?_
                refine lv_topi (fun v154 e_v154 => ?_)
                have t_v154 : v154.toInt = kc0.toInt % 17 := by rw [e_v154]; exact i_rem rfl (by decide) (by omega) (by omega)
                refine lv_bipush (v := 16) hx hb d_DiscMakerModel_describe_303 (by decide) ?_
                refine lv_icmp_ge (tgt := 313) hx hb d_DiscMakerModel_describe_305 (by decide) (fun h_9 => ?_) (fun h_9 => ?_)
                · skip
                  have g305_429 : 16 ≤ v154.toInt := (i_le (by decide) rfl).mp h_9
                  refine lv_iconst (v := 0) hx hb d_DiscMakerModel_describe_313 (by decide) ?_
                  have hP := hP.sub (ws' := [((ma 1), .inl (cI, 40, .inl fK)), ((ma 9), .inl (cI, 40, .inl fNS)), ((ma 13), .inl (cI, 40, .inl fBs)), ((ma 15), .inl (cI, 40, .inl fEs)), ((ma 17), .inl (cI, 24, .inl fTb)), (h0, .inr (11, MO ma sv_thrown sv_length sv_nodes sv_many sv_directories sv_runsFrom sv_runs sv_read sv_wrong sv_isNamed sv_goes sv_goesSize sv_goesAt sv_targetParts sv_isRoot)), ((ma 16), .inl (cJ, 46080, .inr (.inl nC0))), ((ma 18), .inl (cI, 80, .inl fSe)), ((ma 19), .inl (cI, 80, .inl fSs))]) [0, 1, 2, 3, 4, 5, 6, 7, 8] rfl
                  have hD := hD.sub (ws' := [((ma 1), .inl (cI, 40, .inl fK)), ((ma 9), .inl (cI, 40, .inl fNS)), ((ma 13), .inl (cI, 40, .inl fBs)), ((ma 15), .inl (cI, 40, .inl fEs)), ((ma 17), .inl (cI, 24, .inl fTb)), (h0, .inr (11, MO ma sv_thrown sv_length sv_nodes sv_many sv_directories sv_runsFrom sv_runs sv_read sv_wrong sv_isNamed sv_goes sv_goesSize sv_goesAt sv_targetParts sv_isRoot)), ((ma 16), .inl (cJ, 46080, .inr (.inl nC0))), ((ma 18), .inl (cI, 80, .inl fSe)), ((ma 19), .inl (cI, 80, .inl fSs))]) [0, 1, 2, 3, 4, 5, 6, 7, 8] (by decide +kernel) rfl
                  have hl := lv_sub hl [0, 1, 2, 3] rfl
                  exact kk314 _ 0 _ _ _ rfl ((by first | (rw [if_pos (by omega)]; decide) | (rw [if_neg (by omega)]; decide))) hP hD hS hl
                · skip
                  have g305_429 : ¬ 16 ≤ v154.toInt := fun h8 => h_9 ((i_le (by decide) rfl).mpr h8)
                  refine lv_bipush (v := 48) hx hb d_DiscMakerModel_describe_308 (by decide) ?_
                  refine lv_goto (tgt := 314) hx hb d_DiscMakerModel_describe_310 (by decide) ?_
                  have hP := hP.sub (ws' := [((ma 1), .inl (cI, 40, .inl fK)), ((ma 9), .inl (cI, 40, .inl fNS)), ((ma 13), .inl (cI, 40, .inl fBs)), ((ma 15), .inl (cI, 40, .inl fEs)), ((ma 17), .inl (cI, 24, .inl fTb)), (h0, .inr (11, MO ma sv_thrown sv_length sv_nodes sv_many sv_directories sv_runsFrom sv_runs sv_read sv_wrong sv_isNamed sv_goes sv_goesSize sv_goesAt sv_targetParts sv_isRoot)), ((ma 16), .inl (cJ, 46080, .inr (.inl nC0))), ((ma 18), .inl (cI, 80, .inl fSe)), ((ma 19), .inl (cI, 80, .inl fSs))]) [0, 1, 2, 3, 4, 5, 6, 7, 8] rfl
                  have hD := hD.sub (ws' := [((ma 1), .inl (cI, 40, .inl fK)), ((ma 9), .inl (cI, 40, .inl fNS)), ((ma 13), .inl (cI, 40, .inl fBs)), ((ma 15), .inl (cI, 40, .inl fEs)), ((ma 17), .inl (cI, 24, .inl fTb)), (h0, .inr (11, MO ma sv_thrown sv_length sv_nodes sv_many sv_directories sv_runsFrom sv_runs sv_read sv_wrong sv_isNamed sv_goes sv_goesSize sv_goesAt sv_targetParts sv_isRoot)), ((ma 16), .inl (cJ, 46080, .inr (.inl nC0))), ((ma 18), .inl (cI, 80, .inl fSe)), ((ma 19), .inl (cI, 80, .inl fSs))]) [0, 1, 2, 3, 4, 5, 6, 7, 8] (by decide +kernel) rfl
                  have hl := lv_sub hl [0, 1, 2, 3] rfl
                  exact kk314 _ 48 _ _ _ rfl ((by first | (rw [if_pos (by omega)]; decide) | (rw [if_neg (by omega)]; decide))) hP hD hS hl
          · skip
            intro kk285
            have hP := hP.sub (ws' := [((ma 1), .inl (cI, 40, .inl fK)), ((ma 9), .inl (cI, 40, .inl fNS)), ((ma 13), .inl (cI, 40, .inl fBs)), ((ma 15), .inl (cI, 40, .inl fEs)), ((ma 17), .inl (cI, 24, .inl fTb)), (h0, .inr (11, MO ma sv_thrown sv_length sv_nodes sv_many sv_directories sv_runsFrom sv_runs sv_read sv_wrong sv_isNamed sv_goes sv_goesSize sv_goesAt sv_targetParts sv_isRoot)), ((ma 16), .inl (cJ, 46080, .inr (.inl nB0))), ((ma 18), .inl (cI, 80, .inl fSe)), ((ma 19), .inl (cI, 80, .inl fSs))]) [0, 1, 2, 3, 4, 5, 6, 7, 8] rfl
            have hD := hD.sub (ws' := [((ma 1), .inl (cI, 40, .inl fK)), ((ma 9), .inl (cI, 40, .inl fNS)), ((ma 13), .inl (cI, 40, .inl fBs)), ((ma 15), .inl (cI, 40, .inl fEs)), ((ma 17), .inl (cI, 24, .inl fTb)), (h0, .inr (11, MO ma sv_thrown sv_length sv_nodes sv_many sv_directories sv_runsFrom sv_runs sv_read sv_wrong sv_isNamed sv_goes sv_goesSize sv_goesAt sv_targetParts sv_isRoot)), ((ma 16), .inl (cJ, 46080, .inr (.inl nB0))), ((ma 18), .inl (cI, 80, .inl fSe)), ((ma 19), .inl (cI, 80, .inl fSs))]) [0, 1, 2, 3, 4, 5, 6, 7, 8] (by decide +kernel) rfl
            have hl := lv_sub hl [1, 2, 3, 0] rfl
            exact kk285 _ 0 nB0 _ _ _ rfl ((by (try dsimp only); first | assumption | omega | trivial)) ((BL_tb0 (by decide))) hP hD hS hl
        · skip
          have g265_139 : ¬ 813 ≤ kb0.toInt := fun h8 => h_9 ((i_le (by decide) rfl).mpr h8)
          refine lv_aload_n hx hb d_DiscMakerModel_describe_268 rfl (lv_at hl 0 rfl) ?_
          refine lv_iload_n hx hb d_DiscMakerModel_describe_269 rfl (lv_at hl 2 rfl) ?_
          refine lv_iload_n hx hb d_DiscMakerModel_describe_270 rfl (lv_at hl 3 rfl) ?_
          refine lv_iadd hx hb d_DiscMakerModel_describe_271 ?_
          refine lv_topi (fun v155 e_v155 => ?_)
          have t_v155 : v155.toInt = 32768 + kb0.toInt := by rw [e_v155]; exact i_add (by decide) rfl (by omega) (by omega)
          refine lv_bipush (v := 32) hx hb d_DiscMakerModel_describe_272 (by decide) ?_
          have hPc := hP.sub (ws' := [(h0, .inr (11, MO ma sv_thrown sv_length sv_nodes sv_many sv_directories sv_runsFrom sv_runs sv_read sv_wrong sv_isNamed sv_goes sv_goesSize sv_goesAt sv_targetParts sv_isRoot)), ((ma 16), .inl (cJ, 46080, .inr (.inl nB0)))]) [5, 6] rfl
          have hDc := hD.sub (ws' := [(h0, .inr (11, MO ma sv_thrown sv_length sv_nodes sv_many sv_directories sv_runsFrom sv_runs sv_read sv_wrong sv_isNamed sv_goes sv_goesSize sv_goesAt sv_targetParts sv_isRoot)), ((ma 16), .inl (cJ, 46080, .inr (.inl nB0)))]) [5, 6] (by decide +kernel) rfl
          have hFc := va_free (wc := [(h0, .inr (11, MO ma sv_thrown sv_length sv_nodes sv_many sv_directories sv_runsFrom sv_runs sv_read sv_wrong sv_isNamed sv_goes sv_goesSize sv_goesAt sv_targetParts sv_isRoot)), ((ma 16), .inl (cJ, 46080, .inr (.inl nB0)))]) hD hS hA [5, 6] rfl
          have hkc : 0 ≤ 0 := by decide
          have hks : 0 ≤ 0 := by decide
          refine va_callv (va_runV (C := "DiscMakerModel") (As := [.int v155, .int 32]) (rest := []) ⟨hx, hb, hml, hown, hts⟩ (m_setF l D cB cI cJ cZ cN cF H.size h0 ma sv_thrown sv_length sv_nodes sv_many sv_directories sv_runsFrom sv_runs sv_read sv_wrong sv_isNamed sv_goes sv_goesSize sv_goesAt sv_targetParts sv_isRoot nB0 v155 32 (by (try dsimp only); first | assumption | omega | trivial) (by (try dsimp only); first | assumption | omega | trivial)) (cwV 2 hts (lg_goodV k1727 k1729 k79 k125 kc_DiscMakerModel_set) rfl rfl rfl (by decide +kernel) ⟨Nat.le_of_ble_eq_true rfl, Nat.le_of_ble_eq_true rfl⟩) ⟨fun a U g mk q => by obtain ⟨q0, q1, qP, qK, qN, qD⟩ := q; exact ⟨q0, q1, qP, va_K.moved (u := U) (U := U.calling g mk a) (Vm.Alike.refl U.vm) qK, qN.calling, qD⟩, va_recv hK hP (ci := 11) (q0 := 5) rfl rfl, fun U hU hW => ⟨rfl, by rw [hU], by rw [hU]; exact hPc, va_K.moved hW.alike hK, NN.warm hW hN, hDc.weaken (fun _ _ _ _ => trivial)⟩⟩ rfl rfl hl.1 rfl (lv_room (Nat.le_of_ble_eq_true rfl)) d_DiscMakerModel_describe_274 ⟨hkc, hks⟩) hS (fun q _ h => hFc q h) hFc (fun u t H1 locs ht hvm hp_r156 hB hz1 hk1 hS => ?_)
          obtain ⟨G_157, rfl⟩ : ∃ z, z = u := ⟨_, rfl⟩
          obtain ⟨hP1, hD1⟩ := hB
          rw [ht] at hP1
          obtain ⟨hP, hD⟩ := va_join (wr := [((ma 1), .inl (cI, 40, .inl fK)), ((ma 9), .inl (cI, 40, .inl fNS)), ((ma 13), .inl (cI, 40, .inl fBs)), ((ma 15), .inl (cI, 40, .inl fEs)), ((ma 17), .inl (cI, 24, .inl fTb)), ((ma 18), .inl (cI, 80, .inl fSe)), ((ma 19), .inl (cI, 80, .inl fSs))]) (w1 := [(h0, .inr (11, MO ma sv_thrown sv_length sv_nodes sv_many sv_directories sv_runsFrom sv_runs sv_read sv_wrong sv_isNamed sv_goes sv_goesSize sv_goesAt sv_targetParts sv_isRoot)), ((ma 16), .inl (cJ, 46080, .inr (.inl G_157)))]) hP hD [5, 6] [0, 1, 2, 3, 4, 7, 8] rfl rfl (by decide +kernel) (by decide +kernel) hk1 hFc hP1 hD1
          clear hPc hDc hFc hP1 hD1 hk1 hz1 hkc hks
          generalize H1 = H at hP hS ⊢
          have hP : va_P D CL [((ma 1), .inl (cI, 40, .inl fK)), ((ma 9), .inl (cI, 40, .inl fNS)), ((ma 13), .inl (cI, 40, .inl fBs)), ((ma 15), .inl (cI, 40, .inl fEs)), ((ma 17), .inl (cI, 24, .inl fTb)), ((ma 18), .inl (cI, 80, .inl fSe)), ((ma 19), .inl (cI, 80, .inl fSs)), (h0, .inr (11, MO ma sv_thrown sv_length sv_nodes sv_many sv_directories sv_runsFrom sv_runs sv_read sv_wrong sv_isNamed sv_goes sv_goesSize sv_goesAt sv_targetParts sv_isRoot)), ((ma 16), .inl (cJ, 46080, .inr (.inl G_157)))] H := hP
          have hD : va_D A [((ma 1), .inl (cI, 40, .inl fK)), ((ma 9), .inl (cI, 40, .inl fNS)), ((ma 13), .inl (cI, 40, .inl fBs)), ((ma 15), .inl (cI, 40, .inl fEs)), ((ma 17), .inl (cI, 24, .inl fTb)), ((ma 18), .inl (cI, 80, .inl fSe)), ((ma 19), .inl (cI, 80, .inl fSs)), (h0, .inr (11, MO ma sv_thrown sv_length sv_nodes sv_many sv_directories sv_runsFrom sv_runs sv_read sv_wrong sv_isNamed sv_goes sv_goesSize sv_goesAt sv_targetParts sv_isRoot)), ((ma 16), .inl (cJ, 46080, .inr (.inl G_157)))] := hD
          try dsimp only at hp_r156
          have hw_158 := hp_r156
          try rw [L_32] at hw_158
          obtain ⟨v159, e_v159⟩ : ∃ z : Int32, z = kb0 + 1 := ⟨_, rfl⟩
          refine lv_iinc (v := v159) hx hb d_DiscMakerModel_describe_277 hl (k := 3) rfl e_v159.symm (by decide +kernel) rfl (fun ls hl => ?_)
          have t_v159 : v159.toInt = kb0.toInt + 1 := by rw [e_v159]; exact i_add rfl (by decide) (by omega) (by omega)
          have hl : lv_has ls 4 [(3, .int v159), (0, .ref h0), (1, .int 0), (2, .int 32768)] := hl
          refine lv_goto (tgt := 261) hx hb d_DiscMakerModel_describe_280 (by decide) ?_
          have hP := hP.sub (ws' := [((ma 1), .inl (cI, 40, .inl fK)), ((ma 9), .inl (cI, 40, .inl fNS)), ((ma 13), .inl (cI, 40, .inl fBs)), ((ma 15), .inl (cI, 40, .inl fEs)), ((ma 17), .inl (cI, 24, .inl fTb)), (h0, .inr (11, MO ma sv_thrown sv_length sv_nodes sv_many sv_directories sv_runsFrom sv_runs sv_read sv_wrong sv_isNamed sv_goes sv_goesSize sv_goesAt sv_targetParts sv_isRoot)), ((ma 16), .inl (cJ, 46080, .inr (.inl G_157))), ((ma 18), .inl (cI, 80, .inl fSe)), ((ma 19), .inl (cI, 80, .inl fSs))]) [0, 1, 2, 3, 4, 7, 8, 5, 6] rfl
          have hD := hD.sub (ws' := [((ma 1), .inl (cI, 40, .inl fK)), ((ma 9), .inl (cI, 40, .inl fNS)), ((ma 13), .inl (cI, 40, .inl fBs)), ((ma 15), .inl (cI, 40, .inl fEs)), ((ma 17), .inl (cI, 24, .inl fTb)), (h0, .inr (11, MO ma sv_thrown sv_length sv_nodes sv_many sv_directories sv_runsFrom sv_runs sv_read sv_wrong sv_isNamed sv_goes sv_goesSize sv_goesAt sv_targetParts sv_isRoot)), ((ma 16), .inl (cJ, 46080, .inr (.inl G_157))), ((ma 18), .inl (cI, 80, .inl fSe)), ((ma 19), .inl (cI, 80, .inl fSs))]) [0, 1, 2, 3, 4, 7, 8, 5, 6] (by decide +kernel) rfl
          have hl := lv_sub hl [1, 2, 3, 0] rfl
          exact ih261 _ (by first | omega | (dsimp only; omega)) v159 G_157 _ _ _ rfl ((by (try dsimp only); first | assumption | omega | trivial)) ((BL.step gkb0 hw_158 (by omega) (by omega) (show v159.toInt - 190 = kb0.toInt - 190 + 1 by omega) (by decide))) hP hD hS hl
      · skip
        intro kk261
        have hP := hP.sub (ws' := [((ma 1), .inl (cI, 40, .inl fK)), ((ma 9), .inl (cI, 40, .inl fNS)), ((ma 13), .inl (cI, 40, .inl fBs)), ((ma 15), .inl (cI, 40, .inl fEs)), ((ma 17), .inl (cI, 24, .inl fTb)), (h0, .inr (11, MO ma sv_thrown sv_length sv_nodes sv_many sv_directories sv_runsFrom sv_runs sv_read sv_wrong sv_isNamed sv_goes sv_goesSize sv_goesAt sv_targetParts sv_isRoot)), ((ma 16), .inl (cJ, 46080, .inr (.inl G_47))), ((ma 18), .inl (cI, 80, .inl fSe)), ((ma 19), .inl (cI, 80, .inl fSs))]) [0, 1, 2, 3, 4, 5, 6, 7, 8] rfl
        have hD := hD.sub (ws' := [((ma 1), .inl (cI, 40, .inl fK)), ((ma 9), .inl (cI, 40, .inl fNS)), ((ma 13), .inl (cI, 40, .inl fBs)), ((ma 15), .inl (cI, 40, .inl fEs)), ((ma 17), .inl (cI, 24, .inl fTb)), (h0, .inr (11, MO ma sv_thrown sv_length sv_nodes sv_many sv_directories sv_runsFrom sv_runs sv_read sv_wrong sv_isNamed sv_goes sv_goesSize sv_goesAt sv_targetParts sv_isRoot)), ((ma 16), .inl (cJ, 46080, .inr (.inl G_47))), ((ma 18), .inl (cI, 80, .inl fSe)), ((ma 19), .inl (cI, 80, .inl fSs))]) [0, 1, 2, 3, 4, 5, 6, 7, 8] (by decide +kernel) rfl
        have hl := lv_sub hl [1, 2, 3, 0] rfl
        exact kk261 _ 190 G_47 _ _ _ rfl ((by (try dsimp only); first | assumption | omega | trivial)) ((BL_tb0 (by decide))) hP hD hS hl
    · skip
      have g101_65 : ¬ 72 ≤ ka0.toInt := fun h8 => h_9 ((i_le (by decide) rfl).mpr h8)
      refine lv_aload_n hx hb d_DiscMakerModel_describe_104 rfl (lv_at hl 0 rfl) ?_
      refine lv_iload_n hx hb d_DiscMakerModel_describe_105 rfl (lv_at hl 2 rfl) ?_
      refine lv_iload_n hx hb d_DiscMakerModel_describe_106 rfl (lv_at hl 3 rfl) ?_
      refine lv_iadd hx hb d_DiscMakerModel_describe_107 ?_
      refine lv_topi (fun v160 e_v160 => ?_)
      have t_v160 : v160.toInt = 32768 + ka0.toInt := by rw [e_v160]; exact i_add (by decide) rfl (by omega) (by omega)
      refine lv_bipush (v := 32) hx hb d_DiscMakerModel_describe_108 (by decide) ?_
      have hPc := hP.sub (ws' := [(h0, .inr (11, MO ma sv_thrown sv_length sv_nodes sv_many sv_directories sv_runsFrom sv_runs sv_read sv_wrong sv_isNamed sv_goes sv_goesSize sv_goesAt sv_targetParts sv_isRoot)), ((ma 16), .inl (cJ, 46080, .inr (.inl nA0)))]) [7, 8] rfl
      have hDc := hD.sub (ws' := [(h0, .inr (11, MO ma sv_thrown sv_length sv_nodes sv_many sv_directories sv_runsFrom sv_runs sv_read sv_wrong sv_isNamed sv_goes sv_goesSize sv_goesAt sv_targetParts sv_isRoot)), ((ma 16), .inl (cJ, 46080, .inr (.inl nA0)))]) [7, 8] (by decide +kernel) rfl
      have hFc := va_free (wc := [(h0, .inr (11, MO ma sv_thrown sv_length sv_nodes sv_many sv_directories sv_runsFrom sv_runs sv_read sv_wrong sv_isNamed sv_goes sv_goesSize sv_goesAt sv_targetParts sv_isRoot)), ((ma 16), .inl (cJ, 46080, .inr (.inl nA0)))]) hD hS hA [7, 8] rfl
      have hkc : 0 ≤ 0 := by decide
      have hks : 0 ≤ 0 := by decide
      refine va_callv (va_runV (C := "DiscMakerModel") (As := [.int v160, .int 32]) (rest := []) ⟨hx, hb, hml, hown, hts⟩ (m_setF l D cB cI cJ cZ cN cF H.size h0 ma sv_thrown sv_length sv_nodes sv_many sv_directories sv_runsFrom sv_runs sv_read sv_wrong sv_isNamed sv_goes sv_goesSize sv_goesAt sv_targetParts sv_isRoot nA0 v160 32 (by (try dsimp only); first | assumption | omega | trivial) (by (try dsimp only); first | assumption | omega | trivial)) (cwV 2 hts (lg_goodV k1727 k1729 k79 k125 kc_DiscMakerModel_set) rfl rfl rfl (by decide +kernel) ⟨Nat.le_of_ble_eq_true rfl, Nat.le_of_ble_eq_true rfl⟩) ⟨fun a U g mk q => by obtain ⟨q0, q1, qP, qK, qN, qD⟩ := q; exact ⟨q0, q1, qP, va_K.moved (u := U) (U := U.calling g mk a) (Vm.Alike.refl U.vm) qK, qN.calling, qD⟩, va_recv hK hP (ci := 11) (q0 := 7) rfl rfl, fun U hU hW => ⟨rfl, by rw [hU], by rw [hU]; exact hPc, va_K.moved hW.alike hK, NN.warm hW hN, hDc.weaken (fun _ _ _ _ => trivial)⟩⟩ rfl rfl hl.1 rfl (lv_room (Nat.le_of_ble_eq_true rfl)) d_DiscMakerModel_describe_110 ⟨hkc, hks⟩) hS (fun q _ h => hFc q h) hFc (fun u t H1 locs ht hvm hp_r161 hB hz1 hk1 hS => ?_)
      obtain ⟨G_162, rfl⟩ : ∃ z, z = u := ⟨_, rfl⟩
      obtain ⟨hP1, hD1⟩ := hB
      rw [ht] at hP1
      obtain ⟨hP, hD⟩ := va_join (wr := [((ma 1), .inl (cI, 40, .inl fK)), ((ma 9), .inl (cI, 40, .inl fNS)), ((ma 13), .inl (cI, 40, .inl fBs)), ((ma 15), .inl (cI, 40, .inl fEs)), ((ma 17), .inl (cI, 24, .inl fTb)), ((ma 18), .inl (cI, 80, .inl fSe)), ((ma 19), .inl (cI, 80, .inl fSs))]) (w1 := [(h0, .inr (11, MO ma sv_thrown sv_length sv_nodes sv_many sv_directories sv_runsFrom sv_runs sv_read sv_wrong sv_isNamed sv_goes sv_goesSize sv_goesAt sv_targetParts sv_isRoot)), ((ma 16), .inl (cJ, 46080, .inr (.inl G_162)))]) hP hD [7, 8] [0, 1, 2, 3, 4, 5, 6] rfl rfl (by decide +kernel) (by decide +kernel) hk1 hFc hP1 hD1
      clear hPc hDc hFc hP1 hD1 hk1 hz1 hkc hks
      generalize H1 = H at hP hS ⊢
      have hP : va_P D CL [((ma 1), .inl (cI, 40, .inl fK)), ((ma 9), .inl (cI, 40, .inl fNS)), ((ma 13), .inl (cI, 40, .inl fBs)), ((ma 15), .inl (cI, 40, .inl fEs)), ((ma 17), .inl (cI, 24, .inl fTb)), ((ma 18), .inl (cI, 80, .inl fSe)), ((ma 19), .inl (cI, 80, .inl fSs)), (h0, .inr (11, MO ma sv_thrown sv_length sv_nodes sv_many sv_directories sv_runsFrom sv_runs sv_read sv_wrong sv_isNamed sv_goes sv_goesSize sv_goesAt sv_targetParts sv_isRoot)), ((ma 16), .inl (cJ, 46080, .inr (.inl G_162)))] H := hP
      have hD : va_D A [((ma 1), .inl (cI, 40, .inl fK)), ((ma 9), .inl (cI, 40, .inl fNS)), ((ma 13), .inl (cI, 40, .inl fBs)), ((ma 15), .inl (cI, 40, .inl fEs)), ((ma 17), .inl (cI, 24, .inl fTb)), ((ma 18), .inl (cI, 80, .inl fSe)), ((ma 19), .inl (cI, 80, .inl fSs)), (h0, .inr (11, MO ma sv_thrown sv_length sv_nodes sv_many sv_directories sv_runsFrom sv_runs sv_read sv_wrong sv_isNamed sv_goes sv_goesSize sv_goesAt sv_targetParts sv_isRoot)), ((ma 16), .inl (cJ, 46080, .inr (.inl G_162)))] := hD
      try dsimp only at hp_r161
      have hw_163 := hp_r161
      try rw [L_32] at hw_163
      obtain ⟨v164, e_v164⟩ : ∃ z : Int32, z = ka0 + 1 := ⟨_, rfl⟩
      refine lv_iinc (v := v164) hx hb d_DiscMakerModel_describe_113 hl (k := 3) rfl e_v164.symm (by decide +kernel) rfl (fun ls hl => ?_)
      have t_v164 : v164.toInt = ka0.toInt + 1 := by rw [e_v164]; exact i_add rfl (by decide) (by omega) (by omega)
      have hl : lv_has ls 4 [(3, .int v164), (0, .ref h0), (1, .int 0), (2, .int 32768)] := hl
      refine lv_goto (tgt := 98) hx hb d_DiscMakerModel_describe_116 (by decide) ?_
      have hP := hP.sub (ws' := [((ma 1), .inl (cI, 40, .inl fK)), ((ma 9), .inl (cI, 40, .inl fNS)), ((ma 13), .inl (cI, 40, .inl fBs)), ((ma 15), .inl (cI, 40, .inl fEs)), ((ma 17), .inl (cI, 24, .inl fTb)), ((ma 18), .inl (cI, 80, .inl fSe)), ((ma 19), .inl (cI, 80, .inl fSs)), (h0, .inr (11, MO ma sv_thrown sv_length sv_nodes sv_many sv_directories sv_runsFrom sv_runs sv_read sv_wrong sv_isNamed sv_goes sv_goesSize sv_goesAt sv_targetParts sv_isRoot)), ((ma 16), .inl (cJ, 46080, .inr (.inl G_162)))]) [0, 1, 2, 3, 4, 5, 6, 7, 8] rfl
      have hD := hD.sub (ws' := [((ma 1), .inl (cI, 40, .inl fK)), ((ma 9), .inl (cI, 40, .inl fNS)), ((ma 13), .inl (cI, 40, .inl fBs)), ((ma 15), .inl (cI, 40, .inl fEs)), ((ma 17), .inl (cI, 24, .inl fTb)), ((ma 18), .inl (cI, 80, .inl fSe)), ((ma 19), .inl (cI, 80, .inl fSs)), (h0, .inr (11, MO ma sv_thrown sv_length sv_nodes sv_many sv_directories sv_runsFrom sv_runs sv_read sv_wrong sv_isNamed sv_goes sv_goesSize sv_goesAt sv_targetParts sv_isRoot)), ((ma 16), .inl (cJ, 46080, .inr (.inl G_162)))]) [0, 1, 2, 3, 4, 5, 6, 7, 8] (by decide +kernel) rfl
      have hl := lv_sub hl [1, 2, 3, 0] rfl
      exact ih98 _ (by first | omega | (dsimp only; omega)) v164 G_162 _ _ _ rfl ((by (try dsimp only); first | assumption | omega | trivial)) ((BL.step gka0 hw_163 (by omega) (by omega) (show v164.toInt - 8 = ka0.toInt - 8 + 1 by omega) (by decide))) hP hD hS hl
  · skip
    intro kk98
    have hP := hP.sub (ws' := [((ma 1), .inl (cI, 40, .inl fK)), ((ma 9), .inl (cI, 40, .inl fNS)), ((ma 13), .inl (cI, 40, .inl fBs)), ((ma 15), .inl (cI, 40, .inl fEs)), ((ma 17), .inl (cI, 24, .inl fTb)), ((ma 18), .inl (cI, 80, .inl fSe)), ((ma 19), .inl (cI, 80, .inl fSs)), (h0, .inr (11, MO ma sv_thrown sv_length sv_nodes sv_many sv_directories sv_runsFrom sv_runs sv_read sv_wrong sv_isNamed sv_goes sv_goesSize sv_goesAt sv_targetParts sv_isRoot)), ((ma 16), .inl (cJ, 46080, .inr (.inl G_20)))]) [0, 1, 2, 3, 4, 5, 6, 7, 8] rfl
    have hD := hD.sub (ws' := [((ma 1), .inl (cI, 40, .inl fK)), ((ma 9), .inl (cI, 40, .inl fNS)), ((ma 13), .inl (cI, 40, .inl fBs)), ((ma 15), .inl (cI, 40, .inl fEs)), ((ma 17), .inl (cI, 24, .inl fTb)), ((ma 18), .inl (cI, 80, .inl fSe)), ((ma 19), .inl (cI, 80, .inl fSs)), (h0, .inr (11, MO ma sv_thrown sv_length sv_nodes sv_many sv_directories sv_runsFrom sv_runs sv_read sv_wrong sv_isNamed sv_goes sv_goesSize sv_goesAt sv_targetParts sv_isRoot)), ((ma 16), .inl (cJ, 46080, .inr (.inl G_20)))]) [0, 1, 2, 3, 4, 5, 6, 7, 8] (by decide +kernel) rfl
    have hl := lv_sub hl [3, 2, 1, 0] rfl
    exact kk98 _ 8 G_20 _ _ _ rfl ((by (try dsimp only); first | assumption | omega | trivial)) ((BL_tb0 (by decide))) hP hD hS hl
