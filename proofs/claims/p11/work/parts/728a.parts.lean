theorem d_DiscMakerModel_low_0 : decode b_DiscMakerModel_low 0 = .ok (.iconst 0, 1) := by decide +kernel
theorem d_DiscMakerModel_low_1 : decode b_DiscMakerModel_low 1 = .ok (.istore 4, 2) := by decide +kernel
theorem d_DiscMakerModel_low_3 : decode b_DiscMakerModel_low 3 = .ok (.iload 4, 2) := by decide +kernel
theorem d_DiscMakerModel_low_5 : decode b_DiscMakerModel_low 5 = .ok (.iload_n 2, 1) := by decide +kernel
theorem d_DiscMakerModel_low_6 : decode b_DiscMakerModel_low 6 = .ok (.if_icmp .ge 24, 3) := by decide +kernel
theorem d_DiscMakerModel_low_9 : decode b_DiscMakerModel_low 9 = .ok (.aload_n 0, 1) := by decide +kernel
theorem d_DiscMakerModel_low_10 : decode b_DiscMakerModel_low 10 = .ok (.iload_n 1, 1) := by decide +kernel
theorem d_DiscMakerModel_low_11 : decode b_DiscMakerModel_low 11 = .ok (.iload 4, 2) := by decide +kernel
theorem d_DiscMakerModel_low_13 : decode b_DiscMakerModel_low 13 = .ok (.iadd, 1) := by decide +kernel
theorem d_DiscMakerModel_low_14 : decode b_DiscMakerModel_low 14 = .ok (.iload_n 3, 1) := by decide +kernel
theorem d_DiscMakerModel_low_15 : decode b_DiscMakerModel_low 15 = .ok (.bipush 8, 2) := by decide +kernel
theorem d_DiscMakerModel_low_17 : decode b_DiscMakerModel_low 17 = .ok (.iload 4, 2) := by decide +kernel
theorem d_DiscMakerModel_low_19 : decode b_DiscMakerModel_low 19 = .ok (.imul, 1) := by decide +kernel
theorem d_DiscMakerModel_low_20 : decode b_DiscMakerModel_low 20 = .ok (.ishr, 1) := by decide +kernel
theorem d_DiscMakerModel_low_21 : decode b_DiscMakerModel_low 21 = .ok (.invokevirtual 192, 3) := by decide +kernel
theorem d_DiscMakerModel_low_24 : decode b_DiscMakerModel_low 24 = .ok (.iinc 4 1, 3) := by decide +kernel
theorem d_DiscMakerModel_low_27 : decode b_DiscMakerModel_low 27 = .ok (.goto (-24), 3) := by decide +kernel
theorem d_DiscMakerModel_low_30 : decode b_DiscMakerModel_low 30 = .ok (.return_, 1) := by decide +kernel
set_option maxHeartbeats 4000000 in
set_option maxRecDepth 100000 in
theorem m_low (l : Launch) (D : va_G) (cB cI cJ cZ cN cF : ClassId) (sz : Nat) (h0 : Nat) (ma : Nat → Nat) (sv_thrown sv_length sv_nodes sv_many sv_directories sv_runsFrom sv_runs sv_read sv_wrong sv_isNamed sv_goes sv_goesSize sv_goesAt sv_targetParts sv_isRoot : Int32) (F : Nat → Int64) (x : Int32) (y : Int32) (z : Int32) (hy0 : 0 ≤ y.toInt ∧ y.toInt ≤ 4) (hx0 : 0 ≤ x.toInt) (hx1 : x.toInt + y.toInt ≤ 368640) : Met l y_DiscMakerModel_low w_DiscMakerModel_low ({ frames := 1, cells := 0, slots := 0, locals := 23 }) (va_Pc [.ref h0, .int x, .int y, .int z] (fun U => U.heap.size = sz ∧ va_P D CL [(h0, .inr (11, MO ma sv_thrown sv_length sv_nodes sv_many sv_directories sv_runsFrom sv_runs sv_read sv_wrong sv_isNamed sv_goes sv_goesSize sv_goesAt sv_targetParts sv_isRoot)), ((ma 16), .inl (cJ, 46080, .inr (.inl F)))] U.heap ∧ va_K D CL (TY cB cI cJ cZ cN cF) U ∧ NN U ∧ va_D (fun _ => True) [(h0, .inr (11, MO ma sv_thrown sv_length sv_nodes sv_many sv_directories sv_runsFrom sv_runs sv_read sv_wrong sv_isNamed sv_goes sv_goesSize sv_goesAt sv_targetParts sv_isRoot)), ((ma 16), .inl (cJ, 46080, .inr (.inl F)))])) (va_Qv (fun (u : (Nat → Int64)) => True) (fun (u : (Nat → Int64)) (t : State) => match u with | G => va_P D CL [(h0, .inr (11, MO ma sv_thrown sv_length sv_nodes sv_many sv_directories sv_runsFrom sv_runs sv_read sv_wrong sv_isNamed sv_goes sv_goesSize sv_goesAt sv_targetParts sv_isRoot)), ((ma 16), .inl (cJ, 46080, .inr (.inl G)))] t.heap ∧ va_D (va_A [(h0, .inr (11, MO ma sv_thrown sv_length sv_nodes sv_many sv_directories sv_runsFrom sv_runs sv_read sv_wrong sv_isNamed sv_goes sv_goesSize sv_goesAt sv_targetParts sv_isRoot)), ((ma 16), .inl (cJ, 46080, .inr (.inl F)))] sz) [(h0, .inr (11, MO ma sv_thrown sv_length sv_nodes sv_many sv_directories sv_runsFrom sv_runs sv_read sv_wrong sv_isNamed sv_goes sv_goesSize sv_goesAt sv_targetParts sv_isRoot)), ((ma 16), .inl (cJ, 46080, .inr (.inl G)))]) (va_A [(h0, .inr (11, MO ma sv_thrown sv_length sv_nodes sv_many sv_directories sv_runsFrom sv_runs sv_read sv_wrong sv_isNamed sv_goes sv_goesSize sv_goesAt sv_targetParts sv_isRoot)), ((ma 16), .inl (cJ, 46080, .inr (.inl F)))] sz)) 0 0 (va_A [(h0, .inr (11, MO ma sv_thrown sv_length sv_nodes sv_many sv_directories sv_runsFrom sv_runs sv_read sv_wrong sv_isNamed sv_goes sv_goesSize sv_goesAt sv_targetParts sv_isRoot)), ((ma 16), .inl (cJ, 46080, .inr (.inl F)))] sz) := by
  refine Met.ofW (cc := b_DiscMakerModel_low) (maxL := 5) (ret := none) (by decide) rfl ?_
  intro p e s m args below meth c s₁ B hml hv
  obtain ⟨rfl, hsz, hP, hK, hN, hD0⟩ := hv
  have hx := B.exec
  have hb := B.bytes
  have hr := B.returns
  have hts := atoms_spec (ws := w_DiscMakerModel_low) B.pre
  have ht9 := fun (w : Cond) (h : w ∈ lw_g) => hts w (List.mem_cons_of_mem _ h)
  have hown : s.vm.findClass "DiscMakerModel" = some m.cls := findClass_of_methodNamed B.named
  have hlocks := B.notSynchronized
  subst hsz
  have hD := hD0.self (sz := s.heap.size)
  generalize hAe : va_A [(h0, .inr (11, MO ma sv_thrown sv_length sv_nodes sv_many sv_directories sv_runsFrom sv_runs sv_read sv_wrong sv_isNamed sv_goes sv_goesSize sv_goesAt sv_targetParts sv_isRoot)), ((ma 16), .inl (cJ, 46080, .inr (.inl F)))] s.heap.size = A at hD ⊢
  have hA : ∀ q : Nat, s.heap.size ≤ q → A q := fun q h => by rw [← hAe]; exact Or.inr h
  have hS : va_S A s.heap s.heap [] := va_S.rf
  have hP : va_P D CL [(h0, .inr (11, MO ma sv_thrown sv_length sv_nodes sv_many sv_directories sv_runsFrom sv_runs sv_read sv_wrong sv_isNamed sv_goes sv_goesSize sv_goesAt sv_targetParts sv_isRoot)), ((ma 16), .inl (cJ, 46080, .inr (.inl F)))] s.heap := hP
  have hl := lv_entry [.ref h0, .int x, .int y, .int z] (n := 5) (Nat.le_of_ble_eq_true rfl)
  rw [lg_entry_eq]
  generalize (lg_sl [.ref h0, .int x, .int y, .int z] ++ List.replicate (5 - (lg_sl [.ref h0, .int x, .int y, .int z]).length) Slot.unset).toArray = ls at hl ⊢
  have hl : lv_has ls 5 [(0, .ref h0), (1, .int x), (2, .int y), (3, .int z)] := hl
  have L_m1 : ((-1) : Int32).toInt = (-1) := by decide
  have L_0 : (0 : Int32).toInt = 0 := by decide
  have L_1 : (1 : Int32).toInt = 1 := by decide
  have L_8 : (8 : Int32).toInt = 8 := by decide
  refine lv_iconst (v := 0) hx hb d_DiscMakerModel_low_0 (by decide) ?_
  refine lv_istore hx hb d_DiscMakerModel_low_1 hl (by decide) rfl (fun ls hl => ?_)
  have hl : lv_has ls 5 [(4, .int 0), (0, .ref h0), (1, .int x), (2, .int y), (3, .int z)] := hl
  refine zz_labM (B := fun (lk : Nat) (K : Heap → List Loc → Array Slot → List Value → Prop) => ∀ (kx : Int32) (lF : Nat → Int64) (H : Heap) (locs : List Loc) (ls : Array Slot), lk = (y.toInt - kx.toInt).toNat → (0 ≤ kx.toInt ∧ kx.toInt ≤ y.toInt) → va_P D CL [(h0, .inr (11, MO ma sv_thrown sv_length sv_nodes sv_many sv_directories sv_runsFrom sv_runs sv_read sv_wrong sv_isNamed sv_goes sv_goesSize sv_goesAt sv_targetParts sv_isRoot)), ((ma 16), .inl (cJ, 46080, .inr (.inl lF)))] H → va_D A [(h0, .inr (11, MO ma sv_thrown sv_length sv_nodes sv_many sv_directories sv_runsFrom sv_runs sv_read sv_wrong sv_isNamed sv_goes sv_goesSize sv_goesAt sv_targetParts sv_isRoot)), ((ma 16), .inl (cJ, 46080, .inr (.inl lF)))] → va_S A s.heap H locs → lv_has ls 5 [(0, .ref h0), (1, .int x), (2, .int y), (3, .int z), (4, .int kx)] → K H locs ls []) 3 ?_ ?_
  · skip
    intro lk ih3 kx lF H locs ls hm3 f1 hP hD hS hl
    refine lv_iload hx hb d_DiscMakerModel_low_3 (lv_at hl 4 rfl) ?_
    refine lv_iload_n hx hb d_DiscMakerModel_low_5 rfl (lv_at hl 2 rfl) ?_
    refine lv_icmp_ge (tgt := 30) hx hb d_DiscMakerModel_low_6 (by decide) (fun h_9 => ?_) (fun h_9 => ?_)
    · skip
      have g6_5 : y.toInt ≤ kx.toInt := (i_le rfl rfl).mp h_9
      have hP9 := hP.sub (ws' := [(h0, .inr (11, MO ma sv_thrown sv_length sv_nodes sv_many sv_directories sv_runsFrom sv_runs sv_read sv_wrong sv_isNamed sv_goes sv_goesSize sv_goesAt sv_targetParts sv_isRoot)), ((ma 16), .inl (cJ, 46080, .inr (.inl lF)))]) [0, 1] rfl
      have hD9 := hD.sub (ws' := [(h0, .inr (11, MO ma sv_thrown sv_length sv_nodes sv_many sv_directories sv_runsFrom sv_runs sv_read sv_wrong sv_isNamed sv_goes sv_goesSize sv_goesAt sv_targetParts sv_isRoot)), ((ma 16), .inl (cJ, 46080, .inr (.inl lF)))]) [0, 1] (by decide +kernel) rfl
      exact W.vret hx hb hr (fun t ht hW => ⟨⟨lF, rfl, trivial, by rw [ht]; exact hP9, hD9⟩, hS.F ht⟩) hS.2.2 d_DiscMakerModel_low_30
    · skip
      have g6_5 : ¬ y.toInt ≤ kx.toInt := fun h8 => h_9 ((i_le rfl rfl).mpr h8)
      refine lv_aload_n hx hb d_DiscMakerModel_low_9 rfl (lv_at hl 0 rfl) ?_
      refine lv_iload_n hx hb d_DiscMakerModel_low_10 rfl (lv_at hl 1 rfl) ?_
      refine lv_iload hx hb d_DiscMakerModel_low_11 (lv_at hl 4 rfl) ?_
      refine lv_iadd hx hb d_DiscMakerModel_low_13 ?_
      refine lv_topi (fun v1 e_v1 => ?_)
      have t_v1 : v1.toInt = x.toInt + kx.toInt := by rw [e_v1]; exact i_add rfl rfl (by omega) (by omega)
      refine lv_iload_n hx hb d_DiscMakerModel_low_14 rfl (lv_at hl 3 rfl) ?_
      refine lv_bipush (v := 8) hx hb d_DiscMakerModel_low_15 (by decide) ?_
      refine lv_iload hx hb d_DiscMakerModel_low_17 (lv_at hl 4 rfl) ?_
      refine lv_imul hx hb d_DiscMakerModel_low_19 ?_
      refine lv_topi (fun v2 e_v2 => ?_)
      have t_v2 : v2.toInt = 8 * kx.toInt := by rw [e_v2]; exact i_mul (by decide) rfl (by omega) (by omega)
      refine lv_ishr hx hb d_DiscMakerModel_low_20 ?_
      refine lv_topi (fun v3 e_v3 => ?_)
      have hPc := hP.sub (ws' := [(h0, .inr (11, MO ma sv_thrown sv_length sv_nodes sv_many sv_directories sv_runsFrom sv_runs sv_read sv_wrong sv_isNamed sv_goes sv_goesSize sv_goesAt sv_targetParts sv_isRoot)), ((ma 16), .inl (cJ, 46080, .inr (.inl lF)))]) [0, 1] rfl
      have hDc := hD.sub (ws' := [(h0, .inr (11, MO ma sv_thrown sv_length sv_nodes sv_many sv_directories sv_runsFrom sv_runs sv_read sv_wrong sv_isNamed sv_goes sv_goesSize sv_goesAt sv_targetParts sv_isRoot)), ((ma 16), .inl (cJ, 46080, .inr (.inl lF)))]) [0, 1] (by decide +kernel) rfl
      have hFc := va_free (wc := [(h0, .inr (11, MO ma sv_thrown sv_length sv_nodes sv_many sv_directories sv_runsFrom sv_runs sv_read sv_wrong sv_isNamed sv_goes sv_goesSize sv_goesAt sv_targetParts sv_isRoot)), ((ma 16), .inl (cJ, 46080, .inr (.inl lF)))]) hD hS hA [0, 1] rfl
      have hkc : 0 ≤ 0 := by decide
      have hks : 0 ≤ 0 := by decide
      refine va_callv (va_runV (C := "DiscMakerModel") (As := [.int v1, .int v3]) (rest := []) ⟨hx, hb, hml, hown, hts⟩ (m_set l D cB cI cJ cZ cN cF H.size h0 ma sv_thrown sv_length sv_nodes sv_many sv_directories sv_runsFrom sv_runs sv_read sv_wrong sv_isNamed sv_goes sv_goesSize sv_goesAt sv_targetParts sv_isRoot lF v1 v3 (by (try dsimp only); first | assumption | omega | trivial) (by (try dsimp only); first | assumption | omega | trivial)) (cwV 2 hts (lg_goodV k1727 k1729 k79 k125 kc_DiscMakerModel_set) rfl rfl rfl (by decide +kernel) ⟨Nat.le_of_ble_eq_true rfl, Nat.le_of_ble_eq_true rfl⟩) ⟨fun a U g mk q => by obtain ⟨q0, q1, qP, qK, qN, qD⟩ := q; exact ⟨q0, q1, qP, va_K.moved (u := U) (U := U.calling g mk a) (Vm.Alike.refl U.vm) qK, qN.calling, qD⟩, va_recv hK hP (ci := 11) (q0 := 0) rfl rfl, fun U hU hW => ⟨rfl, by rw [hU], by rw [hU]; exact hPc, va_K.moved hW.alike hK, NN.warm hW hN, hDc.weaken (fun _ _ _ _ => trivial)⟩⟩ rfl rfl hl.1 rfl (lv_room (Nat.le_of_ble_eq_true rfl)) d_DiscMakerModel_low_21 ⟨hkc, hks⟩) hS (fun q _ h => hFc q h) hFc (fun u t H1 locs ht hvm hp_r4 hB hz1 hk1 hS => ?_)
      obtain ⟨G_5, rfl⟩ : ∃ z, z = u := ⟨_, rfl⟩
      obtain ⟨hP1, hD1⟩ := hB
      rw [ht] at hP1
      obtain ⟨hP, hD⟩ := va_join (wr := []) (w1 := [(h0, .inr (11, MO ma sv_thrown sv_length sv_nodes sv_many sv_directories sv_runsFrom sv_runs sv_read sv_wrong sv_isNamed sv_goes sv_goesSize sv_goesAt sv_targetParts sv_isRoot)), ((ma 16), .inl (cJ, 46080, .inr (.inl G_5)))]) hP hD [0, 1] [] rfl rfl (by decide +kernel) (by decide +kernel) hk1 hFc hP1 hD1
      clear hPc hDc hFc hP1 hD1 hk1 hz1 hkc hks
      generalize H1 = H at hP hS ⊢
      have hP : va_P D CL [(h0, .inr (11, MO ma sv_thrown sv_length sv_nodes sv_many sv_directories sv_runsFrom sv_runs sv_read sv_wrong sv_isNamed sv_goes sv_goesSize sv_goesAt sv_targetParts sv_isRoot)), ((ma 16), .inl (cJ, 46080, .inr (.inl G_5)))] H := hP
      have hD : va_D A [(h0, .inr (11, MO ma sv_thrown sv_length sv_nodes sv_many sv_directories sv_runsFrom sv_runs sv_read sv_wrong sv_isNamed sv_goes sv_goesSize sv_goesAt sv_targetParts sv_isRoot)), ((ma 16), .inl (cJ, 46080, .inr (.inl G_5)))] := hD
      obtain ⟨v6, e_v6⟩ : ∃ z : Int32, z = kx + 1 := ⟨_, rfl⟩
      refine lv_iinc (v := v6) hx hb d_DiscMakerModel_low_24 hl (k := 4) rfl e_v6.symm (by decide +kernel) rfl (fun ls hl => ?_)
      have t_v6 : v6.toInt = kx.toInt + 1 := by rw [e_v6]; exact i_add rfl (by decide) (by omega) (by omega)
      have hl : lv_has ls 5 [(4, .int v6), (0, .ref h0), (1, .int x), (2, .int y), (3, .int z)] := hl
      refine lv_goto (tgt := 3) hx hb d_DiscMakerModel_low_27 (by decide) ?_
      have hP := hP.sub (ws' := [(h0, .inr (11, MO ma sv_thrown sv_length sv_nodes sv_many sv_directories sv_runsFrom sv_runs sv_read sv_wrong sv_isNamed sv_goes sv_goesSize sv_goesAt sv_targetParts sv_isRoot)), ((ma 16), .inl (cJ, 46080, .inr (.inl G_5)))]) [0, 1] rfl
      have hD := hD.sub (ws' := [(h0, .inr (11, MO ma sv_thrown sv_length sv_nodes sv_many sv_directories sv_runsFrom sv_runs sv_read sv_wrong sv_isNamed sv_goes sv_goesSize sv_goesAt sv_targetParts sv_isRoot)), ((ma 16), .inl (cJ, 46080, .inr (.inl G_5)))]) [0, 1] (by decide +kernel) rfl
      have hl := lv_sub hl [1, 2, 3, 4, 0] rfl
      exact ih3 _ (by first | omega | (dsimp only; omega)) v6 G_5 _ _ _ rfl ((by (try dsimp only); first | assumption | omega | trivial)) hP hD hS hl
  · skip
    intro kk3
    have hP := hP.sub (ws' := [(h0, .inr (11, MO ma sv_thrown sv_length sv_nodes sv_many sv_directories sv_runsFrom sv_runs sv_read sv_wrong sv_isNamed sv_goes sv_goesSize sv_goesAt sv_targetParts sv_isRoot)), ((ma 16), .inl (cJ, 46080, .inr (.inl F)))]) [0, 1] rfl
    have hD := hD.sub (ws' := [(h0, .inr (11, MO ma sv_thrown sv_length sv_nodes sv_many sv_directories sv_runsFrom sv_runs sv_read sv_wrong sv_isNamed sv_goes sv_goesSize sv_goesAt sv_targetParts sv_isRoot)), ((ma 16), .inl (cJ, 46080, .inr (.inl F)))]) [0, 1] (by decide +kernel) rfl
    have hl := lv_sub hl [1, 2, 3, 4, 0] rfl
    exact kk3 _ 0 F _ _ _ rfl ((by (try dsimp only); first | assumption | omega | trivial)) hP hD hS hl

theorem d_DiscMakerModel_high_0 : decode b_DiscMakerModel_high 0 = .ok (.iconst 0, 1) := by decide +kernel
theorem d_DiscMakerModel_high_1 : decode b_DiscMakerModel_high 1 = .ok (.istore 4, 2) := by decide +kernel
theorem d_DiscMakerModel_high_3 : decode b_DiscMakerModel_high 3 = .ok (.iload 4, 2) := by decide +kernel
theorem d_DiscMakerModel_high_5 : decode b_DiscMakerModel_high 5 = .ok (.iload_n 2, 1) := by decide +kernel
theorem d_DiscMakerModel_high_6 : decode b_DiscMakerModel_high 6 = .ok (.if_icmp .ge 28, 3) := by decide +kernel
theorem d_DiscMakerModel_high_9 : decode b_DiscMakerModel_high 9 = .ok (.aload_n 0, 1) := by decide +kernel
theorem d_DiscMakerModel_high_10 : decode b_DiscMakerModel_high 10 = .ok (.iload_n 1, 1) := by decide +kernel
theorem d_DiscMakerModel_high_11 : decode b_DiscMakerModel_high 11 = .ok (.iload 4, 2) := by decide +kernel
theorem d_DiscMakerModel_high_13 : decode b_DiscMakerModel_high 13 = .ok (.iadd, 1) := by decide +kernel
theorem d_DiscMakerModel_high_14 : decode b_DiscMakerModel_high 14 = .ok (.iload_n 3, 1) := by decide +kernel
theorem d_DiscMakerModel_high_15 : decode b_DiscMakerModel_high 15 = .ok (.bipush 8, 2) := by decide +kernel
theorem d_DiscMakerModel_high_17 : decode b_DiscMakerModel_high 17 = .ok (.iload_n 2, 1) := by decide +kernel
theorem d_DiscMakerModel_high_18 : decode b_DiscMakerModel_high 18 = .ok (.iconst 1, 1) := by decide +kernel
theorem d_DiscMakerModel_high_19 : decode b_DiscMakerModel_high 19 = .ok (.isub, 1) := by decide +kernel
theorem d_DiscMakerModel_high_20 : decode b_DiscMakerModel_high 20 = .ok (.iload 4, 2) := by decide +kernel
theorem d_DiscMakerModel_high_22 : decode b_DiscMakerModel_high 22 = .ok (.isub, 1) := by decide +kernel
theorem d_DiscMakerModel_high_23 : decode b_DiscMakerModel_high 23 = .ok (.imul, 1) := by decide +kernel
theorem d_DiscMakerModel_high_24 : decode b_DiscMakerModel_high 24 = .ok (.ishr, 1) := by decide +kernel
theorem d_DiscMakerModel_high_25 : decode b_DiscMakerModel_high 25 = .ok (.invokevirtual 192, 3) := by decide +kernel
theorem d_DiscMakerModel_high_28 : decode b_DiscMakerModel_high 28 = .ok (.iinc 4 1, 3) := by decide +kernel
theorem d_DiscMakerModel_high_31 : decode b_DiscMakerModel_high 31 = .ok (.goto (-28), 3) := by decide +kernel
theorem d_DiscMakerModel_high_34 : decode b_DiscMakerModel_high 34 = .ok (.return_, 1) := by decide +kernel
set_option maxHeartbeats 4000000 in
set_option maxRecDepth 100000 in
theorem m_high (l : Launch) (D : va_G) (cB cI cJ cZ cN cF : ClassId) (sz : Nat) (h0 : Nat) (ma : Nat → Nat) (sv_thrown sv_length sv_nodes sv_many sv_directories sv_runsFrom sv_runs sv_read sv_wrong sv_isNamed sv_goes sv_goesSize sv_goesAt sv_targetParts sv_isRoot : Int32) (F : Nat → Int64) (x : Int32) (y : Int32) (z : Int32) (hy0 : 0 ≤ y.toInt ∧ y.toInt ≤ 4) (hx0 : 0 ≤ x.toInt) (hx1 : x.toInt + y.toInt ≤ 368640) : Met l y_DiscMakerModel_high w_DiscMakerModel_high ({ frames := 1, cells := 0, slots := 0, locals := 23 }) (va_Pc [.ref h0, .int x, .int y, .int z] (fun U => U.heap.size = sz ∧ va_P D CL [(h0, .inr (11, MO ma sv_thrown sv_length sv_nodes sv_many sv_directories sv_runsFrom sv_runs sv_read sv_wrong sv_isNamed sv_goes sv_goesSize sv_goesAt sv_targetParts sv_isRoot)), ((ma 16), .inl (cJ, 46080, .inr (.inl F)))] U.heap ∧ va_K D CL (TY cB cI cJ cZ cN cF) U ∧ NN U ∧ va_D (fun _ => True) [(h0, .inr (11, MO ma sv_thrown sv_length sv_nodes sv_many sv_directories sv_runsFrom sv_runs sv_read sv_wrong sv_isNamed sv_goes sv_goesSize sv_goesAt sv_targetParts sv_isRoot)), ((ma 16), .inl (cJ, 46080, .inr (.inl F)))])) (va_Qv (fun (u : (Nat → Int64)) => True) (fun (u : (Nat → Int64)) (t : State) => match u with | G => va_P D CL [(h0, .inr (11, MO ma sv_thrown sv_length sv_nodes sv_many sv_directories sv_runsFrom sv_runs sv_read sv_wrong sv_isNamed sv_goes sv_goesSize sv_goesAt sv_targetParts sv_isRoot)), ((ma 16), .inl (cJ, 46080, .inr (.inl G)))] t.heap ∧ va_D (va_A [(h0, .inr (11, MO ma sv_thrown sv_length sv_nodes sv_many sv_directories sv_runsFrom sv_runs sv_read sv_wrong sv_isNamed sv_goes sv_goesSize sv_goesAt sv_targetParts sv_isRoot)), ((ma 16), .inl (cJ, 46080, .inr (.inl F)))] sz) [(h0, .inr (11, MO ma sv_thrown sv_length sv_nodes sv_many sv_directories sv_runsFrom sv_runs sv_read sv_wrong sv_isNamed sv_goes sv_goesSize sv_goesAt sv_targetParts sv_isRoot)), ((ma 16), .inl (cJ, 46080, .inr (.inl G)))]) (va_A [(h0, .inr (11, MO ma sv_thrown sv_length sv_nodes sv_many sv_directories sv_runsFrom sv_runs sv_read sv_wrong sv_isNamed sv_goes sv_goesSize sv_goesAt sv_targetParts sv_isRoot)), ((ma 16), .inl (cJ, 46080, .inr (.inl F)))] sz)) 0 0 (va_A [(h0, .inr (11, MO ma sv_thrown sv_length sv_nodes sv_many sv_directories sv_runsFrom sv_runs sv_read sv_wrong sv_isNamed sv_goes sv_goesSize sv_goesAt sv_targetParts sv_isRoot)), ((ma 16), .inl (cJ, 46080, .inr (.inl F)))] sz) := by
  refine Met.ofW (cc := b_DiscMakerModel_high) (maxL := 5) (ret := none) (by decide) rfl ?_
  intro p e s m args below meth c s₁ B hml hv
  obtain ⟨rfl, hsz, hP, hK, hN, hD0⟩ := hv
  have hx := B.exec
  have hb := B.bytes
  have hr := B.returns
  have hts := atoms_spec (ws := w_DiscMakerModel_high) B.pre
  have ht9 := fun (w : Cond) (h : w ∈ lw_g) => hts w (List.mem_cons_of_mem _ h)
  have hown : s.vm.findClass "DiscMakerModel" = some m.cls := findClass_of_methodNamed B.named
  have hlocks := B.notSynchronized
  subst hsz
  have hD := hD0.self (sz := s.heap.size)
  generalize hAe : va_A [(h0, .inr (11, MO ma sv_thrown sv_length sv_nodes sv_many sv_directories sv_runsFrom sv_runs sv_read sv_wrong sv_isNamed sv_goes sv_goesSize sv_goesAt sv_targetParts sv_isRoot)), ((ma 16), .inl (cJ, 46080, .inr (.inl F)))] s.heap.size = A at hD ⊢
  have hA : ∀ q : Nat, s.heap.size ≤ q → A q := fun q h => by rw [← hAe]; exact Or.inr h
  have hS : va_S A s.heap s.heap [] := va_S.rf
  have hP : va_P D CL [(h0, .inr (11, MO ma sv_thrown sv_length sv_nodes sv_many sv_directories sv_runsFrom sv_runs sv_read sv_wrong sv_isNamed sv_goes sv_goesSize sv_goesAt sv_targetParts sv_isRoot)), ((ma 16), .inl (cJ, 46080, .inr (.inl F)))] s.heap := hP
  have hl := lv_entry [.ref h0, .int x, .int y, .int z] (n := 5) (Nat.le_of_ble_eq_true rfl)
  rw [lg_entry_eq]
  generalize (lg_sl [.ref h0, .int x, .int y, .int z] ++ List.replicate (5 - (lg_sl [.ref h0, .int x, .int y, .int z]).length) Slot.unset).toArray = ls at hl ⊢
  have hl : lv_has ls 5 [(0, .ref h0), (1, .int x), (2, .int y), (3, .int z)] := hl
  have L_m1 : ((-1) : Int32).toInt = (-1) := by decide
  have L_0 : (0 : Int32).toInt = 0 := by decide
  have L_1 : (1 : Int32).toInt = 1 := by decide
  have L_8 : (8 : Int32).toInt = 8 := by decide
  refine lv_iconst (v := 0) hx hb d_DiscMakerModel_high_0 (by decide) ?_
  refine lv_istore hx hb d_DiscMakerModel_high_1 hl (by decide) rfl (fun ls hl => ?_)
  have hl : lv_has ls 5 [(4, .int 0), (0, .ref h0), (1, .int x), (2, .int y), (3, .int z)] := hl
  refine zz_labM (B := fun (lk : Nat) (K : Heap → List Loc → Array Slot → List Value → Prop) => ∀ (kx : Int32) (lF : Nat → Int64) (H : Heap) (locs : List Loc) (ls : Array Slot), lk = (y.toInt - kx.toInt).toNat → (0 ≤ kx.toInt ∧ kx.toInt ≤ y.toInt) → va_P D CL [(h0, .inr (11, MO ma sv_thrown sv_length sv_nodes sv_many sv_directories sv_runsFrom sv_runs sv_read sv_wrong sv_isNamed sv_goes sv_goesSize sv_goesAt sv_targetParts sv_isRoot)), ((ma 16), .inl (cJ, 46080, .inr (.inl lF)))] H → va_D A [(h0, .inr (11, MO ma sv_thrown sv_length sv_nodes sv_many sv_directories sv_runsFrom sv_runs sv_read sv_wrong sv_isNamed sv_goes sv_goesSize sv_goesAt sv_targetParts sv_isRoot)), ((ma 16), .inl (cJ, 46080, .inr (.inl lF)))] → va_S A s.heap H locs → lv_has ls 5 [(0, .ref h0), (1, .int x), (2, .int y), (3, .int z), (4, .int kx)] → K H locs ls []) 3 ?_ ?_
  · skip
    intro lk ih3 kx lF H locs ls hm3 f1 hP hD hS hl
    refine lv_iload hx hb d_DiscMakerModel_high_3 (lv_at hl 4 rfl) ?_
    refine lv_iload_n hx hb d_DiscMakerModel_high_5 rfl (lv_at hl 2 rfl) ?_
    refine lv_icmp_ge (tgt := 34) hx hb d_DiscMakerModel_high_6 (by decide) (fun h_9 => ?_) (fun h_9 => ?_)
    · skip
      have g6_5 : y.toInt ≤ kx.toInt := (i_le rfl rfl).mp h_9
      have hP9 := hP.sub (ws' := [(h0, .inr (11, MO ma sv_thrown sv_length sv_nodes sv_many sv_directories sv_runsFrom sv_runs sv_read sv_wrong sv_isNamed sv_goes sv_goesSize sv_goesAt sv_targetParts sv_isRoot)), ((ma 16), .inl (cJ, 46080, .inr (.inl lF)))]) [0, 1] rfl
      have hD9 := hD.sub (ws' := [(h0, .inr (11, MO ma sv_thrown sv_length sv_nodes sv_many sv_directories sv_runsFrom sv_runs sv_read sv_wrong sv_isNamed sv_goes sv_goesSize sv_goesAt sv_targetParts sv_isRoot)), ((ma 16), .inl (cJ, 46080, .inr (.inl lF)))]) [0, 1] (by decide +kernel) rfl
      exact W.vret hx hb hr (fun t ht hW => ⟨⟨lF, rfl, trivial, by rw [ht]; exact hP9, hD9⟩, hS.F ht⟩) hS.2.2 d_DiscMakerModel_high_34
    · skip
      have g6_5 : ¬ y.toInt ≤ kx.toInt := fun h8 => h_9 ((i_le rfl rfl).mpr h8)
      refine lv_aload_n hx hb d_DiscMakerModel_high_9 rfl (lv_at hl 0 rfl) ?_
      refine lv_iload_n hx hb d_DiscMakerModel_high_10 rfl (lv_at hl 1 rfl) ?_
      refine lv_iload hx hb d_DiscMakerModel_high_11 (lv_at hl 4 rfl) ?_
      refine lv_iadd hx hb d_DiscMakerModel_high_13 ?_
      refine lv_topi (fun v1 e_v1 => ?_)
      have t_v1 : v1.toInt = x.toInt + kx.toInt := by rw [e_v1]; exact i_add rfl rfl (by omega) (by omega)
      refine lv_iload_n hx hb d_DiscMakerModel_high_14 rfl (lv_at hl 3 rfl) ?_
      refine lv_bipush (v := 8) hx hb d_DiscMakerModel_high_15 (by decide) ?_
      refine lv_iload_n hx hb d_DiscMakerModel_high_17 rfl (lv_at hl 2 rfl) ?_
      refine lv_iconst (v := 1) hx hb d_DiscMakerModel_high_18 (by decide) ?_
      refine lv_isub hx hb d_DiscMakerModel_high_19 ?_
      refine lv_topi (fun v2 e_v2 => ?_)
      have t_v2 : v2.toInt = y.toInt - 1 := by rw [e_v2]; exact i_sub rfl (by decide) (by omega) (by omega)
      refine lv_iload hx hb d_DiscMakerModel_high_20 (lv_at hl 4 rfl) ?_
      refine lv_isub hx hb d_DiscMakerModel_high_22 ?_
      refine lv_topi (fun v3 e_v3 => ?_)
      have t_v3 : v3.toInt = v2.toInt - kx.toInt := by rw [e_v3]; exact i_sub rfl rfl (by omega) (by omega)
      refine lv_imul hx hb d_DiscMakerModel_high_23 ?_
      refine lv_topi (fun v4 e_v4 => ?_)
      have t_v4 : v4.toInt = 8 * v3.toInt := by rw [e_v4]; exact i_mul (by decide) rfl (by omega) (by omega)
      refine lv_ishr hx hb d_DiscMakerModel_high_24 ?_
      refine lv_topi (fun v5 e_v5 => ?_)
      have hPc := hP.sub (ws' := [(h0, .inr (11, MO ma sv_thrown sv_length sv_nodes sv_many sv_directories sv_runsFrom sv_runs sv_read sv_wrong sv_isNamed sv_goes sv_goesSize sv_goesAt sv_targetParts sv_isRoot)), ((ma 16), .inl (cJ, 46080, .inr (.inl lF)))]) [0, 1] rfl
      have hDc := hD.sub (ws' := [(h0, .inr (11, MO ma sv_thrown sv_length sv_nodes sv_many sv_directories sv_runsFrom sv_runs sv_read sv_wrong sv_isNamed sv_goes sv_goesSize sv_goesAt sv_targetParts sv_isRoot)), ((ma 16), .inl (cJ, 46080, .inr (.inl lF)))]) [0, 1] (by decide +kernel) rfl
      have hFc := va_free (wc := [(h0, .inr (11, MO ma sv_thrown sv_length sv_nodes sv_many sv_directories sv_runsFrom sv_runs sv_read sv_wrong sv_isNamed sv_goes sv_goesSize sv_goesAt sv_targetParts sv_isRoot)), ((ma 16), .inl (cJ, 46080, .inr (.inl lF)))]) hD hS hA [0, 1] rfl
      have hkc : 0 ≤ 0 := by decide
      have hks : 0 ≤ 0 := by decide
      refine va_callv (va_runV (C := "DiscMakerModel") (As := [.int v1, .int v5]) (rest := []) ⟨hx, hb, hml, hown, hts⟩ (m_set l D cB cI cJ cZ cN cF H.size h0 ma sv_thrown sv_length sv_nodes sv_many sv_directories sv_runsFrom sv_runs sv_read sv_wrong sv_isNamed sv_goes sv_goesSize sv_goesAt sv_targetParts sv_isRoot lF v1 v5 (by (try dsimp only); first | assumption | omega | trivial) (by (try dsimp only); first | assumption | omega | trivial)) (cwV 2 hts (lg_goodV k1727 k1729 k79 k125 kc_DiscMakerModel_set) rfl rfl rfl (by decide +kernel) ⟨Nat.le_of_ble_eq_true rfl, Nat.le_of_ble_eq_true rfl⟩) ⟨fun a U g mk q => by obtain ⟨q0, q1, qP, qK, qN, qD⟩ := q; exact ⟨q0, q1, qP, va_K.moved (u := U) (U := U.calling g mk a) (Vm.Alike.refl U.vm) qK, qN.calling, qD⟩, va_recv hK hP (ci := 11) (q0 := 0) rfl rfl, fun U hU hW => ⟨rfl, by rw [hU], by rw [hU]; exact hPc, va_K.moved hW.alike hK, NN.warm hW hN, hDc.weaken (fun _ _ _ _ => trivial)⟩⟩ rfl rfl hl.1 rfl (lv_room (Nat.le_of_ble_eq_true rfl)) d_DiscMakerModel_high_25 ⟨hkc, hks⟩) hS (fun q _ h => hFc q h) hFc (fun u t H1 locs ht hvm hp_r6 hB hz1 hk1 hS => ?_)
      obtain ⟨G_7, rfl⟩ : ∃ z, z = u := ⟨_, rfl⟩
      obtain ⟨hP1, hD1⟩ := hB
      rw [ht] at hP1
      obtain ⟨hP, hD⟩ := va_join (wr := []) (w1 := [(h0, .inr (11, MO ma sv_thrown sv_length sv_nodes sv_many sv_directories sv_runsFrom sv_runs sv_read sv_wrong sv_isNamed sv_goes sv_goesSize sv_goesAt sv_targetParts sv_isRoot)), ((ma 16), .inl (cJ, 46080, .inr (.inl G_7)))]) hP hD [0, 1] [] rfl rfl (by decide +kernel) (by decide +kernel) hk1 hFc hP1 hD1
      clear hPc hDc hFc hP1 hD1 hk1 hz1 hkc hks
      generalize H1 = H at hP hS ⊢
      have hP : va_P D CL [(h0, .inr (11, MO ma sv_thrown sv_length sv_nodes sv_many sv_directories sv_runsFrom sv_runs sv_read sv_wrong sv_isNamed sv_goes sv_goesSize sv_goesAt sv_targetParts sv_isRoot)), ((ma 16), .inl (cJ, 46080, .inr (.inl G_7)))] H := hP
      have hD : va_D A [(h0, .inr (11, MO ma sv_thrown sv_length sv_nodes sv_many sv_directories sv_runsFrom sv_runs sv_read sv_wrong sv_isNamed sv_goes sv_goesSize sv_goesAt sv_targetParts sv_isRoot)), ((ma 16), .inl (cJ, 46080, .inr (.inl G_7)))] := hD
      obtain ⟨v8, e_v8⟩ : ∃ z : Int32, z = kx + 1 := ⟨_, rfl⟩
      refine lv_iinc (v := v8) hx hb d_DiscMakerModel_high_28 hl (k := 4) rfl e_v8.symm (by decide +kernel) rfl (fun ls hl => ?_)
      have t_v8 : v8.toInt = kx.toInt + 1 := by rw [e_v8]; exact i_add rfl (by decide) (by omega) (by omega)
      have hl : lv_has ls 5 [(4, .int v8), (0, .ref h0), (1, .int x), (2, .int y), (3, .int z)] := hl
      refine lv_goto (tgt := 3) hx hb d_DiscMakerModel_high_31 (by decide) ?_
      have hP := hP.sub (ws' := [(h0, .inr (11, MO ma sv_thrown sv_length sv_nodes sv_many sv_directories sv_runsFrom sv_runs sv_read sv_wrong sv_isNamed sv_goes sv_goesSize sv_goesAt sv_targetParts sv_isRoot)), ((ma 16), .inl (cJ, 46080, .inr (.inl G_7)))]) [0, 1] rfl
      have hD := hD.sub (ws' := [(h0, .inr (11, MO ma sv_thrown sv_length sv_nodes sv_many sv_directories sv_runsFrom sv_runs sv_read sv_wrong sv_isNamed sv_goes sv_goesSize sv_goesAt sv_targetParts sv_isRoot)), ((ma 16), .inl (cJ, 46080, .inr (.inl G_7)))]) [0, 1] (by decide +kernel) rfl
      have hl := lv_sub hl [1, 2, 3, 4, 0] rfl
      exact ih3 _ (by first | omega | (dsimp only; omega)) v8 G_7 _ _ _ rfl ((by (try dsimp only); first | assumption | omega | trivial)) hP hD hS hl
  · skip
    intro kk3
    have hP := hP.sub (ws' := [(h0, .inr (11, MO ma sv_thrown sv_length sv_nodes sv_many sv_directories sv_runsFrom sv_runs sv_read sv_wrong sv_isNamed sv_goes sv_goesSize sv_goesAt sv_targetParts sv_isRoot)), ((ma 16), .inl (cJ, 46080, .inr (.inl F)))]) [0, 1] rfl
    have hD := hD.sub (ws' := [(h0, .inr (11, MO ma sv_thrown sv_length sv_nodes sv_many sv_directories sv_runsFrom sv_runs sv_read sv_wrong sv_isNamed sv_goes sv_goesSize sv_goesAt sv_targetParts sv_isRoot)), ((ma 16), .inl (cJ, 46080, .inr (.inl F)))]) [0, 1] (by decide +kernel) rfl
    have hl := lv_sub hl [1, 2, 3, 4, 0] rfl
    exact kk3 _ 0 F _ _ _ rfl ((by (try dsimp only); first | assumption | omega | trivial)) hP hD hS hl

theorem d_DiscMakerModel_both_0 : decode b_DiscMakerModel_both 0 = .ok (.aload_n 0, 1) := by decide +kernel
theorem d_DiscMakerModel_both_1 : decode b_DiscMakerModel_both 1 = .ok (.iload_n 1, 1) := by decide +kernel
theorem d_DiscMakerModel_both_2 : decode b_DiscMakerModel_both 2 = .ok (.iload_n 2, 1) := by decide +kernel
theorem d_DiscMakerModel_both_3 : decode b_DiscMakerModel_both 3 = .ok (.iload_n 3, 1) := by decide +kernel
theorem d_DiscMakerModel_both_4 : decode b_DiscMakerModel_both 4 = .ok (.invokevirtual 196, 3) := by decide +kernel
theorem d_DiscMakerModel_both_7 : decode b_DiscMakerModel_both 7 = .ok (.aload_n 0, 1) := by decide +kernel
theorem d_DiscMakerModel_both_8 : decode b_DiscMakerModel_both 8 = .ok (.iload_n 1, 1) := by decide +kernel
theorem d_DiscMakerModel_both_9 : decode b_DiscMakerModel_both 9 = .ok (.iload_n 2, 1) := by decide +kernel
theorem d_DiscMakerModel_both_10 : decode b_DiscMakerModel_both 10 = .ok (.iadd, 1) := by decide +kernel
theorem d_DiscMakerModel_both_11 : decode b_DiscMakerModel_both 11 = .ok (.iload_n 2, 1) := by decide +kernel
theorem d_DiscMakerModel_both_12 : decode b_DiscMakerModel_both 12 = .ok (.iload_n 3, 1) := by decide +kernel
theorem d_DiscMakerModel_both_13 : decode b_DiscMakerModel_both 13 = .ok (.invokevirtual 200, 3) := by decide +kernel
theorem d_DiscMakerModel_both_16 : decode b_DiscMakerModel_both 16 = .ok (.return_, 1) := by decide +kernel
set_option maxHeartbeats 4000000 in
set_option maxRecDepth 100000 in
theorem m_both (l : Launch) (D : va_G) (cB cI cJ cZ cN cF : ClassId) (sz : Nat) (h0 : Nat) (ma : Nat → Nat) (sv_thrown sv_length sv_nodes sv_many sv_directories sv_runsFrom sv_runs sv_read sv_wrong sv_isNamed sv_goes sv_goesSize sv_goesAt sv_targetParts sv_isRoot : Int32) (F : Nat → Int64) (x : Int32) (y : Int32) (z : Int32) (hy0 : 0 ≤ y.toInt ∧ y.toInt ≤ 4) (hx0 : 0 ≤ x.toInt) (hx1 : x.toInt + 2 * y.toInt ≤ 368640) : Met l y_DiscMakerModel_both w_DiscMakerModel_both ({ frames := 2, cells := 0, slots := 0, locals := 47 }) (va_Pc [.ref h0, .int x, .int y, .int z] (fun U => U.heap.size = sz ∧ va_P D CL [(h0, .inr (11, MO ma sv_thrown sv_length sv_nodes sv_many sv_directories sv_runsFrom sv_runs sv_read sv_wrong sv_isNamed sv_goes sv_goesSize sv_goesAt sv_targetParts sv_isRoot)), ((ma 16), .inl (cJ, 46080, .inr (.inl F)))] U.heap ∧ va_K D CL (TY cB cI cJ cZ cN cF) U ∧ NN U ∧ va_D (fun _ => True) [(h0, .inr (11, MO ma sv_thrown sv_length sv_nodes sv_many sv_directories sv_runsFrom sv_runs sv_read sv_wrong sv_isNamed sv_goes sv_goesSize sv_goesAt sv_targetParts sv_isRoot)), ((ma 16), .inl (cJ, 46080, .inr (.inl F)))])) (va_Qv (fun (u : (Nat → Int64)) => True) (fun (u : (Nat → Int64)) (t : State) => match u with | G => va_P D CL [(h0, .inr (11, MO ma sv_thrown sv_length sv_nodes sv_many sv_directories sv_runsFrom sv_runs sv_read sv_wrong sv_isNamed sv_goes sv_goesSize sv_goesAt sv_targetParts sv_isRoot)), ((ma 16), .inl (cJ, 46080, .inr (.inl G)))] t.heap ∧ va_D (va_A [(h0, .inr (11, MO ma sv_thrown sv_length sv_nodes sv_many sv_directories sv_runsFrom sv_runs sv_read sv_wrong sv_isNamed sv_goes sv_goesSize sv_goesAt sv_targetParts sv_isRoot)), ((ma 16), .inl (cJ, 46080, .inr (.inl F)))] sz) [(h0, .inr (11, MO ma sv_thrown sv_length sv_nodes sv_many sv_directories sv_runsFrom sv_runs sv_read sv_wrong sv_isNamed sv_goes sv_goesSize sv_goesAt sv_targetParts sv_isRoot)), ((ma 16), .inl (cJ, 46080, .inr (.inl G)))]) (va_A [(h0, .inr (11, MO ma sv_thrown sv_length sv_nodes sv_many sv_directories sv_runsFrom sv_runs sv_read sv_wrong sv_isNamed sv_goes sv_goesSize sv_goesAt sv_targetParts sv_isRoot)), ((ma 16), .inl (cJ, 46080, .inr (.inl F)))] sz)) 0 0 (va_A [(h0, .inr (11, MO ma sv_thrown sv_length sv_nodes sv_many sv_directories sv_runsFrom sv_runs sv_read sv_wrong sv_isNamed sv_goes sv_goesSize sv_goesAt sv_targetParts sv_isRoot)), ((ma 16), .inl (cJ, 46080, .inr (.inl F)))] sz) := by
  refine Met.ofW (cc := b_DiscMakerModel_both) (maxL := 4) (ret := none) (by decide) rfl ?_
  intro p e s m args below meth c s₁ B hml hv
  obtain ⟨rfl, hsz, hP, hK, hN, hD0⟩ := hv
  have hx := B.exec
  have hb := B.bytes
  have hr := B.returns
  have hts := atoms_spec (ws := w_DiscMakerModel_both) B.pre
  have ht9 := fun (w : Cond) (h : w ∈ lw_g) => hts w (List.mem_cons_of_mem _ h)
  have hown : s.vm.findClass "DiscMakerModel" = some m.cls := findClass_of_methodNamed B.named
  have hlocks := B.notSynchronized
  subst hsz
  have hD := hD0.self (sz := s.heap.size)
  generalize hAe : va_A [(h0, .inr (11, MO ma sv_thrown sv_length sv_nodes sv_many sv_directories sv_runsFrom sv_runs sv_read sv_wrong sv_isNamed sv_goes sv_goesSize sv_goesAt sv_targetParts sv_isRoot)), ((ma 16), .inl (cJ, 46080, .inr (.inl F)))] s.heap.size = A at hD ⊢
  have hA : ∀ q : Nat, s.heap.size ≤ q → A q := fun q h => by rw [← hAe]; exact Or.inr h
  have hS : va_S A s.heap s.heap [] := va_S.rf
  have hP : va_P D CL [(h0, .inr (11, MO ma sv_thrown sv_length sv_nodes sv_many sv_directories sv_runsFrom sv_runs sv_read sv_wrong sv_isNamed sv_goes sv_goesSize sv_goesAt sv_targetParts sv_isRoot)), ((ma 16), .inl (cJ, 46080, .inr (.inl F)))] s.heap := hP
  have hl := lv_entry [.ref h0, .int x, .int y, .int z] (n := 4) (Nat.le_of_ble_eq_true rfl)
  rw [lg_entry_eq]
  generalize (lg_sl [.ref h0, .int x, .int y, .int z] ++ List.replicate (4 - (lg_sl [.ref h0, .int x, .int y, .int z]).length) Slot.unset).toArray = ls at hl ⊢
  have hl : lv_has ls 4 [(0, .ref h0), (1, .int x), (2, .int y), (3, .int z)] := hl
  have L_m1 : ((-1) : Int32).toInt = (-1) := by decide
  have L_0 : (0 : Int32).toInt = 0 := by decide
  have L_1 : (1 : Int32).toInt = 1 := by decide
  refine lv_aload_n hx hb d_DiscMakerModel_both_0 rfl (lv_at hl 0 rfl) ?_
  refine lv_iload_n hx hb d_DiscMakerModel_both_1 rfl (lv_at hl 1 rfl) ?_
  refine lv_iload_n hx hb d_DiscMakerModel_both_2 rfl (lv_at hl 2 rfl) ?_
  refine lv_iload_n hx hb d_DiscMakerModel_both_3 rfl (lv_at hl 3 rfl) ?_
  have hPc := hP.sub (ws' := [(h0, .inr (11, MO ma sv_thrown sv_length sv_nodes sv_many sv_directories sv_runsFrom sv_runs sv_read sv_wrong sv_isNamed sv_goes sv_goesSize sv_goesAt sv_targetParts sv_isRoot)), ((ma 16), .inl (cJ, 46080, .inr (.inl F)))]) [0, 1] rfl
  have hDc := hD.sub (ws' := [(h0, .inr (11, MO ma sv_thrown sv_length sv_nodes sv_many sv_directories sv_runsFrom sv_runs sv_read sv_wrong sv_isNamed sv_goes sv_goesSize sv_goesAt sv_targetParts sv_isRoot)), ((ma 16), .inl (cJ, 46080, .inr (.inl F)))]) [0, 1] (by decide +kernel) rfl
  have hFc := va_free (wc := [(h0, .inr (11, MO ma sv_thrown sv_length sv_nodes sv_many sv_directories sv_runsFrom sv_runs sv_read sv_wrong sv_isNamed sv_goes sv_goesSize sv_goesAt sv_targetParts sv_isRoot)), ((ma 16), .inl (cJ, 46080, .inr (.inl F)))]) hD hS hA [0, 1] rfl
  have hkc : 0 ≤ 0 := by decide
  have hks : 0 ≤ 0 := by decide
  refine va_callv (va_runV (C := "DiscMakerModel") (As := [.int x, .int y, .int z]) (rest := []) ⟨hx, hb, hml, hown, hts⟩ (m_low l D cB cI cJ cZ cN cF s.heap.size h0 ma sv_thrown sv_length sv_nodes sv_many sv_directories sv_runsFrom sv_runs sv_read sv_wrong sv_isNamed sv_goes sv_goesSize sv_goesAt sv_targetParts sv_isRoot F x y z (by (try dsimp only); first | assumption | omega | trivial) (by (try dsimp only); first | assumption | omega | trivial) (by (try dsimp only); first | assumption | omega | trivial)) (cwV 3 hts (lg_goodV k1744 k1746 k82 k125 kc_DiscMakerModel_low) rfl rfl rfl (by decide +kernel) ⟨Nat.le_of_ble_eq_true rfl, Nat.le_of_ble_eq_true rfl⟩) ⟨fun a U g mk q => by obtain ⟨q0, q1, qP, qK, qN, qD⟩ := q; exact ⟨q0, q1, qP, va_K.moved (u := U) (U := U.calling g mk a) (Vm.Alike.refl U.vm) qK, qN.calling, qD⟩, va_recv hK hP (ci := 11) (q0 := 0) rfl rfl, fun U hU hW => ⟨rfl, by rw [hU], by rw [hU]; exact hPc, va_K.moved hW.alike hK, NN.warm hW hN, hDc.weaken (fun _ _ _ _ => trivial)⟩⟩ rfl rfl hl.1 rfl (lv_room (Nat.le_of_ble_eq_true rfl)) d_DiscMakerModel_both_4 ⟨hkc, hks⟩) hS (fun q _ h => hFc q h) hFc (fun u t H1 locs ht hvm hp_r1 hB hz1 hk1 hS => ?_)
  obtain ⟨G_2, rfl⟩ : ∃ z, z = u := ⟨_, rfl⟩
  obtain ⟨hP1, hD1⟩ := hB
  rw [ht] at hP1
  obtain ⟨hP, hD⟩ := va_join (wr := []) (w1 := [(h0, .inr (11, MO ma sv_thrown sv_length sv_nodes sv_many sv_directories sv_runsFrom sv_runs sv_read sv_wrong sv_isNamed sv_goes sv_goesSize sv_goesAt sv_targetParts sv_isRoot)), ((ma 16), .inl (cJ, 46080, .inr (.inl G_2)))]) hP hD [0, 1] [] rfl rfl (by decide +kernel) (by decide +kernel) hk1 hFc hP1 hD1
  clear hPc hDc hFc hP1 hD1 hk1 hz1 hkc hks
  generalize H1 = H at hP hS ⊢
  have hP : va_P D CL [(h0, .inr (11, MO ma sv_thrown sv_length sv_nodes sv_many sv_directories sv_runsFrom sv_runs sv_read sv_wrong sv_isNamed sv_goes sv_goesSize sv_goesAt sv_targetParts sv_isRoot)), ((ma 16), .inl (cJ, 46080, .inr (.inl G_2)))] H := hP
  have hD : va_D A [(h0, .inr (11, MO ma sv_thrown sv_length sv_nodes sv_many sv_directories sv_runsFrom sv_runs sv_read sv_wrong sv_isNamed sv_goes sv_goesSize sv_goesAt sv_targetParts sv_isRoot)), ((ma 16), .inl (cJ, 46080, .inr (.inl G_2)))] := hD
  refine lv_aload_n hx hb d_DiscMakerModel_both_7 rfl (lv_at hl 0 rfl) ?_
  refine lv_iload_n hx hb d_DiscMakerModel_both_8 rfl (lv_at hl 1 rfl) ?_
  refine lv_iload_n hx hb d_DiscMakerModel_both_9 rfl (lv_at hl 2 rfl) ?_
  refine lv_iadd hx hb d_DiscMakerModel_both_10 ?_
  refine lv_topi (fun v3 e_v3 => ?_)
  have t_v3 : v3.toInt = x.toInt + y.toInt := by rw [e_v3]; exact i_add rfl rfl (by omega) (by omega)
  refine lv_iload_n hx hb d_DiscMakerModel_both_11 rfl (lv_at hl 2 rfl) ?_
  refine lv_iload_n hx hb d_DiscMakerModel_both_12 rfl (lv_at hl 3 rfl) ?_
  have hPc := hP.sub (ws' := [(h0, .inr (11, MO ma sv_thrown sv_length sv_nodes sv_many sv_directories sv_runsFrom sv_runs sv_read sv_wrong sv_isNamed sv_goes sv_goesSize sv_goesAt sv_targetParts sv_isRoot)), ((ma 16), .inl (cJ, 46080, .inr (.inl G_2)))]) [0, 1] rfl
  have hDc := hD.sub (ws' := [(h0, .inr (11, MO ma sv_thrown sv_length sv_nodes sv_many sv_directories sv_runsFrom sv_runs sv_read sv_wrong sv_isNamed sv_goes sv_goesSize sv_goesAt sv_targetParts sv_isRoot)), ((ma 16), .inl (cJ, 46080, .inr (.inl G_2)))]) [0, 1] (by decide +kernel) rfl
  have hFc := va_free (wc := [(h0, .inr (11, MO ma sv_thrown sv_length sv_nodes sv_many sv_directories sv_runsFrom sv_runs sv_read sv_wrong sv_isNamed sv_goes sv_goesSize sv_goesAt sv_targetParts sv_isRoot)), ((ma 16), .inl (cJ, 46080, .inr (.inl G_2)))]) hD hS hA [0, 1] rfl
  have hkc : 0 ≤ 0 := by decide
  have hks : 0 ≤ 0 := by decide
  refine va_callv (va_runV (C := "DiscMakerModel") (As := [.int v3, .int y, .int z]) (rest := []) ⟨hx, hb, hml, hown, hts⟩ (m_high l D cB cI cJ cZ cN cF H.size h0 ma sv_thrown sv_length sv_nodes sv_many sv_directories sv_runsFrom sv_runs sv_read sv_wrong sv_isNamed sv_goes sv_goesSize sv_goesAt sv_targetParts sv_isRoot G_2 v3 y z (by (try dsimp only); first | assumption | omega | trivial) (by (try dsimp only); first | assumption | omega | trivial) (by (try dsimp only); first | assumption | omega | trivial)) (cwV 3 hts (lg_goodV k1748 k1750 k83 k125 kc_DiscMakerModel_high) rfl rfl rfl (by decide +kernel) ⟨Nat.le_of_ble_eq_true rfl, Nat.le_of_ble_eq_true rfl⟩) ⟨fun a U g mk q => by obtain ⟨q0, q1, qP, qK, qN, qD⟩ := q; exact ⟨q0, q1, qP, va_K.moved (u := U) (U := U.calling g mk a) (Vm.Alike.refl U.vm) qK, qN.calling, qD⟩, va_recv hK hP (ci := 11) (q0 := 0) rfl rfl, fun U hU hW => ⟨rfl, by rw [hU], by rw [hU]; exact hPc, va_K.moved hW.alike hK, NN.warm hW hN, hDc.weaken (fun _ _ _ _ => trivial)⟩⟩ rfl rfl hl.1 rfl (lv_room (Nat.le_of_ble_eq_true rfl)) d_DiscMakerModel_both_13 ⟨hkc, hks⟩) hS (fun q _ h => hFc q h) hFc (fun u t H1 locs ht hvm hp_r4 hB hz1 hk1 hS => ?_)
  obtain ⟨G_5, rfl⟩ : ∃ z, z = u := ⟨_, rfl⟩
  obtain ⟨hP1, hD1⟩ := hB
  rw [ht] at hP1
  obtain ⟨hP, hD⟩ := va_join (wr := []) (w1 := [(h0, .inr (11, MO ma sv_thrown sv_length sv_nodes sv_many sv_directories sv_runsFrom sv_runs sv_read sv_wrong sv_isNamed sv_goes sv_goesSize sv_goesAt sv_targetParts sv_isRoot)), ((ma 16), .inl (cJ, 46080, .inr (.inl G_5)))]) hP hD [0, 1] [] rfl rfl (by decide +kernel) (by decide +kernel) hk1 hFc hP1 hD1
  clear hPc hDc hFc hP1 hD1 hk1 hz1 hkc hks
  generalize H1 = H at hP hS ⊢
  have hP : va_P D CL [(h0, .inr (11, MO ma sv_thrown sv_length sv_nodes sv_many sv_directories sv_runsFrom sv_runs sv_read sv_wrong sv_isNamed sv_goes sv_goesSize sv_goesAt sv_targetParts sv_isRoot)), ((ma 16), .inl (cJ, 46080, .inr (.inl G_5)))] H := hP
  have hD : va_D A [(h0, .inr (11, MO ma sv_thrown sv_length sv_nodes sv_many sv_directories sv_runsFrom sv_runs sv_read sv_wrong sv_isNamed sv_goes sv_goesSize sv_goesAt sv_targetParts sv_isRoot)), ((ma 16), .inl (cJ, 46080, .inr (.inl G_5)))] := hD
  have hP9 := hP.sub (ws' := [(h0, .inr (11, MO ma sv_thrown sv_length sv_nodes sv_many sv_directories sv_runsFrom sv_runs sv_read sv_wrong sv_isNamed sv_goes sv_goesSize sv_goesAt sv_targetParts sv_isRoot)), ((ma 16), .inl (cJ, 46080, .inr (.inl G_5)))]) [0, 1] rfl
  have hD9 := hD.sub (ws' := [(h0, .inr (11, MO ma sv_thrown sv_length sv_nodes sv_many sv_directories sv_runsFrom sv_runs sv_read sv_wrong sv_isNamed sv_goes sv_goesSize sv_goesAt sv_targetParts sv_isRoot)), ((ma 16), .inl (cJ, 46080, .inr (.inl G_5)))]) [0, 1] (by decide +kernel) rfl
  exact W.vret hx hb hr (fun t ht hW => ⟨⟨G_5, rfl, trivial, by rw [ht]; exact hP9, hD9⟩, hS.F ht⟩) hS.2.2 d_DiscMakerModel_both_16

theorem d_DiscMakerModel_stamp_0 : decode b_DiscMakerModel_stamp 0 = .ok (.aload_n 0, 1) := by decide +kernel
theorem d_DiscMakerModel_stamp_1 : decode b_DiscMakerModel_stamp 1 = .ok (.iload_n 1, 1) := by decide +kernel
theorem d_DiscMakerModel_stamp_2 : decode b_DiscMakerModel_stamp 2 = .ok (.bipush 18, 2) := by decide +kernel
theorem d_DiscMakerModel_stamp_4 : decode b_DiscMakerModel_stamp 4 = .ok (.iadd, 1) := by decide +kernel
theorem d_DiscMakerModel_stamp_5 : decode b_DiscMakerModel_stamp 5 = .ok (.bipush 100, 2) := by decide +kernel
theorem d_DiscMakerModel_stamp_7 : decode b_DiscMakerModel_stamp 7 = .ok (.invokevirtual 192, 3) := by decide +kernel
theorem d_DiscMakerModel_stamp_10 : decode b_DiscMakerModel_stamp 10 = .ok (.aload_n 0, 1) := by decide +kernel
theorem d_DiscMakerModel_stamp_11 : decode b_DiscMakerModel_stamp 11 = .ok (.iload_n 1, 1) := by decide +kernel
theorem d_DiscMakerModel_stamp_12 : decode b_DiscMakerModel_stamp 12 = .ok (.bipush 19, 2) := by decide +kernel
theorem d_DiscMakerModel_stamp_14 : decode b_DiscMakerModel_stamp 14 = .ok (.iadd, 1) := by decide +kernel
theorem d_DiscMakerModel_stamp_15 : decode b_DiscMakerModel_stamp 15 = .ok (.iconst 1, 1) := by decide +kernel
theorem d_DiscMakerModel_stamp_16 : decode b_DiscMakerModel_stamp 16 = .ok (.invokevirtual 192, 3) := by decide +kernel
theorem d_DiscMakerModel_stamp_19 : decode b_DiscMakerModel_stamp 19 = .ok (.aload_n 0, 1) := by decide +kernel
theorem d_DiscMakerModel_stamp_20 : decode b_DiscMakerModel_stamp 20 = .ok (.iload_n 1, 1) := by decide +kernel
theorem d_DiscMakerModel_stamp_21 : decode b_DiscMakerModel_stamp 21 = .ok (.bipush 20, 2) := by decide +kernel
theorem d_DiscMakerModel_stamp_23 : decode b_DiscMakerModel_stamp 23 = .ok (.iadd, 1) := by decide +kernel
theorem d_DiscMakerModel_stamp_24 : decode b_DiscMakerModel_stamp 24 = .ok (.iconst 1, 1) := by decide +kernel
theorem d_DiscMakerModel_stamp_25 : decode b_DiscMakerModel_stamp 25 = .ok (.invokevirtual 192, 3) := by decide +kernel
theorem d_DiscMakerModel_stamp_28 : decode b_DiscMakerModel_stamp 28 = .ok (.return_, 1) := by decide +kernel
set_option maxHeartbeats 4000000 in
set_option maxRecDepth 100000 in
theorem m_stamp (l : Launch) (D : va_G) (cB cI cJ cZ cN cF : ClassId) (sz : Nat) (h0 : Nat) (ma : Nat → Nat) (sv_thrown sv_length sv_nodes sv_many sv_directories sv_runsFrom sv_runs sv_read sv_wrong sv_isNamed sv_goes sv_goesSize sv_goesAt sv_targetParts sv_isRoot : Int32) (F : Nat → Int64) (x : Int32) (hx0 : 0 ≤ x.toInt) (hx1 : x.toInt + 21 ≤ 368640) : Met l y_DiscMakerModel_stamp w_DiscMakerModel_stamp ({ frames := 1, cells := 0, slots := 0, locals := 23 }) (va_Pc [.ref h0, .int x] (fun U => U.heap.size = sz ∧ va_P D CL [(h0, .inr (11, MO ma sv_thrown sv_length sv_nodes sv_many sv_directories sv_runsFrom sv_runs sv_read sv_wrong sv_isNamed sv_goes sv_goesSize sv_goesAt sv_targetParts sv_isRoot)), ((ma 16), .inl (cJ, 46080, .inr (.inl F)))] U.heap ∧ va_K D CL (TY cB cI cJ cZ cN cF) U ∧ NN U ∧ va_D (fun _ => True) [(h0, .inr (11, MO ma sv_thrown sv_length sv_nodes sv_many sv_directories sv_runsFrom sv_runs sv_read sv_wrong sv_isNamed sv_goes sv_goesSize sv_goesAt sv_targetParts sv_isRoot)), ((ma 16), .inl (cJ, 46080, .inr (.inl F)))])) (va_Qv (fun (u : (Nat → Int64)) => True) (fun (u : (Nat → Int64)) (t : State) => match u with | G => va_P D CL [(h0, .inr (11, MO ma sv_thrown sv_length sv_nodes sv_many sv_directories sv_runsFrom sv_runs sv_read sv_wrong sv_isNamed sv_goes sv_goesSize sv_goesAt sv_targetParts sv_isRoot)), ((ma 16), .inl (cJ, 46080, .inr (.inl G)))] t.heap ∧ va_D (va_A [(h0, .inr (11, MO ma sv_thrown sv_length sv_nodes sv_many sv_directories sv_runsFrom sv_runs sv_read sv_wrong sv_isNamed sv_goes sv_goesSize sv_goesAt sv_targetParts sv_isRoot)), ((ma 16), .inl (cJ, 46080, .inr (.inl F)))] sz) [(h0, .inr (11, MO ma sv_thrown sv_length sv_nodes sv_many sv_directories sv_runsFrom sv_runs sv_read sv_wrong sv_isNamed sv_goes sv_goesSize sv_goesAt sv_targetParts sv_isRoot)), ((ma 16), .inl (cJ, 46080, .inr (.inl G)))]) (va_A [(h0, .inr (11, MO ma sv_thrown sv_length sv_nodes sv_many sv_directories sv_runsFrom sv_runs sv_read sv_wrong sv_isNamed sv_goes sv_goesSize sv_goesAt sv_targetParts sv_isRoot)), ((ma 16), .inl (cJ, 46080, .inr (.inl F)))] sz)) 0 0 (va_A [(h0, .inr (11, MO ma sv_thrown sv_length sv_nodes sv_many sv_directories sv_runsFrom sv_runs sv_read sv_wrong sv_isNamed sv_goes sv_goesSize sv_goesAt sv_targetParts sv_isRoot)), ((ma 16), .inl (cJ, 46080, .inr (.inl F)))] sz) := by
  refine Met.ofW (cc := b_DiscMakerModel_stamp) (maxL := 2) (ret := none) (by decide) rfl ?_
  intro p e s m args below meth c s₁ B hml hv
  obtain ⟨rfl, hsz, hP, hK, hN, hD0⟩ := hv
  have hx := B.exec
  have hb := B.bytes
  have hr := B.returns
  have hts := atoms_spec (ws := w_DiscMakerModel_stamp) B.pre
  have ht9 := fun (w : Cond) (h : w ∈ lw_g) => hts w (List.mem_cons_of_mem _ h)
  have hown : s.vm.findClass "DiscMakerModel" = some m.cls := findClass_of_methodNamed B.named
  have hlocks := B.notSynchronized
  subst hsz
  have hD := hD0.self (sz := s.heap.size)
  generalize hAe : va_A [(h0, .inr (11, MO ma sv_thrown sv_length sv_nodes sv_many sv_directories sv_runsFrom sv_runs sv_read sv_wrong sv_isNamed sv_goes sv_goesSize sv_goesAt sv_targetParts sv_isRoot)), ((ma 16), .inl (cJ, 46080, .inr (.inl F)))] s.heap.size = A at hD ⊢
  have hA : ∀ q : Nat, s.heap.size ≤ q → A q := fun q h => by rw [← hAe]; exact Or.inr h
  have hS : va_S A s.heap s.heap [] := va_S.rf
  have hP : va_P D CL [(h0, .inr (11, MO ma sv_thrown sv_length sv_nodes sv_many sv_directories sv_runsFrom sv_runs sv_read sv_wrong sv_isNamed sv_goes sv_goesSize sv_goesAt sv_targetParts sv_isRoot)), ((ma 16), .inl (cJ, 46080, .inr (.inl F)))] s.heap := hP
  have hl := lv_entry [.ref h0, .int x] (n := 2) (Nat.le_of_ble_eq_true rfl)
  rw [lg_entry_eq]
  generalize (lg_sl [.ref h0, .int x] ++ List.replicate (2 - (lg_sl [.ref h0, .int x]).length) Slot.unset).toArray = ls at hl ⊢
  have hl : lv_has ls 2 [(0, .ref h0), (1, .int x)] := hl
  have L_m1 : ((-1) : Int32).toInt = (-1) := by decide
  have L_0 : (0 : Int32).toInt = 0 := by decide
  have L_1 : (1 : Int32).toInt = 1 := by decide
  have L_18 : (18 : Int32).toInt = 18 := by decide
  have L_19 : (19 : Int32).toInt = 19 := by decide
  have L_20 : (20 : Int32).toInt = 20 := by decide
  have L_100 : (100 : Int32).toInt = 100 := by decide
  refine lv_aload_n hx hb d_DiscMakerModel_stamp_0 rfl (lv_at hl 0 rfl) ?_
  refine lv_iload_n hx hb d_DiscMakerModel_stamp_1 rfl (lv_at hl 1 rfl) ?_
  refine lv_bipush (v := 18) hx hb d_DiscMakerModel_stamp_2 (by decide) ?_
  refine lv_iadd hx hb d_DiscMakerModel_stamp_4 ?_
  refine lv_topi (fun v1 e_v1 => ?_)
  have t_v1 : v1.toInt = x.toInt + 18 := by rw [e_v1]; exact i_add rfl (by decide) (by omega) (by omega)
  refine lv_bipush (v := 100) hx hb d_DiscMakerModel_stamp_5 (by decide) ?_
  have hPc := hP.sub (ws' := [(h0, .inr (11, MO ma sv_thrown sv_length sv_nodes sv_many sv_directories sv_runsFrom sv_runs sv_read sv_wrong sv_isNamed sv_goes sv_goesSize sv_goesAt sv_targetParts sv_isRoot)), ((ma 16), .inl (cJ, 46080, .inr (.inl F)))]) [0, 1] rfl
  have hDc := hD.sub (ws' := [(h0, .inr (11, MO ma sv_thrown sv_length sv_nodes sv_many sv_directories sv_runsFrom sv_runs sv_read sv_wrong sv_isNamed sv_goes sv_goesSize sv_goesAt sv_targetParts sv_isRoot)), ((ma 16), .inl (cJ, 46080, .inr (.inl F)))]) [0, 1] (by decide +kernel) rfl
  have hFc := va_free (wc := [(h0, .inr (11, MO ma sv_thrown sv_length sv_nodes sv_many sv_directories sv_runsFrom sv_runs sv_read sv_wrong sv_isNamed sv_goes sv_goesSize sv_goesAt sv_targetParts sv_isRoot)), ((ma 16), .inl (cJ, 46080, .inr (.inl F)))]) hD hS hA [0, 1] rfl
  have hkc : 0 ≤ 0 := by decide
  have hks : 0 ≤ 0 := by decide
  refine va_callv (va_runV (C := "DiscMakerModel") (As := [.int v1, .int 100]) (rest := []) ⟨hx, hb, hml, hown, hts⟩ (m_set l D cB cI cJ cZ cN cF s.heap.size h0 ma sv_thrown sv_length sv_nodes sv_many sv_directories sv_runsFrom sv_runs sv_read sv_wrong sv_isNamed sv_goes sv_goesSize sv_goesAt sv_targetParts sv_isRoot F v1 100 (by (try dsimp only); first | assumption | omega | trivial) (by (try dsimp only); first | assumption | omega | trivial)) (cwV 2 hts (lg_goodV k1727 k1729 k79 k125 kc_DiscMakerModel_set) rfl rfl rfl (by decide +kernel) ⟨Nat.le_of_ble_eq_true rfl, Nat.le_of_ble_eq_true rfl⟩) ⟨fun a U g mk q => by obtain ⟨q0, q1, qP, qK, qN, qD⟩ := q; exact ⟨q0, q1, qP, va_K.moved (u := U) (U := U.calling g mk a) (Vm.Alike.refl U.vm) qK, qN.calling, qD⟩, va_recv hK hP (ci := 11) (q0 := 0) rfl rfl, fun U hU hW => ⟨rfl, by rw [hU], by rw [hU]; exact hPc, va_K.moved hW.alike hK, NN.warm hW hN, hDc.weaken (fun _ _ _ _ => trivial)⟩⟩ rfl rfl hl.1 rfl (lv_room (Nat.le_of_ble_eq_true rfl)) d_DiscMakerModel_stamp_7 ⟨hkc, hks⟩) hS (fun q _ h => hFc q h) hFc (fun u t H1 locs ht hvm hp_r2 hB hz1 hk1 hS => ?_)
  obtain ⟨G_3, rfl⟩ : ∃ z, z = u := ⟨_, rfl⟩
  obtain ⟨hP1, hD1⟩ := hB
  rw [ht] at hP1
  obtain ⟨hP, hD⟩ := va_join (wr := []) (w1 := [(h0, .inr (11, MO ma sv_thrown sv_length sv_nodes sv_many sv_directories sv_runsFrom sv_runs sv_read sv_wrong sv_isNamed sv_goes sv_goesSize sv_goesAt sv_targetParts sv_isRoot)), ((ma 16), .inl (cJ, 46080, .inr (.inl G_3)))]) hP hD [0, 1] [] rfl rfl (by decide +kernel) (by decide +kernel) hk1 hFc hP1 hD1
  clear hPc hDc hFc hP1 hD1 hk1 hz1 hkc hks
  generalize H1 = H at hP hS ⊢
  have hP : va_P D CL [(h0, .inr (11, MO ma sv_thrown sv_length sv_nodes sv_many sv_directories sv_runsFrom sv_runs sv_read sv_wrong sv_isNamed sv_goes sv_goesSize sv_goesAt sv_targetParts sv_isRoot)), ((ma 16), .inl (cJ, 46080, .inr (.inl G_3)))] H := hP
  have hD : va_D A [(h0, .inr (11, MO ma sv_thrown sv_length sv_nodes sv_many sv_directories sv_runsFrom sv_runs sv_read sv_wrong sv_isNamed sv_goes sv_goesSize sv_goesAt sv_targetParts sv_isRoot)), ((ma 16), .inl (cJ, 46080, .inr (.inl G_3)))] := hD
  refine lv_aload_n hx hb d_DiscMakerModel_stamp_10 rfl (lv_at hl 0 rfl) ?_
  refine lv_iload_n hx hb d_DiscMakerModel_stamp_11 rfl (lv_at hl 1 rfl) ?_
  refine lv_bipush (v := 19) hx hb d_DiscMakerModel_stamp_12 (by decide) ?_
  refine lv_iadd hx hb d_DiscMakerModel_stamp_14 ?_
  refine lv_topi (fun v4 e_v4 => ?_)
  have t_v4 : v4.toInt = x.toInt + 19 := by rw [e_v4]; exact i_add rfl (by decide) (by omega) (by omega)
  refine lv_iconst (v := 1) hx hb d_DiscMakerModel_stamp_15 (by decide) ?_
  have hPc := hP.sub (ws' := [(h0, .inr (11, MO ma sv_thrown sv_length sv_nodes sv_many sv_directories sv_runsFrom sv_runs sv_read sv_wrong sv_isNamed sv_goes sv_goesSize sv_goesAt sv_targetParts sv_isRoot)), ((ma 16), .inl (cJ, 46080, .inr (.inl G_3)))]) [0, 1] rfl
  have hDc := hD.sub (ws' := [(h0, .inr (11, MO ma sv_thrown sv_length sv_nodes sv_many sv_directories sv_runsFrom sv_runs sv_read sv_wrong sv_isNamed sv_goes sv_goesSize sv_goesAt sv_targetParts sv_isRoot)), ((ma 16), .inl (cJ, 46080, .inr (.inl G_3)))]) [0, 1] (by decide +kernel) rfl
  have hFc := va_free (wc := [(h0, .inr (11, MO ma sv_thrown sv_length sv_nodes sv_many sv_directories sv_runsFrom sv_runs sv_read sv_wrong sv_isNamed sv_goes sv_goesSize sv_goesAt sv_targetParts sv_isRoot)), ((ma 16), .inl (cJ, 46080, .inr (.inl G_3)))]) hD hS hA [0, 1] rfl
  have hkc : 0 ≤ 0 := by decide
  have hks : 0 ≤ 0 := by decide
  refine va_callv (va_runV (C := "DiscMakerModel") (As := [.int v4, .int 1]) (rest := []) ⟨hx, hb, hml, hown, hts⟩ (m_set l D cB cI cJ cZ cN cF H.size h0 ma sv_thrown sv_length sv_nodes sv_many sv_directories sv_runsFrom sv_runs sv_read sv_wrong sv_isNamed sv_goes sv_goesSize sv_goesAt sv_targetParts sv_isRoot G_3 v4 1 (by (try dsimp only); first | assumption | omega | trivial) (by (try dsimp only); first | assumption | omega | trivial)) (cwV 2 hts (lg_goodV k1727 k1729 k79 k125 kc_DiscMakerModel_set) rfl rfl rfl (by decide +kernel) ⟨Nat.le_of_ble_eq_true rfl, Nat.le_of_ble_eq_true rfl⟩) ⟨fun a U g mk q => by obtain ⟨q0, q1, qP, qK, qN, qD⟩ := q; exact ⟨q0, q1, qP, va_K.moved (u := U) (U := U.calling g mk a) (Vm.Alike.refl U.vm) qK, qN.calling, qD⟩, va_recv hK hP (ci := 11) (q0 := 0) rfl rfl, fun U hU hW => ⟨rfl, by rw [hU], by rw [hU]; exact hPc, va_K.moved hW.alike hK, NN.warm hW hN, hDc.weaken (fun _ _ _ _ => trivial)⟩⟩ rfl rfl hl.1 rfl (lv_room (Nat.le_of_ble_eq_true rfl)) d_DiscMakerModel_stamp_16 ⟨hkc, hks⟩) hS (fun q _ h => hFc q h) hFc (fun u t H1 locs ht hvm hp_r5 hB hz1 hk1 hS => ?_)
  obtain ⟨G_6, rfl⟩ : ∃ z, z = u := ⟨_, rfl⟩
  obtain ⟨hP1, hD1⟩ := hB
  rw [ht] at hP1
  obtain ⟨hP, hD⟩ := va_join (wr := []) (w1 := [(h0, .inr (11, MO ma sv_thrown sv_length sv_nodes sv_many sv_directories sv_runsFrom sv_runs sv_read sv_wrong sv_isNamed sv_goes sv_goesSize sv_goesAt sv_targetParts sv_isRoot)), ((ma 16), .inl (cJ, 46080, .inr (.inl G_6)))]) hP hD [0, 1] [] rfl rfl (by decide +kernel) (by decide +kernel) hk1 hFc hP1 hD1
  clear hPc hDc hFc hP1 hD1 hk1 hz1 hkc hks
  generalize H1 = H at hP hS ⊢
  have hP : va_P D CL [(h0, .inr (11, MO ma sv_thrown sv_length sv_nodes sv_many sv_directories sv_runsFrom sv_runs sv_read sv_wrong sv_isNamed sv_goes sv_goesSize sv_goesAt sv_targetParts sv_isRoot)), ((ma 16), .inl (cJ, 46080, .inr (.inl G_6)))] H := hP
  have hD : va_D A [(h0, .inr (11, MO ma sv_thrown sv_length sv_nodes sv_many sv_directories sv_runsFrom sv_runs sv_read sv_wrong sv_isNamed sv_goes sv_goesSize sv_goesAt sv_targetParts sv_isRoot)), ((ma 16), .inl (cJ, 46080, .inr (.inl G_6)))] := hD
  refine lv_aload_n hx hb d_DiscMakerModel_stamp_19 rfl (lv_at hl 0 rfl) ?_
  refine lv_iload_n hx hb d_DiscMakerModel_stamp_20 rfl (lv_at hl 1 rfl) ?_
  refine lv_bipush (v := 20) hx hb d_DiscMakerModel_stamp_21 (by decide) ?_
  refine lv_iadd hx hb d_DiscMakerModel_stamp_23 ?_
  refine lv_topi (fun v7 e_v7 => ?_)
  have t_v7 : v7.toInt = x.toInt + 20 := by rw [e_v7]; exact i_add rfl (by decide) (by omega) (by omega)
  refine lv_iconst (v := 1) hx hb d_DiscMakerModel_stamp_24 (by decide) ?_
  have hPc := hP.sub (ws' := [(h0, .inr (11, MO ma sv_thrown sv_length sv_nodes sv_many sv_directories sv_runsFrom sv_runs sv_read sv_wrong sv_isNamed sv_goes sv_goesSize sv_goesAt sv_targetParts sv_isRoot)), ((ma 16), .inl (cJ, 46080, .inr (.inl G_6)))]) [0, 1] rfl
  have hDc := hD.sub (ws' := [(h0, .inr (11, MO ma sv_thrown sv_length sv_nodes sv_many sv_directories sv_runsFrom sv_runs sv_read sv_wrong sv_isNamed sv_goes sv_goesSize sv_goesAt sv_targetParts sv_isRoot)), ((ma 16), .inl (cJ, 46080, .inr (.inl G_6)))]) [0, 1] (by decide +kernel) rfl
  have hFc := va_free (wc := [(h0, .inr (11, MO ma sv_thrown sv_length sv_nodes sv_many sv_directories sv_runsFrom sv_runs sv_read sv_wrong sv_isNamed sv_goes sv_goesSize sv_goesAt sv_targetParts sv_isRoot)), ((ma 16), .inl (cJ, 46080, .inr (.inl G_6)))]) hD hS hA [0, 1] rfl
  have hkc : 0 ≤ 0 := by decide
  have hks : 0 ≤ 0 := by decide
  refine va_callv (va_runV (C := "DiscMakerModel") (As := [.int v7, .int 1]) (rest := []) ⟨hx, hb, hml, hown, hts⟩ (m_set l D cB cI cJ cZ cN cF H.size h0 ma sv_thrown sv_length sv_nodes sv_many sv_directories sv_runsFrom sv_runs sv_read sv_wrong sv_isNamed sv_goes sv_goesSize sv_goesAt sv_targetParts sv_isRoot G_6 v7 1 (by (try dsimp only); first | assumption | omega | trivial) (by (try dsimp only); first | assumption | omega | trivial)) (cwV 2 hts (lg_goodV k1727 k1729 k79 k125 kc_DiscMakerModel_set) rfl rfl rfl (by decide +kernel) ⟨Nat.le_of_ble_eq_true rfl, Nat.le_of_ble_eq_true rfl⟩) ⟨fun a U g mk q => by obtain ⟨q0, q1, qP, qK, qN, qD⟩ := q; exact ⟨q0, q1, qP, va_K.moved (u := U) (U := U.calling g mk a) (Vm.Alike.refl U.vm) qK, qN.calling, qD⟩, va_recv hK hP (ci := 11) (q0 := 0) rfl rfl, fun U hU hW => ⟨rfl, by rw [hU], by rw [hU]; exact hPc, va_K.moved hW.alike hK, NN.warm hW hN, hDc.weaken (fun _ _ _ _ => trivial)⟩⟩ rfl rfl hl.1 rfl (lv_room (Nat.le_of_ble_eq_true rfl)) d_DiscMakerModel_stamp_25 ⟨hkc, hks⟩) hS (fun q _ h => hFc q h) hFc (fun u t H1 locs ht hvm hp_r8 hB hz1 hk1 hS => ?_)
  obtain ⟨G_9, rfl⟩ : ∃ z, z = u := ⟨_, rfl⟩
  obtain ⟨hP1, hD1⟩ := hB
  rw [ht] at hP1
  obtain ⟨hP, hD⟩ := va_join (wr := []) (w1 := [(h0, .inr (11, MO ma sv_thrown sv_length sv_nodes sv_many sv_directories sv_runsFrom sv_runs sv_read sv_wrong sv_isNamed sv_goes sv_goesSize sv_goesAt sv_targetParts sv_isRoot)), ((ma 16), .inl (cJ, 46080, .inr (.inl G_9)))]) hP hD [0, 1] [] rfl rfl (by decide +kernel) (by decide +kernel) hk1 hFc hP1 hD1
  clear hPc hDc hFc hP1 hD1 hk1 hz1 hkc hks
  generalize H1 = H at hP hS ⊢
  have hP : va_P D CL [(h0, .inr (11, MO ma sv_thrown sv_length sv_nodes sv_many sv_directories sv_runsFrom sv_runs sv_read sv_wrong sv_isNamed sv_goes sv_goesSize sv_goesAt sv_targetParts sv_isRoot)), ((ma 16), .inl (cJ, 46080, .inr (.inl G_9)))] H := hP
  have hD : va_D A [(h0, .inr (11, MO ma sv_thrown sv_length sv_nodes sv_many sv_directories sv_runsFrom sv_runs sv_read sv_wrong sv_isNamed sv_goes sv_goesSize sv_goesAt sv_targetParts sv_isRoot)), ((ma 16), .inl (cJ, 46080, .inr (.inl G_9)))] := hD
  have hP9 := hP.sub (ws' := [(h0, .inr (11, MO ma sv_thrown sv_length sv_nodes sv_many sv_directories sv_runsFrom sv_runs sv_read sv_wrong sv_isNamed sv_goes sv_goesSize sv_goesAt sv_targetParts sv_isRoot)), ((ma 16), .inl (cJ, 46080, .inr (.inl G_9)))]) [0, 1] rfl
  have hD9 := hD.sub (ws' := [(h0, .inr (11, MO ma sv_thrown sv_length sv_nodes sv_many sv_directories sv_runsFrom sv_runs sv_read sv_wrong sv_isNamed sv_goes sv_goesSize sv_goesAt sv_targetParts sv_isRoot)), ((ma 16), .inl (cJ, 46080, .inr (.inl G_9)))]) [0, 1] (by decide +kernel) rfl
  exact W.vret hx hb hr (fun t ht hW => ⟨⟨G_9, rfl, trivial, by rw [ht]; exact hP9, hD9⟩, hS.F ht⟩) hS.2.2 d_DiscMakerModel_stamp_28

theorem d_DiscMakerModel_letters_0 : decode b_DiscMakerModel_letters 0 = .ok (.aload_n 0, 1) := by decide +kernel
theorem d_DiscMakerModel_letters_1 : decode b_DiscMakerModel_letters 1 = .ok (.iload_n 1, 1) := by decide +kernel
theorem d_DiscMakerModel_letters_2 : decode b_DiscMakerModel_letters 2 = .ok (.iload_n 2, 1) := by decide +kernel
theorem d_DiscMakerModel_letters_3 : decode b_DiscMakerModel_letters 3 = .ok (.invokevirtual 192, 3) := by decide +kernel
theorem d_DiscMakerModel_letters_6 : decode b_DiscMakerModel_letters 6 = .ok (.aload_n 0, 1) := by decide +kernel
theorem d_DiscMakerModel_letters_7 : decode b_DiscMakerModel_letters 7 = .ok (.iload_n 1, 1) := by decide +kernel
theorem d_DiscMakerModel_letters_8 : decode b_DiscMakerModel_letters 8 = .ok (.iconst 1, 1) := by decide +kernel
theorem d_DiscMakerModel_letters_9 : decode b_DiscMakerModel_letters 9 = .ok (.iadd, 1) := by decide +kernel
theorem d_DiscMakerModel_letters_10 : decode b_DiscMakerModel_letters 10 = .ok (.iload_n 3, 1) := by decide +kernel
theorem d_DiscMakerModel_letters_11 : decode b_DiscMakerModel_letters 11 = .ok (.invokevirtual 192, 3) := by decide +kernel
theorem d_DiscMakerModel_letters_14 : decode b_DiscMakerModel_letters 14 = .ok (.aload_n 0, 1) := by decide +kernel
theorem d_DiscMakerModel_letters_15 : decode b_DiscMakerModel_letters 15 = .ok (.iload_n 1, 1) := by decide +kernel
theorem d_DiscMakerModel_letters_16 : decode b_DiscMakerModel_letters 16 = .ok (.iconst 2, 1) := by decide +kernel
theorem d_DiscMakerModel_letters_17 : decode b_DiscMakerModel_letters 17 = .ok (.iadd, 1) := by decide +kernel
theorem d_DiscMakerModel_letters_18 : decode b_DiscMakerModel_letters 18 = .ok (.iload 4, 2) := by decide +kernel
theorem d_DiscMakerModel_letters_20 : decode b_DiscMakerModel_letters 20 = .ok (.invokevirtual 192, 3) := by decide +kernel
theorem d_DiscMakerModel_letters_23 : decode b_DiscMakerModel_letters 23 = .ok (.aload_n 0, 1) := by decide +kernel
theorem d_DiscMakerModel_letters_24 : decode b_DiscMakerModel_letters 24 = .ok (.iload_n 1, 1) := by decide +kernel
theorem d_DiscMakerModel_letters_25 : decode b_DiscMakerModel_letters 25 = .ok (.iconst 3, 1) := by decide +kernel
theorem d_DiscMakerModel_letters_26 : decode b_DiscMakerModel_letters 26 = .ok (.iadd, 1) := by decide +kernel
theorem d_DiscMakerModel_letters_27 : decode b_DiscMakerModel_letters 27 = .ok (.iconst 1, 1) := by decide +kernel
theorem d_DiscMakerModel_letters_28 : decode b_DiscMakerModel_letters 28 = .ok (.invokevirtual 192, 3) := by decide +kernel
theorem d_DiscMakerModel_letters_31 : decode b_DiscMakerModel_letters 31 = .ok (.return_, 1) := by decide +kernel
set_option maxHeartbeats 4000000 in
set_option maxRecDepth 100000 in
theorem m_letters (l : Launch) (D : va_G) (cB cI cJ cZ cN cF : ClassId) (sz : Nat) (h0 : Nat) (ma : Nat → Nat) (sv_thrown sv_length sv_nodes sv_many sv_directories sv_runsFrom sv_runs sv_read sv_wrong sv_isNamed sv_goes sv_goesSize sv_goesAt sv_targetParts sv_isRoot : Int32) (F : Nat → Int64) (x : Int32) (y : Int32) (z : Int32) (w : Int32) (hx0 : 0 ≤ x.toInt) (hx1 : x.toInt + 4 ≤ 368640) : Met l y_DiscMakerModel_letters w_DiscMakerModel_letters ({ frames := 1, cells := 0, slots := 0, locals := 23 }) (va_Pc [.ref h0, .int x, .int y, .int z, .int w] (fun U => U.heap.size = sz ∧ va_P D CL [(h0, .inr (11, MO ma sv_thrown sv_length sv_nodes sv_many sv_directories sv_runsFrom sv_runs sv_read sv_wrong sv_isNamed sv_goes sv_goesSize sv_goesAt sv_targetParts sv_isRoot)), ((ma 16), .inl (cJ, 46080, .inr (.inl F)))] U.heap ∧ va_K D CL (TY cB cI cJ cZ cN cF) U ∧ NN U ∧ va_D (fun _ => True) [(h0, .inr (11, MO ma sv_thrown sv_length sv_nodes sv_many sv_directories sv_runsFrom sv_runs sv_read sv_wrong sv_isNamed sv_goes sv_goesSize sv_goesAt sv_targetParts sv_isRoot)), ((ma 16), .inl (cJ, 46080, .inr (.inl F)))])) (va_Qv (fun (u : (Nat → Int64)) => True) (fun (u : (Nat → Int64)) (t : State) => match u with | G => va_P D CL [(h0, .inr (11, MO ma sv_thrown sv_length sv_nodes sv_many sv_directories sv_runsFrom sv_runs sv_read sv_wrong sv_isNamed sv_goes sv_goesSize sv_goesAt sv_targetParts sv_isRoot)), ((ma 16), .inl (cJ, 46080, .inr (.inl G)))] t.heap ∧ va_D (va_A [(h0, .inr (11, MO ma sv_thrown sv_length sv_nodes sv_many sv_directories sv_runsFrom sv_runs sv_read sv_wrong sv_isNamed sv_goes sv_goesSize sv_goesAt sv_targetParts sv_isRoot)), ((ma 16), .inl (cJ, 46080, .inr (.inl F)))] sz) [(h0, .inr (11, MO ma sv_thrown sv_length sv_nodes sv_many sv_directories sv_runsFrom sv_runs sv_read sv_wrong sv_isNamed sv_goes sv_goesSize sv_goesAt sv_targetParts sv_isRoot)), ((ma 16), .inl (cJ, 46080, .inr (.inl G)))]) (va_A [(h0, .inr (11, MO ma sv_thrown sv_length sv_nodes sv_many sv_directories sv_runsFrom sv_runs sv_read sv_wrong sv_isNamed sv_goes sv_goesSize sv_goesAt sv_targetParts sv_isRoot)), ((ma 16), .inl (cJ, 46080, .inr (.inl F)))] sz)) 0 0 (va_A [(h0, .inr (11, MO ma sv_thrown sv_length sv_nodes sv_many sv_directories sv_runsFrom sv_runs sv_read sv_wrong sv_isNamed sv_goes sv_goesSize sv_goesAt sv_targetParts sv_isRoot)), ((ma 16), .inl (cJ, 46080, .inr (.inl F)))] sz) := by
  refine Met.ofW (cc := b_DiscMakerModel_letters) (maxL := 5) (ret := none) (by decide) rfl ?_
  intro p e s m args below meth c s₁ B hml hv
  obtain ⟨rfl, hsz, hP, hK, hN, hD0⟩ := hv
  have hx := B.exec
  have hb := B.bytes
  have hr := B.returns
  have hts := atoms_spec (ws := w_DiscMakerModel_letters) B.pre
  have ht9 := fun (w : Cond) (h : w ∈ lw_g) => hts w (List.mem_cons_of_mem _ h)
  have hown : s.vm.findClass "DiscMakerModel" = some m.cls := findClass_of_methodNamed B.named
  have hlocks := B.notSynchronized
  subst hsz
  have hD := hD0.self (sz := s.heap.size)
  generalize hAe : va_A [(h0, .inr (11, MO ma sv_thrown sv_length sv_nodes sv_many sv_directories sv_runsFrom sv_runs sv_read sv_wrong sv_isNamed sv_goes sv_goesSize sv_goesAt sv_targetParts sv_isRoot)), ((ma 16), .inl (cJ, 46080, .inr (.inl F)))] s.heap.size = A at hD ⊢
  have hA : ∀ q : Nat, s.heap.size ≤ q → A q := fun q h => by rw [← hAe]; exact Or.inr h
  have hS : va_S A s.heap s.heap [] := va_S.rf
  have hP : va_P D CL [(h0, .inr (11, MO ma sv_thrown sv_length sv_nodes sv_many sv_directories sv_runsFrom sv_runs sv_read sv_wrong sv_isNamed sv_goes sv_goesSize sv_goesAt sv_targetParts sv_isRoot)), ((ma 16), .inl (cJ, 46080, .inr (.inl F)))] s.heap := hP
  have hl := lv_entry [.ref h0, .int x, .int y, .int z, .int w] (n := 5) (Nat.le_of_ble_eq_true rfl)
  rw [lg_entry_eq]
  generalize (lg_sl [.ref h0, .int x, .int y, .int z, .int w] ++ List.replicate (5 - (lg_sl [.ref h0, .int x, .int y, .int z, .int w]).length) Slot.unset).toArray = ls at hl ⊢
  have hl : lv_has ls 5 [(0, .ref h0), (1, .int x), (2, .int y), (3, .int z), (4, .int w)] := hl
  have L_m1 : ((-1) : Int32).toInt = (-1) := by decide
  have L_0 : (0 : Int32).toInt = 0 := by decide
  have L_1 : (1 : Int32).toInt = 1 := by decide
  have L_2 : (2 : Int32).toInt = 2 := by decide
  have L_3 : (3 : Int32).toInt = 3 := by decide
  refine lv_aload_n hx hb d_DiscMakerModel_letters_0 rfl (lv_at hl 0 rfl) ?_
  refine lv_iload_n hx hb d_DiscMakerModel_letters_1 rfl (lv_at hl 1 rfl) ?_
  refine lv_iload_n hx hb d_DiscMakerModel_letters_2 rfl (lv_at hl 2 rfl) ?_
  have hPc := hP.sub (ws' := [(h0, .inr (11, MO ma sv_thrown sv_length sv_nodes sv_many sv_directories sv_runsFrom sv_runs sv_read sv_wrong sv_isNamed sv_goes sv_goesSize sv_goesAt sv_targetParts sv_isRoot)), ((ma 16), .inl (cJ, 46080, .inr (.inl F)))]) [0, 1] rfl
  have hDc := hD.sub (ws' := [(h0, .inr (11, MO ma sv_thrown sv_length sv_nodes sv_many sv_directories sv_runsFrom sv_runs sv_read sv_wrong sv_isNamed sv_goes sv_goesSize sv_goesAt sv_targetParts sv_isRoot)), ((ma 16), .inl (cJ, 46080, .inr (.inl F)))]) [0, 1] (by decide +kernel) rfl
  have hFc := va_free (wc := [(h0, .inr (11, MO ma sv_thrown sv_length sv_nodes sv_many sv_directories sv_runsFrom sv_runs sv_read sv_wrong sv_isNamed sv_goes sv_goesSize sv_goesAt sv_targetParts sv_isRoot)), ((ma 16), .inl (cJ, 46080, .inr (.inl F)))]) hD hS hA [0, 1] rfl
  have hkc : 0 ≤ 0 := by decide
  have hks : 0 ≤ 0 := by decide
  refine va_callv (va_runV (C := "DiscMakerModel") (As := [.int x, .int y]) (rest := []) ⟨hx, hb, hml, hown, hts⟩ (m_set l D cB cI cJ cZ cN cF s.heap.size h0 ma sv_thrown sv_length sv_nodes sv_many sv_directories sv_runsFrom sv_runs sv_read sv_wrong sv_isNamed sv_goes sv_goesSize sv_goesAt sv_targetParts sv_isRoot F x y (by (try dsimp only); first | assumption | omega | trivial) (by (try dsimp only); first | assumption | omega | trivial)) (cwV 2 hts (lg_goodV k1727 k1729 k79 k125 kc_DiscMakerModel_set) rfl rfl rfl (by decide +kernel) ⟨Nat.le_of_ble_eq_true rfl, Nat.le_of_ble_eq_true rfl⟩) ⟨fun a U g mk q => by obtain ⟨q0, q1, qP, qK, qN, qD⟩ := q; exact ⟨q0, q1, qP, va_K.moved (u := U) (U := U.calling g mk a) (Vm.Alike.refl U.vm) qK, qN.calling, qD⟩, va_recv hK hP (ci := 11) (q0 := 0) rfl rfl, fun U hU hW => ⟨rfl, by rw [hU], by rw [hU]; exact hPc, va_K.moved hW.alike hK, NN.warm hW hN, hDc.weaken (fun _ _ _ _ => trivial)⟩⟩ rfl rfl hl.1 rfl (lv_room (Nat.le_of_ble_eq_true rfl)) d_DiscMakerModel_letters_3 ⟨hkc, hks⟩) hS (fun q _ h => hFc q h) hFc (fun u t H1 locs ht hvm hp_r1 hB hz1 hk1 hS => ?_)
  obtain ⟨G_2, rfl⟩ : ∃ z, z = u := ⟨_, rfl⟩
  obtain ⟨hP1, hD1⟩ := hB
  rw [ht] at hP1
  obtain ⟨hP, hD⟩ := va_join (wr := []) (w1 := [(h0, .inr (11, MO ma sv_thrown sv_length sv_nodes sv_many sv_directories sv_runsFrom sv_runs sv_read sv_wrong sv_isNamed sv_goes sv_goesSize sv_goesAt sv_targetParts sv_isRoot)), ((ma 16), .inl (cJ, 46080, .inr (.inl G_2)))]) hP hD [0, 1] [] rfl rfl (by decide +kernel) (by decide +kernel) hk1 hFc hP1 hD1
  clear hPc hDc hFc hP1 hD1 hk1 hz1 hkc hks
  generalize H1 = H at hP hS ⊢
  have hP : va_P D CL [(h0, .inr (11, MO ma sv_thrown sv_length sv_nodes sv_many sv_directories sv_runsFrom sv_runs sv_read sv_wrong sv_isNamed sv_goes sv_goesSize sv_goesAt sv_targetParts sv_isRoot)), ((ma 16), .inl (cJ, 46080, .inr (.inl G_2)))] H := hP
  have hD : va_D A [(h0, .inr (11, MO ma sv_thrown sv_length sv_nodes sv_many sv_directories sv_runsFrom sv_runs sv_read sv_wrong sv_isNamed sv_goes sv_goesSize sv_goesAt sv_targetParts sv_isRoot)), ((ma 16), .inl (cJ, 46080, .inr (.inl G_2)))] := hD
  refine lv_aload_n hx hb d_DiscMakerModel_letters_6 rfl (lv_at hl 0 rfl) ?_
  refine lv_iload_n hx hb d_DiscMakerModel_letters_7 rfl (lv_at hl 1 rfl) ?_
  refine lv_iconst (v := 1) hx hb d_DiscMakerModel_letters_8 (by decide) ?_
  refine lv_iadd hx hb d_DiscMakerModel_letters_9 ?_
  refine lv_topi (fun v3 e_v3 => ?_)
  have t_v3 : v3.toInt = x.toInt + 1 := by rw [e_v3]; exact i_add rfl (by decide) (by omega) (by omega)
  refine lv_iload_n hx hb d_DiscMakerModel_letters_10 rfl (lv_at hl 3 rfl) ?_
  have hPc := hP.sub (ws' := [(h0, .inr (11, MO ma sv_thrown sv_length sv_nodes sv_many sv_directories sv_runsFrom sv_runs sv_read sv_wrong sv_isNamed sv_goes sv_goesSize sv_goesAt sv_targetParts sv_isRoot)), ((ma 16), .inl (cJ, 46080, .inr (.inl G_2)))]) [0, 1] rfl
  have hDc := hD.sub (ws' := [(h0, .inr (11, MO ma sv_thrown sv_length sv_nodes sv_many sv_directories sv_runsFrom sv_runs sv_read sv_wrong sv_isNamed sv_goes sv_goesSize sv_goesAt sv_targetParts sv_isRoot)), ((ma 16), .inl (cJ, 46080, .inr (.inl G_2)))]) [0, 1] (by decide +kernel) rfl
  have hFc := va_free (wc := [(h0, .inr (11, MO ma sv_thrown sv_length sv_nodes sv_many sv_directories sv_runsFrom sv_runs sv_read sv_wrong sv_isNamed sv_goes sv_goesSize sv_goesAt sv_targetParts sv_isRoot)), ((ma 16), .inl (cJ, 46080, .inr (.inl G_2)))]) hD hS hA [0, 1] rfl
  have hkc : 0 ≤ 0 := by decide
  have hks : 0 ≤ 0 := by decide
  refine va_callv (va_runV (C := "DiscMakerModel") (As := [.int v3, .int z]) (rest := []) ⟨hx, hb, hml, hown, hts⟩ (m_set l D cB cI cJ cZ cN cF H.size h0 ma sv_thrown sv_length sv_nodes sv_many sv_directories sv_runsFrom sv_runs sv_read sv_wrong sv_isNamed sv_goes sv_goesSize sv_goesAt sv_targetParts sv_isRoot G_2 v3 z (by (try dsimp only); first | assumption | omega | trivial) (by (try dsimp only); first | assumption | omega | trivial)) (cwV 2 hts (lg_goodV k1727 k1729 k79 k125 kc_DiscMakerModel_set) rfl rfl rfl (by decide +kernel) ⟨Nat.le_of_ble_eq_true rfl, Nat.le_of_ble_eq_true rfl⟩) ⟨fun a U g mk q => by obtain ⟨q0, q1, qP, qK, qN, qD⟩ := q; exact ⟨q0, q1, qP, va_K.moved (u := U) (U := U.calling g mk a) (Vm.Alike.refl U.vm) qK, qN.calling, qD⟩, va_recv hK hP (ci := 11) (q0 := 0) rfl rfl, fun U hU hW => ⟨rfl, by rw [hU], by rw [hU]; exact hPc, va_K.moved hW.alike hK, NN.warm hW hN, hDc.weaken (fun _ _ _ _ => trivial)⟩⟩ rfl rfl hl.1 rfl (lv_room (Nat.le_of_ble_eq_true rfl)) d_DiscMakerModel_letters_11 ⟨hkc, hks⟩) hS (fun q _ h => hFc q h) hFc (fun u t H1 locs ht hvm hp_r4 hB hz1 hk1 hS => ?_)
  obtain ⟨G_5, rfl⟩ : ∃ z, z = u := ⟨_, rfl⟩
  obtain ⟨hP1, hD1⟩ := hB
  rw [ht] at hP1
  obtain ⟨hP, hD⟩ := va_join (wr := []) (w1 := [(h0, .inr (11, MO ma sv_thrown sv_length sv_nodes sv_many sv_directories sv_runsFrom sv_runs sv_read sv_wrong sv_isNamed sv_goes sv_goesSize sv_goesAt sv_targetParts sv_isRoot)), ((ma 16), .inl (cJ, 46080, .inr (.inl G_5)))]) hP hD [0, 1] [] rfl rfl (by decide +kernel) (by decide +kernel) hk1 hFc hP1 hD1
  clear hPc hDc hFc hP1 hD1 hk1 hz1 hkc hks
  generalize H1 = H at hP hS ⊢
  have hP : va_P D CL [(h0, .inr (11, MO ma sv_thrown sv_length sv_nodes sv_many sv_directories sv_runsFrom sv_runs sv_read sv_wrong sv_isNamed sv_goes sv_goesSize sv_goesAt sv_targetParts sv_isRoot)), ((ma 16), .inl (cJ, 46080, .inr (.inl G_5)))] H := hP
  have hD : va_D A [(h0, .inr (11, MO ma sv_thrown sv_length sv_nodes sv_many sv_directories sv_runsFrom sv_runs sv_read sv_wrong sv_isNamed sv_goes sv_goesSize sv_goesAt sv_targetParts sv_isRoot)), ((ma 16), .inl (cJ, 46080, .inr (.inl G_5)))] := hD
  refine lv_aload_n hx hb d_DiscMakerModel_letters_14 rfl (lv_at hl 0 rfl) ?_
  refine lv_iload_n hx hb d_DiscMakerModel_letters_15 rfl (lv_at hl 1 rfl) ?_
  refine lv_iconst (v := 2) hx hb d_DiscMakerModel_letters_16 (by decide) ?_
  refine lv_iadd hx hb d_DiscMakerModel_letters_17 ?_
  refine lv_topi (fun v6 e_v6 => ?_)
  have t_v6 : v6.toInt = x.toInt + 2 := by rw [e_v6]; exact i_add rfl (by decide) (by omega) (by omega)
  refine lv_iload hx hb d_DiscMakerModel_letters_18 (lv_at hl 4 rfl) ?_
  have hPc := hP.sub (ws' := [(h0, .inr (11, MO ma sv_thrown sv_length sv_nodes sv_many sv_directories sv_runsFrom sv_runs sv_read sv_wrong sv_isNamed sv_goes sv_goesSize sv_goesAt sv_targetParts sv_isRoot)), ((ma 16), .inl (cJ, 46080, .inr (.inl G_5)))]) [0, 1] rfl
  have hDc := hD.sub (ws' := [(h0, .inr (11, MO ma sv_thrown sv_length sv_nodes sv_many sv_directories sv_runsFrom sv_runs sv_read sv_wrong sv_isNamed sv_goes sv_goesSize sv_goesAt sv_targetParts sv_isRoot)), ((ma 16), .inl (cJ, 46080, .inr (.inl G_5)))]) [0, 1] (by decide +kernel) rfl
  have hFc := va_free (wc := [(h0, .inr (11, MO ma sv_thrown sv_length sv_nodes sv_many sv_directories sv_runsFrom sv_runs sv_read sv_wrong sv_isNamed sv_goes sv_goesSize sv_goesAt sv_targetParts sv_isRoot)), ((ma 16), .inl (cJ, 46080, .inr (.inl G_5)))]) hD hS hA [0, 1] rfl
  have hkc : 0 ≤ 0 := by decide
  have hks : 0 ≤ 0 := by decide
  refine va_callv (va_runV (C := "DiscMakerModel") (As := [.int v6, .int w]) (rest := []) ⟨hx, hb, hml, hown, hts⟩ (m_set l D cB cI cJ cZ cN cF H.size h0 ma sv_thrown sv_length sv_nodes sv_many sv_directories sv_runsFrom sv_runs sv_read sv_wrong sv_isNamed sv_goes sv_goesSize sv_goesAt sv_targetParts sv_isRoot G_5 v6 w (by (try dsimp only); first | assumption | omega | trivial) (by (try dsimp only); first | assumption | omega | trivial)) (cwV 2 hts (lg_goodV k1727 k1729 k79 k125 kc_DiscMakerModel_set) rfl rfl rfl (by decide +kernel) ⟨Nat.le_of_ble_eq_true rfl, Nat.le_of_ble_eq_true rfl⟩) ⟨fun a U g mk q => by obtain ⟨q0, q1, qP, qK, qN, qD⟩ := q; exact ⟨q0, q1, qP, va_K.moved (u := U) (U := U.calling g mk a) (Vm.Alike.refl U.vm) qK, qN.calling, qD⟩, va_recv hK hP (ci := 11) (q0 := 0) rfl rfl, fun U hU hW => ⟨rfl, by rw [hU], by rw [hU]; exact hPc, va_K.moved hW.alike hK, NN.warm hW hN, hDc.weaken (fun _ _ _ _ => trivial)⟩⟩ rfl rfl hl.1 rfl (lv_room (Nat.le_of_ble_eq_true rfl)) d_DiscMakerModel_letters_20 ⟨hkc, hks⟩) hS (fun q _ h => hFc q h) hFc (fun u t H1 locs ht hvm hp_r7 hB hz1 hk1 hS => ?_)
  obtain ⟨G_8, rfl⟩ : ∃ z, z = u := ⟨_, rfl⟩
  obtain ⟨hP1, hD1⟩ := hB
  rw [ht] at hP1
  obtain ⟨hP, hD⟩ := va_join (wr := []) (w1 := [(h0, .inr (11, MO ma sv_thrown sv_length sv_nodes sv_many sv_directories sv_runsFrom sv_runs sv_read sv_wrong sv_isNamed sv_goes sv_goesSize sv_goesAt sv_targetParts sv_isRoot)), ((ma 16), .inl (cJ, 46080, .inr (.inl G_8)))]) hP hD [0, 1] [] rfl rfl (by decide +kernel) (by decide +kernel) hk1 hFc hP1 hD1
  clear hPc hDc hFc hP1 hD1 hk1 hz1 hkc hks
  generalize H1 = H at hP hS ⊢
  have hP : va_P D CL [(h0, .inr (11, MO ma sv_thrown sv_length sv_nodes sv_many sv_directories sv_runsFrom sv_runs sv_read sv_wrong sv_isNamed sv_goes sv_goesSize sv_goesAt sv_targetParts sv_isRoot)), ((ma 16), .inl (cJ, 46080, .inr (.inl G_8)))] H := hP
  have hD : va_D A [(h0, .inr (11, MO ma sv_thrown sv_length sv_nodes sv_many sv_directories sv_runsFrom sv_runs sv_read sv_wrong sv_isNamed sv_goes sv_goesSize sv_goesAt sv_targetParts sv_isRoot)), ((ma 16), .inl (cJ, 46080, .inr (.inl G_8)))] := hD
  refine lv_aload_n hx hb d_DiscMakerModel_letters_23 rfl (lv_at hl 0 rfl) ?_
  refine lv_iload_n hx hb d_DiscMakerModel_letters_24 rfl (lv_at hl 1 rfl) ?_
  refine lv_iconst (v := 3) hx hb d_DiscMakerModel_letters_25 (by decide) ?_
  refine lv_iadd hx hb d_DiscMakerModel_letters_26 ?_
  refine lv_topi (fun v9 e_v9 => ?_)
  have t_v9 : v9.toInt = x.toInt + 3 := by rw [e_v9]; exact i_add rfl (by decide) (by omega) (by omega)
  refine lv_iconst (v := 1) hx hb d_DiscMakerModel_letters_27 (by decide) ?_
  have hPc := hP.sub (ws' := [(h0, .inr (11, MO ma sv_thrown sv_length sv_nodes sv_many sv_directories sv_runsFrom sv_runs sv_read sv_wrong sv_isNamed sv_goes sv_goesSize sv_goesAt sv_targetParts sv_isRoot)), ((ma 16), .inl (cJ, 46080, .inr (.inl G_8)))]) [0, 1] rfl
  have hDc := hD.sub (ws' := [(h0, .inr (11, MO ma sv_thrown sv_length sv_nodes sv_many sv_directories sv_runsFrom sv_runs sv_read sv_wrong sv_isNamed sv_goes sv_goesSize sv_goesAt sv_targetParts sv_isRoot)), ((ma 16), .inl (cJ, 46080, .inr (.inl G_8)))]) [0, 1] (by decide +kernel) rfl
  have hFc := va_free (wc := [(h0, .inr (11, MO ma sv_thrown sv_length sv_nodes sv_many sv_directories sv_runsFrom sv_runs sv_read sv_wrong sv_isNamed sv_goes sv_goesSize sv_goesAt sv_targetParts sv_isRoot)), ((ma 16), .inl (cJ, 46080, .inr (.inl G_8)))]) hD hS hA [0, 1] rfl
  have hkc : 0 ≤ 0 := by decide
  have hks : 0 ≤ 0 := by decide
  refine va_callv (va_runV (C := "DiscMakerModel") (As := [.int v9, .int 1]) (rest := []) ⟨hx, hb, hml, hown, hts⟩ (m_set l D cB cI cJ cZ cN cF H.size h0 ma sv_thrown sv_length sv_nodes sv_many sv_directories sv_runsFrom sv_runs sv_read sv_wrong sv_isNamed sv_goes sv_goesSize sv_goesAt sv_targetParts sv_isRoot G_8 v9 1 (by (try dsimp only); first | assumption | omega | trivial) (by (try dsimp only); first | assumption | omega | trivial)) (cwV 2 hts (lg_goodV k1727 k1729 k79 k125 kc_DiscMakerModel_set) rfl rfl rfl (by decide +kernel) ⟨Nat.le_of_ble_eq_true rfl, Nat.le_of_ble_eq_true rfl⟩) ⟨fun a U g mk q => by obtain ⟨q0, q1, qP, qK, qN, qD⟩ := q; exact ⟨q0, q1, qP, va_K.moved (u := U) (U := U.calling g mk a) (Vm.Alike.refl U.vm) qK, qN.calling, qD⟩, va_recv hK hP (ci := 11) (q0 := 0) rfl rfl, fun U hU hW => ⟨rfl, by rw [hU], by rw [hU]; exact hPc, va_K.moved hW.alike hK, NN.warm hW hN, hDc.weaken (fun _ _ _ _ => trivial)⟩⟩ rfl rfl hl.1 rfl (lv_room (Nat.le_of_ble_eq_true rfl)) d_DiscMakerModel_letters_28 ⟨hkc, hks⟩) hS (fun q _ h => hFc q h) hFc (fun u t H1 locs ht hvm hp_r10 hB hz1 hk1 hS => ?_)
  obtain ⟨G_11, rfl⟩ : ∃ z, z = u := ⟨_, rfl⟩
  obtain ⟨hP1, hD1⟩ := hB
  rw [ht] at hP1
  obtain ⟨hP, hD⟩ := va_join (wr := []) (w1 := [(h0, .inr (11, MO ma sv_thrown sv_length sv_nodes sv_many sv_directories sv_runsFrom sv_runs sv_read sv_wrong sv_isNamed sv_goes sv_goesSize sv_goesAt sv_targetParts sv_isRoot)), ((ma 16), .inl (cJ, 46080, .inr (.inl G_11)))]) hP hD [0, 1] [] rfl rfl (by decide +kernel) (by decide +kernel) hk1 hFc hP1 hD1
  clear hPc hDc hFc hP1 hD1 hk1 hz1 hkc hks
  generalize H1 = H at hP hS ⊢
  have hP : va_P D CL [(h0, .inr (11, MO ma sv_thrown sv_length sv_nodes sv_many sv_directories sv_runsFrom sv_runs sv_read sv_wrong sv_isNamed sv_goes sv_goesSize sv_goesAt sv_targetParts sv_isRoot)), ((ma 16), .inl (cJ, 46080, .inr (.inl G_11)))] H := hP
  have hD : va_D A [(h0, .inr (11, MO ma sv_thrown sv_length sv_nodes sv_many sv_directories sv_runsFrom sv_runs sv_read sv_wrong sv_isNamed sv_goes sv_goesSize sv_goesAt sv_targetParts sv_isRoot)), ((ma 16), .inl (cJ, 46080, .inr (.inl G_11)))] := hD
  have hP9 := hP.sub (ws' := [(h0, .inr (11, MO ma sv_thrown sv_length sv_nodes sv_many sv_directories sv_runsFrom sv_runs sv_read sv_wrong sv_isNamed sv_goes sv_goesSize sv_goesAt sv_targetParts sv_isRoot)), ((ma 16), .inl (cJ, 46080, .inr (.inl G_11)))]) [0, 1] rfl
  have hD9 := hD.sub (ws' := [(h0, .inr (11, MO ma sv_thrown sv_length sv_nodes sv_many sv_directories sv_runsFrom sv_runs sv_read sv_wrong sv_isNamed sv_goes sv_goesSize sv_goesAt sv_targetParts sv_isRoot)), ((ma 16), .inl (cJ, 46080, .inr (.inl G_11)))]) [0, 1] (by decide +kernel) rfl
  exact W.vret hx hb hr (fun t ht hW => ⟨⟨G_11, rfl, trivial, by rw [ht]; exact hP9, hD9⟩, hS.F ht⟩) hS.2.2 d_DiscMakerModel_letters_31

theorem d_DiscMakerModel_mark_0 : decode b_DiscMakerModel_mark 0 = .ok (.iload_n 1, 1) := by decide +kernel
theorem d_DiscMakerModel_mark_1 : decode b_DiscMakerModel_mark 1 = .ok (.ifCond .ge 4, 3) := by decide +kernel
theorem d_DiscMakerModel_mark_4 : decode b_DiscMakerModel_mark 4 = .ok (.return_, 1) := by decide +kernel
theorem d_DiscMakerModel_mark_5 : decode b_DiscMakerModel_mark 5 = .ok (.aload_n 0, 1) := by decide +kernel
theorem d_DiscMakerModel_mark_6 : decode b_DiscMakerModel_mark 6 = .ok (.iload_n 1, 1) := by decide +kernel
theorem d_DiscMakerModel_mark_7 : decode b_DiscMakerModel_mark 7 = .ok (.iload_n 2, 1) := by decide +kernel
theorem d_DiscMakerModel_mark_8 : decode b_DiscMakerModel_mark 8 = .ok (.iadd, 1) := by decide +kernel
theorem d_DiscMakerModel_mark_9 : decode b_DiscMakerModel_mark 9 = .ok (.iload_n 3, 1) := by decide +kernel
theorem d_DiscMakerModel_mark_10 : decode b_DiscMakerModel_mark 10 = .ok (.invokevirtual 192, 3) := by decide +kernel
theorem d_DiscMakerModel_mark_13 : decode b_DiscMakerModel_mark 13 = .ok (.aload_n 0, 1) := by decide +kernel
theorem d_DiscMakerModel_mark_14 : decode b_DiscMakerModel_mark 14 = .ok (.iload_n 1, 1) := by decide +kernel
theorem d_DiscMakerModel_mark_15 : decode b_DiscMakerModel_mark 15 = .ok (.iload_n 2, 1) := by decide +kernel
theorem d_DiscMakerModel_mark_16 : decode b_DiscMakerModel_mark 16 = .ok (.iadd, 1) := by decide +kernel
theorem d_DiscMakerModel_mark_17 : decode b_DiscMakerModel_mark 17 = .ok (.iconst 1, 1) := by decide +kernel
theorem d_DiscMakerModel_mark_18 : decode b_DiscMakerModel_mark 18 = .ok (.iadd, 1) := by decide +kernel
theorem d_DiscMakerModel_mark_19 : decode b_DiscMakerModel_mark 19 = .ok (.iload 4, 2) := by decide +kernel
theorem d_DiscMakerModel_mark_21 : decode b_DiscMakerModel_mark 21 = .ok (.invokevirtual 192, 3) := by decide +kernel
theorem d_DiscMakerModel_mark_24 : decode b_DiscMakerModel_mark 24 = .ok (.return_, 1) := by decide +kernel
set_option maxHeartbeats 4000000 in
set_option maxRecDepth 100000 in
theorem m_mark (l : Launch) (D : va_G) (cB cI cJ cZ cN cF : ClassId) (sz : Nat) (h0 : Nat) (ma : Nat → Nat) (sv_thrown sv_length sv_nodes sv_many sv_directories sv_runsFrom sv_runs sv_read sv_wrong sv_isNamed sv_goes sv_goesSize sv_goesAt sv_targetParts sv_isRoot : Int32) (F : Nat → Int64) (x : Int32) (y : Int32) (z : Int32) (w : Int32) (hx0 : x.toInt < 0 ∨ (0 ≤ y.toInt ∧ x.toInt + y.toInt + 2 ≤ 368640)) : Met l y_DiscMakerModel_mark w_DiscMakerModel_mark ({ frames := 1, cells := 0, slots := 0, locals := 23 }) (va_Pc [.ref h0, .int x, .int y, .int z, .int w] (fun U => U.heap.size = sz ∧ va_P D CL [(h0, .inr (11, MO ma sv_thrown sv_length sv_nodes sv_many sv_directories sv_runsFrom sv_runs sv_read sv_wrong sv_isNamed sv_goes sv_goesSize sv_goesAt sv_targetParts sv_isRoot)), ((ma 16), .inl (cJ, 46080, .inr (.inl F)))] U.heap ∧ va_K D CL (TY cB cI cJ cZ cN cF) U ∧ NN U ∧ va_D (fun _ => True) [(h0, .inr (11, MO ma sv_thrown sv_length sv_nodes sv_many sv_directories sv_runsFrom sv_runs sv_read sv_wrong sv_isNamed sv_goes sv_goesSize sv_goesAt sv_targetParts sv_isRoot)), ((ma 16), .inl (cJ, 46080, .inr (.inl F)))])) (va_Qv (fun (u : (Nat → Int64)) => True) (fun (u : (Nat → Int64)) (t : State) => match u with | G => va_P D CL [(h0, .inr (11, MO ma sv_thrown sv_length sv_nodes sv_many sv_directories sv_runsFrom sv_runs sv_read sv_wrong sv_isNamed sv_goes sv_goesSize sv_goesAt sv_targetParts sv_isRoot)), ((ma 16), .inl (cJ, 46080, .inr (.inl G)))] t.heap ∧ va_D (va_A [(h0, .inr (11, MO ma sv_thrown sv_length sv_nodes sv_many sv_directories sv_runsFrom sv_runs sv_read sv_wrong sv_isNamed sv_goes sv_goesSize sv_goesAt sv_targetParts sv_isRoot)), ((ma 16), .inl (cJ, 46080, .inr (.inl F)))] sz) [(h0, .inr (11, MO ma sv_thrown sv_length sv_nodes sv_many sv_directories sv_runsFrom sv_runs sv_read sv_wrong sv_isNamed sv_goes sv_goesSize sv_goesAt sv_targetParts sv_isRoot)), ((ma 16), .inl (cJ, 46080, .inr (.inl G)))]) (va_A [(h0, .inr (11, MO ma sv_thrown sv_length sv_nodes sv_many sv_directories sv_runsFrom sv_runs sv_read sv_wrong sv_isNamed sv_goes sv_goesSize sv_goesAt sv_targetParts sv_isRoot)), ((ma 16), .inl (cJ, 46080, .inr (.inl F)))] sz)) 0 0 (va_A [(h0, .inr (11, MO ma sv_thrown sv_length sv_nodes sv_many sv_directories sv_runsFrom sv_runs sv_read sv_wrong sv_isNamed sv_goes sv_goesSize sv_goesAt sv_targetParts sv_isRoot)), ((ma 16), .inl (cJ, 46080, .inr (.inl F)))] sz) := by
  refine Met.ofW (cc := b_DiscMakerModel_mark) (maxL := 5) (ret := none) (by decide) rfl ?_
  intro p e s m args below meth c s₁ B hml hv
  obtain ⟨rfl, hsz, hP, hK, hN, hD0⟩ := hv
  have hx := B.exec
  have hb := B.bytes
  have hr := B.returns
  have hts := atoms_spec (ws := w_DiscMakerModel_mark) B.pre
  have ht9 := fun (w : Cond) (h : w ∈ lw_g) => hts w (List.mem_cons_of_mem _ h)
  have hown : s.vm.findClass "DiscMakerModel" = some m.cls := findClass_of_methodNamed B.named
  have hlocks := B.notSynchronized
  subst hsz
  have hD := hD0.self (sz := s.heap.size)
  generalize hAe : va_A [(h0, .inr (11, MO ma sv_thrown sv_length sv_nodes sv_many sv_directories sv_runsFrom sv_runs sv_read sv_wrong sv_isNamed sv_goes sv_goesSize sv_goesAt sv_targetParts sv_isRoot)), ((ma 16), .inl (cJ, 46080, .inr (.inl F)))] s.heap.size = A at hD ⊢
  have hA : ∀ q : Nat, s.heap.size ≤ q → A q := fun q h => by rw [← hAe]; exact Or.inr h
  have hS : va_S A s.heap s.heap [] := va_S.rf
  have hP : va_P D CL [(h0, .inr (11, MO ma sv_thrown sv_length sv_nodes sv_many sv_directories sv_runsFrom sv_runs sv_read sv_wrong sv_isNamed sv_goes sv_goesSize sv_goesAt sv_targetParts sv_isRoot)), ((ma 16), .inl (cJ, 46080, .inr (.inl F)))] s.heap := hP
  have hl := lv_entry [.ref h0, .int x, .int y, .int z, .int w] (n := 5) (Nat.le_of_ble_eq_true rfl)
  rw [lg_entry_eq]
  generalize (lg_sl [.ref h0, .int x, .int y, .int z, .int w] ++ List.replicate (5 - (lg_sl [.ref h0, .int x, .int y, .int z, .int w]).length) Slot.unset).toArray = ls at hl ⊢
  have hl : lv_has ls 5 [(0, .ref h0), (1, .int x), (2, .int y), (3, .int z), (4, .int w)] := hl
  have L_m1 : ((-1) : Int32).toInt = (-1) := by decide
  have L_0 : (0 : Int32).toInt = 0 := by decide
  have L_1 : (1 : Int32).toInt = 1 := by decide
  refine lv_iload_n hx hb d_DiscMakerModel_mark_0 rfl (lv_at hl 1 rfl) ?_
  refine lv_if_ge (tgt := 5) hx hb d_DiscMakerModel_mark_1 (by decide) (fun h_9 => ?_) (fun h_9 => ?_)
  · skip
    have g1_2 : 0 ≤ x.toInt := (i_le (by decide) rfl).mp h_9
    refine lv_aload_n hx hb d_DiscMakerModel_mark_5 rfl (lv_at hl 0 rfl) ?_
    refine lv_iload_n hx hb d_DiscMakerModel_mark_6 rfl (lv_at hl 1 rfl) ?_
    refine lv_iload_n hx hb d_DiscMakerModel_mark_7 rfl (lv_at hl 2 rfl) ?_
    refine lv_iadd hx hb d_DiscMakerModel_mark_8 ?_
    refine lv_topi (fun v1 e_v1 => ?_)
    have t_v1 : v1.toInt = x.toInt + y.toInt := by rw [e_v1]; exact i_add rfl rfl (by omega) (by omega)
    refine lv_iload_n hx hb d_DiscMakerModel_mark_9 rfl (lv_at hl 3 rfl) ?_
    have hPc := hP.sub (ws' := [(h0, .inr (11, MO ma sv_thrown sv_length sv_nodes sv_many sv_directories sv_runsFrom sv_runs sv_read sv_wrong sv_isNamed sv_goes sv_goesSize sv_goesAt sv_targetParts sv_isRoot)), ((ma 16), .inl (cJ, 46080, .inr (.inl F)))]) [0, 1] rfl
    have hDc := hD.sub (ws' := [(h0, .inr (11, MO ma sv_thrown sv_length sv_nodes sv_many sv_directories sv_runsFrom sv_runs sv_read sv_wrong sv_isNamed sv_goes sv_goesSize sv_goesAt sv_targetParts sv_isRoot)), ((ma 16), .inl (cJ, 46080, .inr (.inl F)))]) [0, 1] (by decide +kernel) rfl
    have hFc := va_free (wc := [(h0, .inr (11, MO ma sv_thrown sv_length sv_nodes sv_many sv_directories sv_runsFrom sv_runs sv_read sv_wrong sv_isNamed sv_goes sv_goesSize sv_goesAt sv_targetParts sv_isRoot)), ((ma 16), .inl (cJ, 46080, .inr (.inl F)))]) hD hS hA [0, 1] rfl
    have hkc : 0 ≤ 0 := by decide
    have hks : 0 ≤ 0 := by decide
    refine va_callv (va_runV (C := "DiscMakerModel") (As := [.int v1, .int z]) (rest := []) ⟨hx, hb, hml, hown, hts⟩ (m_set l D cB cI cJ cZ cN cF s.heap.size h0 ma sv_thrown sv_length sv_nodes sv_many sv_directories sv_runsFrom sv_runs sv_read sv_wrong sv_isNamed sv_goes sv_goesSize sv_goesAt sv_targetParts sv_isRoot F v1 z (by (try dsimp only); first | assumption | omega | trivial) (by (try dsimp only); first | assumption | omega | trivial)) (cwV 2 hts (lg_goodV k1727 k1729 k79 k125 kc_DiscMakerModel_set) rfl rfl rfl (by decide +kernel) ⟨Nat.le_of_ble_eq_true rfl, Nat.le_of_ble_eq_true rfl⟩) ⟨fun a U g mk q => by obtain ⟨q0, q1, qP, qK, qN, qD⟩ := q; exact ⟨q0, q1, qP, va_K.moved (u := U) (U := U.calling g mk a) (Vm.Alike.refl U.vm) qK, qN.calling, qD⟩, va_recv hK hP (ci := 11) (q0 := 0) rfl rfl, fun U hU hW => ⟨rfl, by rw [hU], by rw [hU]; exact hPc, va_K.moved hW.alike hK, NN.warm hW hN, hDc.weaken (fun _ _ _ _ => trivial)⟩⟩ rfl rfl hl.1 rfl (lv_room (Nat.le_of_ble_eq_true rfl)) d_DiscMakerModel_mark_10 ⟨hkc, hks⟩) hS (fun q _ h => hFc q h) hFc (fun u t H1 locs ht hvm hp_r2 hB hz1 hk1 hS => ?_)
    obtain ⟨G_3, rfl⟩ : ∃ z, z = u := ⟨_, rfl⟩
    obtain ⟨hP1, hD1⟩ := hB
    rw [ht] at hP1
    obtain ⟨hP, hD⟩ := va_join (wr := []) (w1 := [(h0, .inr (11, MO ma sv_thrown sv_length sv_nodes sv_many sv_directories sv_runsFrom sv_runs sv_read sv_wrong sv_isNamed sv_goes sv_goesSize sv_goesAt sv_targetParts sv_isRoot)), ((ma 16), .inl (cJ, 46080, .inr (.inl G_3)))]) hP hD [0, 1] [] rfl rfl (by decide +kernel) (by decide +kernel) hk1 hFc hP1 hD1
    clear hPc hDc hFc hP1 hD1 hk1 hz1 hkc hks
    generalize H1 = H at hP hS ⊢
    have hP : va_P D CL [(h0, .inr (11, MO ma sv_thrown sv_length sv_nodes sv_many sv_directories sv_runsFrom sv_runs sv_read sv_wrong sv_isNamed sv_goes sv_goesSize sv_goesAt sv_targetParts sv_isRoot)), ((ma 16), .inl (cJ, 46080, .inr (.inl G_3)))] H := hP
    have hD : va_D A [(h0, .inr (11, MO ma sv_thrown sv_length sv_nodes sv_many sv_directories sv_runsFrom sv_runs sv_read sv_wrong sv_isNamed sv_goes sv_goesSize sv_goesAt sv_targetParts sv_isRoot)), ((ma 16), .inl (cJ, 46080, .inr (.inl G_3)))] := hD
    refine lv_aload_n hx hb d_DiscMakerModel_mark_13 rfl (lv_at hl 0 rfl) ?_
    refine lv_iload_n hx hb d_DiscMakerModel_mark_14 rfl (lv_at hl 1 rfl) ?_
    refine lv_iload_n hx hb d_DiscMakerModel_mark_15 rfl (lv_at hl 2 rfl) ?_
    refine lv_iadd hx hb d_DiscMakerModel_mark_16 ?_
    refine lv_topi (fun v4 e_v4 => ?_)
    have t_v4 : v4.toInt = x.toInt + y.toInt := by rw [e_v4]; exact i_add rfl rfl (by omega) (by omega)
    refine lv_iconst (v := 1) hx hb d_DiscMakerModel_mark_17 (by decide) ?_
    refine lv_iadd hx hb d_DiscMakerModel_mark_18 ?_
    refine lv_topi (fun v5 e_v5 => ?_)
    have t_v5 : v5.toInt = v4.toInt + 1 := by rw [e_v5]; exact i_add rfl (by decide) (by omega) (by omega)
    refine lv_iload hx hb d_DiscMakerModel_mark_19 (lv_at hl 4 rfl) ?_
    have hPc := hP.sub (ws' := [(h0, .inr (11, MO ma sv_thrown sv_length sv_nodes sv_many sv_directories sv_runsFrom sv_runs sv_read sv_wrong sv_isNamed sv_goes sv_goesSize sv_goesAt sv_targetParts sv_isRoot)), ((ma 16), .inl (cJ, 46080, .inr (.inl G_3)))]) [0, 1] rfl
    have hDc := hD.sub (ws' := [(h0, .inr (11, MO ma sv_thrown sv_length sv_nodes sv_many sv_directories sv_runsFrom sv_runs sv_read sv_wrong sv_isNamed sv_goes sv_goesSize sv_goesAt sv_targetParts sv_isRoot)), ((ma 16), .inl (cJ, 46080, .inr (.inl G_3)))]) [0, 1] (by decide +kernel) rfl
    have hFc := va_free (wc := [(h0, .inr (11, MO ma sv_thrown sv_length sv_nodes sv_many sv_directories sv_runsFrom sv_runs sv_read sv_wrong sv_isNamed sv_goes sv_goesSize sv_goesAt sv_targetParts sv_isRoot)), ((ma 16), .inl (cJ, 46080, .inr (.inl G_3)))]) hD hS hA [0, 1] rfl
    have hkc : 0 ≤ 0 := by decide
    have hks : 0 ≤ 0 := by decide
    refine va_callv (va_runV (C := "DiscMakerModel") (As := [.int v5, .int w]) (rest := []) ⟨hx, hb, hml, hown, hts⟩ (m_set l D cB cI cJ cZ cN cF H.size h0 ma sv_thrown sv_length sv_nodes sv_many sv_directories sv_runsFrom sv_runs sv_read sv_wrong sv_isNamed sv_goes sv_goesSize sv_goesAt sv_targetParts sv_isRoot G_3 v5 w (by (try dsimp only); first | assumption | omega | trivial) (by (try dsimp only); first | assumption | omega | trivial)) (cwV 2 hts (lg_goodV k1727 k1729 k79 k125 kc_DiscMakerModel_set) rfl rfl rfl (by decide +kernel) ⟨Nat.le_of_ble_eq_true rfl, Nat.le_of_ble_eq_true rfl⟩) ⟨fun a U g mk q => by obtain ⟨q0, q1, qP, qK, qN, qD⟩ := q; exact ⟨q0, q1, qP, va_K.moved (u := U) (U := U.calling g mk a) (Vm.Alike.refl U.vm) qK, qN.calling, qD⟩, va_recv hK hP (ci := 11) (q0 := 0) rfl rfl, fun U hU hW => ⟨rfl, by rw [hU], by rw [hU]; exact hPc, va_K.moved hW.alike hK, NN.warm hW hN, hDc.weaken (fun _ _ _ _ => trivial)⟩⟩ rfl rfl hl.1 rfl (lv_room (Nat.le_of_ble_eq_true rfl)) d_DiscMakerModel_mark_21 ⟨hkc, hks⟩) hS (fun q _ h => hFc q h) hFc (fun u t H1 locs ht hvm hp_r6 hB hz1 hk1 hS => ?_)
    obtain ⟨G_7, rfl⟩ : ∃ z, z = u := ⟨_, rfl⟩
    obtain ⟨hP1, hD1⟩ := hB
    rw [ht] at hP1
    obtain ⟨hP, hD⟩ := va_join (wr := []) (w1 := [(h0, .inr (11, MO ma sv_thrown sv_length sv_nodes sv_many sv_directories sv_runsFrom sv_runs sv_read sv_wrong sv_isNamed sv_goes sv_goesSize sv_goesAt sv_targetParts sv_isRoot)), ((ma 16), .inl (cJ, 46080, .inr (.inl G_7)))]) hP hD [0, 1] [] rfl rfl (by decide +kernel) (by decide +kernel) hk1 hFc hP1 hD1
    clear hPc hDc hFc hP1 hD1 hk1 hz1 hkc hks
    generalize H1 = H at hP hS ⊢
    have hP : va_P D CL [(h0, .inr (11, MO ma sv_thrown sv_length sv_nodes sv_many sv_directories sv_runsFrom sv_runs sv_read sv_wrong sv_isNamed sv_goes sv_goesSize sv_goesAt sv_targetParts sv_isRoot)), ((ma 16), .inl (cJ, 46080, .inr (.inl G_7)))] H := hP
    have hD : va_D A [(h0, .inr (11, MO ma sv_thrown sv_length sv_nodes sv_many sv_directories sv_runsFrom sv_runs sv_read sv_wrong sv_isNamed sv_goes sv_goesSize sv_goesAt sv_targetParts sv_isRoot)), ((ma 16), .inl (cJ, 46080, .inr (.inl G_7)))] := hD
    have hP9 := hP.sub (ws' := [(h0, .inr (11, MO ma sv_thrown sv_length sv_nodes sv_many sv_directories sv_runsFrom sv_runs sv_read sv_wrong sv_isNamed sv_goes sv_goesSize sv_goesAt sv_targetParts sv_isRoot)), ((ma 16), .inl (cJ, 46080, .inr (.inl G_7)))]) [0, 1] rfl
    have hD9 := hD.sub (ws' := [(h0, .inr (11, MO ma sv_thrown sv_length sv_nodes sv_many sv_directories sv_runsFrom sv_runs sv_read sv_wrong sv_isNamed sv_goes sv_goesSize sv_goesAt sv_targetParts sv_isRoot)), ((ma 16), .inl (cJ, 46080, .inr (.inl G_7)))]) [0, 1] (by decide +kernel) rfl
    exact W.vret hx hb hr (fun t ht hW => ⟨⟨G_7, rfl, trivial, by rw [ht]; exact hP9, hD9⟩, hS.F ht⟩) hS.2.2 d_DiscMakerModel_mark_24
  · skip
    have g1_2 : ¬ 0 ≤ x.toInt := fun h8 => h_9 ((i_le (by decide) rfl).mpr h8)
    have hP9 := hP.sub (ws' := [(h0, .inr (11, MO ma sv_thrown sv_length sv_nodes sv_many sv_directories sv_runsFrom sv_runs sv_read sv_wrong sv_isNamed sv_goes sv_goesSize sv_goesAt sv_targetParts sv_isRoot)), ((ma 16), .inl (cJ, 46080, .inr (.inl F)))]) [0, 1] rfl
    have hD9 := hD.sub (ws' := [(h0, .inr (11, MO ma sv_thrown sv_length sv_nodes sv_many sv_directories sv_runsFrom sv_runs sv_read sv_wrong sv_isNamed sv_goes sv_goesSize sv_goesAt sv_targetParts sv_isRoot)), ((ma 16), .inl (cJ, 46080, .inr (.inl F)))]) [0, 1] (by decide +kernel) rfl
    exact W.vret hx hb hr (fun t ht hW => ⟨⟨F, rfl, trivial, by rw [ht]; exact hP9, hD9⟩, hS.F ht⟩) hS.2.2 d_DiscMakerModel_mark_4

set_option maxHeartbeats 4000000 in
set_option maxRecDepth 100000 in
theorem m_mark0 (l : Launch) (D : va_G) (cB cI cJ cZ cN cF : ClassId) (sz : Nat) (h0 : Nat) (ma : Nat → Nat) (sv_thrown sv_length sv_nodes sv_many sv_directories sv_runsFrom sv_runs sv_read sv_wrong sv_isNamed sv_goes sv_goesSize sv_goesAt sv_targetParts sv_isRoot : Int32) (F : Nat → Int64) (y : Int32) (z : Int32) (w : Int32) : Met l y_DiscMakerModel_mark w_DiscMakerModel_mark ({ frames := 0, cells := 0, slots := 0, locals := 0 }) (va_Pc [.ref h0, .int (-1), .int y, .int z, .int w] (fun U => U.heap.size = sz ∧ va_P D CL [(h0, .inr (11, MO ma sv_thrown sv_length sv_nodes sv_many sv_directories sv_runsFrom sv_runs sv_read sv_wrong sv_isNamed sv_goes sv_goesSize sv_goesAt sv_targetParts sv_isRoot)), ((ma 16), .inl (cJ, 46080, .inr (.inl F)))] U.heap ∧ va_K D CL (TY cB cI cJ cZ cN cF) U ∧ NN U ∧ va_D (fun _ => True) [(h0, .inr (11, MO ma sv_thrown sv_length sv_nodes sv_many sv_directories sv_runsFrom sv_runs sv_read sv_wrong sv_isNamed sv_goes sv_goesSize sv_goesAt sv_targetParts sv_isRoot)), ((ma 16), .inl (cJ, 46080, .inr (.inl F)))])) (va_Qv (fun (u : Unit) => True) (fun (u : Unit) (t : State) => match u with | () => va_P D CL [(h0, .inr (11, MO ma sv_thrown sv_length sv_nodes sv_many sv_directories sv_runsFrom sv_runs sv_read sv_wrong sv_isNamed sv_goes sv_goesSize sv_goesAt sv_targetParts sv_isRoot)), ((ma 16), .inl (cJ, 46080, .inr (.inl F)))] t.heap ∧ va_D (va_A [(h0, .inr (11, MO ma sv_thrown sv_length sv_nodes sv_many sv_directories sv_runsFrom sv_runs sv_read sv_wrong sv_isNamed sv_goes sv_goesSize sv_goesAt sv_targetParts sv_isRoot)), ((ma 16), .inl (cJ, 46080, .inr (.inl F)))] sz) [(h0, .inr (11, MO ma sv_thrown sv_length sv_nodes sv_many sv_directories sv_runsFrom sv_runs sv_read sv_wrong sv_isNamed sv_goes sv_goesSize sv_goesAt sv_targetParts sv_isRoot)), ((ma 16), .inl (cJ, 46080, .inr (.inl F)))]) (va_A [(h0, .inr (11, MO ma sv_thrown sv_length sv_nodes sv_many sv_directories sv_runsFrom sv_runs sv_read sv_wrong sv_isNamed sv_goes sv_goesSize sv_goesAt sv_targetParts sv_isRoot)), ((ma 16), .inl (cJ, 46080, .inr (.inl F)))] sz)) 0 0 (va_A [(h0, .inr (11, MO ma sv_thrown sv_length sv_nodes sv_many sv_directories sv_runsFrom sv_runs sv_read sv_wrong sv_isNamed sv_goes sv_goesSize sv_goesAt sv_targetParts sv_isRoot)), ((ma 16), .inl (cJ, 46080, .inr (.inl F)))] sz) := by
  refine Met.ofW (cc := b_DiscMakerModel_mark) (maxL := 5) (ret := none) (by decide) rfl ?_
  intro p e s m args below meth c s₁ B hml hv
  obtain ⟨rfl, hsz, hP, hK, hN, hD0⟩ := hv
  have hx := B.exec
  have hb := B.bytes
  have hr := B.returns
  have hts := atoms_spec (ws := w_DiscMakerModel_mark) B.pre
  have ht9 := fun (w : Cond) (h : w ∈ lw_g) => hts w (List.mem_cons_of_mem _ h)
  have hown : s.vm.findClass "DiscMakerModel" = some m.cls := findClass_of_methodNamed B.named
  have hlocks := B.notSynchronized
  subst hsz
  have hD := hD0.self (sz := s.heap.size)
  generalize hAe : va_A [(h0, .inr (11, MO ma sv_thrown sv_length sv_nodes sv_many sv_directories sv_runsFrom sv_runs sv_read sv_wrong sv_isNamed sv_goes sv_goesSize sv_goesAt sv_targetParts sv_isRoot)), ((ma 16), .inl (cJ, 46080, .inr (.inl F)))] s.heap.size = A at hD ⊢
  have hA : ∀ q : Nat, s.heap.size ≤ q → A q := fun q h => by rw [← hAe]; exact Or.inr h
  have hS : va_S A s.heap s.heap [] := va_S.rf
  have hP : va_P D CL [(h0, .inr (11, MO ma sv_thrown sv_length sv_nodes sv_many sv_directories sv_runsFrom sv_runs sv_read sv_wrong sv_isNamed sv_goes sv_goesSize sv_goesAt sv_targetParts sv_isRoot)), ((ma 16), .inl (cJ, 46080, .inr (.inl F)))] s.heap := hP
  have hl := lv_entry [.ref h0, .int (-1), .int y, .int z, .int w] (n := 5) (Nat.le_of_ble_eq_true rfl)
  rw [lg_entry_eq]
  generalize (lg_sl [.ref h0, .int (-1), .int y, .int z, .int w] ++ List.replicate (5 - (lg_sl [.ref h0, .int (-1), .int y, .int z, .int w]).length) Slot.unset).toArray = ls at hl ⊢
  have hl : lv_has ls 5 [(0, .ref h0), (1, .int (-1)), (2, .int y), (3, .int z), (4, .int w)] := hl
  have L_m1 : ((-1) : Int32).toInt = (-1) := by decide
  have L_0 : (0 : Int32).toInt = 0 := by decide
  have L_1 : (1 : Int32).toInt = 1 := by decide
  refine lv_iload_n hx hb d_DiscMakerModel_mark_0 rfl (lv_at hl 1 rfl) ?_
  refine lv_if_ge (tgt := 5) hx hb d_DiscMakerModel_mark_1 (by decide) (fun h_9 => absurd h_9 (by decide)) (fun _ => ?_)
  have hP9 := hP.sub (ws' := [(h0, .inr (11, MO ma sv_thrown sv_length sv_nodes sv_many sv_directories sv_runsFrom sv_runs sv_read sv_wrong sv_isNamed sv_goes sv_goesSize sv_goesAt sv_targetParts sv_isRoot)), ((ma 16), .inl (cJ, 46080, .inr (.inl F)))]) [0, 1] rfl
  have hD9 := hD.sub (ws' := [(h0, .inr (11, MO ma sv_thrown sv_length sv_nodes sv_many sv_directories sv_runsFrom sv_runs sv_read sv_wrong sv_isNamed sv_goes sv_goesSize sv_goesAt sv_targetParts sv_isRoot)), ((ma 16), .inl (cJ, 46080, .inr (.inl F)))]) [0, 1] (by decide +kernel) rfl
  exact W.vret hx hb hr (fun t ht hW => ⟨⟨(), rfl, trivial, by rw [ht]; exact hP9, hD9⟩, hS.F ht⟩) hS.2.2 d_DiscMakerModel_mark_4

theorem d_DiscMakerModel_whole_0 : decode b_DiscMakerModel_whole 0 = .ok (.iload_n 0, 1) := by decide +kernel
theorem d_DiscMakerModel_whole_1 : decode b_DiscMakerModel_whole 1 = .ok (.sipush 2047, 3) := by decide +kernel
theorem d_DiscMakerModel_whole_4 : decode b_DiscMakerModel_whole 4 = .ok (.iadd, 1) := by decide +kernel
theorem d_DiscMakerModel_whole_5 : decode b_DiscMakerModel_whole 5 = .ok (.sipush 2048, 3) := by decide +kernel
theorem d_DiscMakerModel_whole_8 : decode b_DiscMakerModel_whole 8 = .ok (.idiv, 1) := by decide +kernel
theorem d_DiscMakerModel_whole_9 : decode b_DiscMakerModel_whole 9 = .ok (.ireturn, 1) := by decide +kernel
set_option maxHeartbeats 4000000 in
set_option maxRecDepth 100000 in
theorem m_whole (l : Launch) (D : va_G) (cB cI cJ cZ cN cF : ClassId) (sz : Nat) (x : Int32) (hx0 : 0 ≤ x.toInt ∧ x.toInt ≤ 1000000000) : Met l y_DiscMakerModel_whole w_DiscMakerModel_whole ({ frames := 0, cells := 0, slots := 0, locals := 0 }) (va_Pc [.int x] (fun U => U.heap.size = sz ∧ va_P D CL [] U.heap ∧ va_K D CL (TY cB cI cJ cZ cN cF) U ∧ NN U ∧ va_D (fun _ => True) [])) (va_Qi (fun (r : Int32) (u : Unit) => (r.toInt = (x.toInt + 2047) / 2048)) (fun (u : Unit) (t : State) => match u with | () => va_P D CL [] t.heap ∧ va_D (va_A [] sz) []) (va_A [] sz)) 0 0 (va_A [] sz) := by
  refine Met.ofW (cc := b_DiscMakerModel_whole) (maxL := 1) (ret := some .int) (by decide) rfl ?_
  intro p e s m args below meth c s₁ B hml hv
  obtain ⟨rfl, hsz, hP, hK, hN, hD0⟩ := hv
  have hx := B.exec
  have hb := B.bytes
  have hr := B.returns
  have hts := atoms_spec (ws := w_DiscMakerModel_whole) B.pre
  have ht9 := fun (w : Cond) (h : w ∈ lw_g) => hts w (List.mem_cons_of_mem _ h)
  have hown : s.vm.findClass "DiscMakerModel" = some m.cls := findClass_of_methodNamed B.named
  have hlocks := B.notSynchronized
  subst hsz
  have hD := hD0.self (sz := s.heap.size)
  generalize hAe : va_A [] s.heap.size = A at hD ⊢
  have hA : ∀ q : Nat, s.heap.size ≤ q → A q := fun q h => by rw [← hAe]; exact Or.inr h
  have hS : va_S A s.heap s.heap [] := va_S.rf
  have hP : va_P D CL [] s.heap := hP
  have hl := lv_entry [.int x] (n := 1) (Nat.le_of_ble_eq_true rfl)
  rw [lg_entry_eq]
  generalize (lg_sl [.int x] ++ List.replicate (1 - (lg_sl [.int x]).length) Slot.unset).toArray = ls at hl ⊢
  have hl : lv_has ls 1 [(0, .int x)] := hl
  have L_m1 : ((-1) : Int32).toInt = (-1) := by decide
  have L_0 : (0 : Int32).toInt = 0 := by decide
  have L_1 : (1 : Int32).toInt = 1 := by decide
  have L_2047 : (2047 : Int32).toInt = 2047 := by decide
  have L_2048 : (2048 : Int32).toInt = 2048 := by decide
  refine lv_iload_n hx hb d_DiscMakerModel_whole_0 rfl (lv_at hl 0 rfl) ?_
  refine lv_sipush (v := 2047) hx hb d_DiscMakerModel_whole_1 (by decide) ?_
  refine lv_iadd hx hb d_DiscMakerModel_whole_4 ?_
  refine lv_topi (fun v1 e_v1 => ?_)
  have t_v1 : v1.toInt = x.toInt + 2047 := by rw [e_v1]; exact i_add rfl (by decide) (by omega) (by omega)
  refine lv_sipush (v := 2048) hx hb d_DiscMakerModel_whole_5 (by decide) ?_
  refine lv_idiv hx hb d_DiscMakerModel_whole_8 (by decide) ?_
  refine lv_topi (fun v2 e_v2 => ?_)
  have t_v2 : v2.toInt = v1.toInt / 2048 := by rw [e_v2]; exact i_div rfl (by decide) (by omega) (by omega)
  have hP9 := hP.sub (ws' := []) [] rfl
  have hD9 := hD.sub (ws' := []) [] (by decide +kernel) rfl
  exact W.iret (v := v2) hx hb hr (fun t ht hW => ⟨⟨v2, (), rfl, (by (try dsimp only); first | assumption | omega | trivial), by rw [ht]; exact hP9, hD9⟩, hS.F ht⟩) hS.2.2 d_DiscMakerModel_whole_9

theorem d_DiscMakerModel_fitted_0 : decode b_DiscMakerModel_fitted 0 = .ok (.iload_n 0, 1) := by decide +kernel
theorem d_DiscMakerModel_fitted_1 : decode b_DiscMakerModel_fitted 1 = .ok (.sipush 2048, 3) := by decide +kernel
theorem d_DiscMakerModel_fitted_4 : decode b_DiscMakerModel_fitted 4 = .ok (.irem, 1) := by decide +kernel
theorem d_DiscMakerModel_fitted_5 : decode b_DiscMakerModel_fitted 5 = .ok (.iload_n 1, 1) := by decide +kernel
theorem d_DiscMakerModel_fitted_6 : decode b_DiscMakerModel_fitted 6 = .ok (.iadd, 1) := by decide +kernel
theorem d_DiscMakerModel_fitted_7 : decode b_DiscMakerModel_fitted 7 = .ok (.sipush 2048, 3) := by decide +kernel
theorem d_DiscMakerModel_fitted_10 : decode b_DiscMakerModel_fitted 10 = .ok (.if_icmp .le 17, 3) := by decide +kernel
theorem d_DiscMakerModel_fitted_13 : decode b_DiscMakerModel_fitted 13 = .ok (.iload_n 0, 1) := by decide +kernel
theorem d_DiscMakerModel_fitted_14 : decode b_DiscMakerModel_fitted 14 = .ok (.iload_n 0, 1) := by decide +kernel
theorem d_DiscMakerModel_fitted_15 : decode b_DiscMakerModel_fitted 15 = .ok (.sipush 2048, 3) := by decide +kernel
theorem d_DiscMakerModel_fitted_18 : decode b_DiscMakerModel_fitted 18 = .ok (.irem, 1) := by decide +kernel
theorem d_DiscMakerModel_fitted_19 : decode b_DiscMakerModel_fitted 19 = .ok (.isub, 1) := by decide +kernel
theorem d_DiscMakerModel_fitted_20 : decode b_DiscMakerModel_fitted 20 = .ok (.sipush 2048, 3) := by decide +kernel
theorem d_DiscMakerModel_fitted_23 : decode b_DiscMakerModel_fitted 23 = .ok (.iadd, 1) := by decide +kernel
theorem d_DiscMakerModel_fitted_24 : decode b_DiscMakerModel_fitted 24 = .ok (.goto 4, 3) := by decide +kernel
theorem d_DiscMakerModel_fitted_27 : decode b_DiscMakerModel_fitted 27 = .ok (.iload_n 0, 1) := by decide +kernel
theorem d_DiscMakerModel_fitted_28 : decode b_DiscMakerModel_fitted 28 = .ok (.ireturn, 1) := by decide +kernel
set_option maxHeartbeats 4000000 in
set_option maxRecDepth 100000 in
theorem m_fitted (l : Launch) (D : va_G) (cB cI cJ cZ cN cF : ClassId) (sz : Nat) (x : Int32) (y : Int32) (hx0 : 0 ≤ x.toInt ∧ x.toInt ≤ 1000000000) (hy0 : 0 ≤ y.toInt ∧ y.toInt ≤ 100000) : Met l y_DiscMakerModel_fitted w_DiscMakerModel_fitted ({ frames := 0, cells := 0, slots := 0, locals := 0 }) (va_Pc [.int x, .int y] (fun U => U.heap.size = sz ∧ va_P D CL [] U.heap ∧ va_K D CL (TY cB cI cJ cZ cN cF) U ∧ NN U ∧ va_D (fun _ => True) [])) (va_Qi (fun (r : Int32) (u : Unit) => (x.toInt ≤ r.toInt ∧ r.toInt ≤ x.toInt + y.toInt) ∧ (r.toInt % 2048 + y.toInt ≤ 2048 ∨ r.toInt % 2048 = 0) ∧ (r.toInt = fitI x.toInt y.toInt)) (fun (u : Unit) (t : State) => match u with | () => va_P D CL [] t.heap ∧ va_D (va_A [] sz) []) (va_A [] sz)) 0 0 (va_A [] sz) := by
  refine Met.ofW (cc := b_DiscMakerModel_fitted) (maxL := 2) (ret := some .int) (by decide) rfl ?_
  intro p e s m args below meth c s₁ B hml hv
  obtain ⟨rfl, hsz, hP, hK, hN, hD0⟩ := hv
  have hx := B.exec
  have hb := B.bytes
  have hr := B.returns
  have hts := atoms_spec (ws := w_DiscMakerModel_fitted) B.pre
  have ht9 := fun (w : Cond) (h : w ∈ lw_g) => hts w (List.mem_cons_of_mem _ h)
  have hown : s.vm.findClass "DiscMakerModel" = some m.cls := findClass_of_methodNamed B.named
  have hlocks := B.notSynchronized
  subst hsz
  have hD := hD0.self (sz := s.heap.size)
  generalize hAe : va_A [] s.heap.size = A at hD ⊢
  have hA : ∀ q : Nat, s.heap.size ≤ q → A q := fun q h => by rw [← hAe]; exact Or.inr h
  have hS : va_S A s.heap s.heap [] := va_S.rf
  have hP : va_P D CL [] s.heap := hP
  have hl := lv_entry [.int x, .int y] (n := 2) (Nat.le_of_ble_eq_true rfl)
  rw [lg_entry_eq]
  generalize (lg_sl [.int x, .int y] ++ List.replicate (2 - (lg_sl [.int x, .int y]).length) Slot.unset).toArray = ls at hl ⊢
  have hl : lv_has ls 2 [(0, .int x), (1, .int y)] := hl
  have L_m1 : ((-1) : Int32).toInt = (-1) := by decide
  have L_0 : (0 : Int32).toInt = 0 := by decide
  have L_1 : (1 : Int32).toInt = 1 := by decide
  have L_2048 : (2048 : Int32).toInt = 2048 := by decide
  refine lv_iload_n hx hb d_DiscMakerModel_fitted_0 rfl (lv_at hl 0 rfl) ?_
  refine lv_sipush (v := 2048) hx hb d_DiscMakerModel_fitted_1 (by decide) ?_
  refine lv_irem hx hb d_DiscMakerModel_fitted_4 (by decide) ?_
  refine lv_topi (fun v1 e_v1 => ?_)
  have t_v1 : v1.toInt = x.toInt % 2048 := by rw [e_v1]; exact i_rem rfl (by decide) (by omega) (by omega)
  refine lv_iload_n hx hb d_DiscMakerModel_fitted_5 rfl (lv_at hl 1 rfl) ?_
  refine lv_iadd hx hb d_DiscMakerModel_fitted_6 ?_
  refine lv_topi (fun v2 e_v2 => ?_)
  have t_v2 : v2.toInt = v1.toInt + y.toInt := by rw [e_v2]; exact i_add rfl rfl (by omega) (by omega)
  refine lv_sipush (v := 2048) hx hb d_DiscMakerModel_fitted_7 (by decide) ?_
  refine lv_icmp_le (tgt := 27) hx hb d_DiscMakerModel_fitted_10 (by decide) (fun h_9 => ?_) (fun h_9 => ?_)
  · skip
    have g10_7 : v2.toInt ≤ 2048 := (i_le rfl (by decide)).mp h_9
    refine lv_iload_n hx hb d_DiscMakerModel_fitted_27 rfl (lv_at hl 0 rfl) ?_
    have hP9 := hP.sub (ws' := []) [] rfl
    have hD9 := hD.sub (ws' := []) [] (by decide +kernel) rfl
    exact W.iret (v := x) hx hb hr (fun t ht hW => ⟨⟨x, (), rfl, ⟨(by (try dsimp only); first | assumption | omega | trivial), (by (try dsimp only); first | assumption | omega | trivial), (by (try dsimp only); unfold fitI; first | (rw [if_pos (by omega)]; omega) | (rw [if_neg (by omega)]))⟩, by rw [ht]; exact hP9, hD9⟩, hS.F ht⟩) hS.2.2 d_DiscMakerModel_fitted_28
  · skip
    have g10_7 : ¬ v2.toInt ≤ 2048 := fun h8 => h_9 ((i_le rfl (by decide)).mpr h8)
    refine lv_iload_n hx hb d_DiscMakerModel_fitted_13 rfl (lv_at hl 0 rfl) ?_
    refine lv_iload_n hx hb d_DiscMakerModel_fitted_14 rfl (lv_at hl 0 rfl) ?_
    refine lv_sipush (v := 2048) hx hb d_DiscMakerModel_fitted_15 (by decide) ?_
    refine lv_irem hx hb d_DiscMakerModel_fitted_18 (by decide) ?_
    refine lv_topi (fun v3 e_v3 => ?_)
    have t_v3 : v3.toInt = x.toInt % 2048 := by rw [e_v3]; exact i_rem rfl (by decide) (by omega) (by omega)
    refine lv_isub hx hb d_DiscMakerModel_fitted_19 ?_
    refine lv_topi (fun v4 e_v4 => ?_)
    have t_v4 : v4.toInt = x.toInt - v3.toInt := by rw [e_v4]; exact i_sub rfl rfl (by omega) (by omega)
    refine lv_sipush (v := 2048) hx hb d_DiscMakerModel_fitted_20 (by decide) ?_
    refine lv_iadd hx hb d_DiscMakerModel_fitted_23 ?_
    refine lv_topi (fun v5 e_v5 => ?_)
    have t_v5 : v5.toInt = v4.toInt + 2048 := by rw [e_v5]; exact i_add rfl (by decide) (by omega) (by omega)
    refine lv_goto (tgt := 28) hx hb d_DiscMakerModel_fitted_24 (by decide) ?_
    have hP9 := hP.sub (ws' := []) [] rfl
    have hD9 := hD.sub (ws' := []) [] (by decide +kernel) rfl
    exact W.iret (v := v5) hx hb hr (fun t ht hW => ⟨⟨v5, (), rfl, ⟨(by (try dsimp only); first | assumption | omega | trivial), (by (try dsimp only); first | assumption | omega | trivial), (by (try dsimp only); unfold fitI; first | (rw [if_pos (by omega)]; omega) | (rw [if_neg (by omega)]))⟩, by rw [ht]; exact hP9, hD9⟩, hS.F ht⟩) hS.2.2 d_DiscMakerModel_fitted_28

theorem d_DiscMakerModel_links_0 : decode b_DiscMakerModel_links 0 = .ok (.aload_n 0, 1) := by decide +kernel
theorem d_DiscMakerModel_links_1 : decode b_DiscMakerModel_links 1 = .ok (.getfield 13, 3) := by decide +kernel
theorem d_DiscMakerModel_links_4 : decode b_DiscMakerModel_links 4 = .ok (.iload_n 1, 1) := by decide +kernel
theorem d_DiscMakerModel_links_5 : decode b_DiscMakerModel_links 5 = .ok (.iaload, 1) := by decide +kernel
theorem d_DiscMakerModel_links_6 : decode b_DiscMakerModel_links 6 = .ok (.ifCond .le 5, 3) := by decide +kernel
theorem d_DiscMakerModel_links_9 : decode b_DiscMakerModel_links 9 = .ok (.iconst 1, 1) := by decide +kernel
theorem d_DiscMakerModel_links_10 : decode b_DiscMakerModel_links 10 = .ok (.ireturn, 1) := by decide +kernel
theorem d_DiscMakerModel_links_11 : decode b_DiscMakerModel_links 11 = .ok (.iconst 2, 1) := by decide +kernel
theorem d_DiscMakerModel_links_12 : decode b_DiscMakerModel_links 12 = .ok (.istore_n 2, 1) := by decide +kernel
theorem d_DiscMakerModel_links_13 : decode b_DiscMakerModel_links 13 = .ok (.iconst 1, 1) := by decide +kernel
theorem d_DiscMakerModel_links_14 : decode b_DiscMakerModel_links 14 = .ok (.istore_n 3, 1) := by decide +kernel
theorem d_DiscMakerModel_links_15 : decode b_DiscMakerModel_links 15 = .ok (.iload_n 3, 1) := by decide +kernel
theorem d_DiscMakerModel_links_16 : decode b_DiscMakerModel_links 16 = .ok (.aload_n 0, 1) := by decide +kernel
theorem d_DiscMakerModel_links_17 : decode b_DiscMakerModel_links 17 = .ok (.getfield 114, 3) := by decide +kernel
theorem d_DiscMakerModel_links_20 : decode b_DiscMakerModel_links 20 = .ok (.if_icmp .ge 36, 3) := by decide +kernel
theorem d_DiscMakerModel_links_23 : decode b_DiscMakerModel_links 23 = .ok (.iload_n 2, 1) := by decide +kernel
theorem d_DiscMakerModel_links_24 : decode b_DiscMakerModel_links 24 = .ok (.aload_n 0, 1) := by decide +kernel
theorem d_DiscMakerModel_links_25 : decode b_DiscMakerModel_links 25 = .ok (.getfield 17, 3) := by decide +kernel
theorem d_DiscMakerModel_links_28 : decode b_DiscMakerModel_links 28 = .ok (.iload_n 3, 1) := by decide +kernel
theorem d_DiscMakerModel_links_29 : decode b_DiscMakerModel_links 29 = .ok (.iaload, 1) := by decide +kernel
theorem d_DiscMakerModel_links_30 : decode b_DiscMakerModel_links 30 = .ok (.iload_n 1, 1) := by decide +kernel
theorem d_DiscMakerModel_links_31 : decode b_DiscMakerModel_links 31 = .ok (.if_icmp .ne 16, 3) := by decide +kernel
theorem d_DiscMakerModel_links_34 : decode b_DiscMakerModel_links 34 = .ok (.aload_n 0, 1) := by decide +kernel
theorem d_DiscMakerModel_links_35 : decode b_DiscMakerModel_links 35 = .ok (.getfield 13, 3) := by decide +kernel
theorem d_DiscMakerModel_links_38 : decode b_DiscMakerModel_links 38 = .ok (.iload_n 3, 1) := by decide +kernel
theorem d_DiscMakerModel_links_39 : decode b_DiscMakerModel_links 39 = .ok (.iaload, 1) := by decide +kernel
theorem d_DiscMakerModel_links_40 : decode b_DiscMakerModel_links 40 = .ok (.ifCond .ne 7, 3) := by decide +kernel
theorem d_DiscMakerModel_links_43 : decode b_DiscMakerModel_links 43 = .ok (.iconst 1, 1) := by decide +kernel
theorem d_DiscMakerModel_links_44 : decode b_DiscMakerModel_links 44 = .ok (.goto 4, 3) := by decide +kernel
theorem d_DiscMakerModel_links_47 : decode b_DiscMakerModel_links 47 = .ok (.iconst 0, 1) := by decide +kernel
theorem d_DiscMakerModel_links_48 : decode b_DiscMakerModel_links 48 = .ok (.iadd, 1) := by decide +kernel
theorem d_DiscMakerModel_links_49 : decode b_DiscMakerModel_links 49 = .ok (.istore_n 2, 1) := by decide +kernel
theorem d_DiscMakerModel_links_50 : decode b_DiscMakerModel_links 50 = .ok (.iinc 3 1, 3) := by decide +kernel
theorem d_DiscMakerModel_links_53 : decode b_DiscMakerModel_links 53 = .ok (.goto (-38), 3) := by decide +kernel
theorem d_DiscMakerModel_links_56 : decode b_DiscMakerModel_links 56 = .ok (.iload_n 2, 1) := by decide +kernel
theorem d_DiscMakerModel_links_57 : decode b_DiscMakerModel_links 57 = .ok (.ireturn, 1) := by decide +kernel
set_option maxHeartbeats 4000000 in
set_option maxRecDepth 100000 in
theorem m_links (l : Launch) (D : va_G) (cB cI cJ cZ cN cF : ClassId) (sz : Nat) (h0 : Nat) (ma : Nat → Nat) (sv_thrown sv_length sv_nodes sv_many sv_directories sv_runsFrom sv_runs sv_read sv_wrong sv_isNamed sv_goes sv_goesSize sv_goesAt sv_targetParts sv_isRoot : Int32) (fK : Nat → Int32) (fP : Nat → Int32) (x : Int32) (hn : 1 ≤ sv_nodes.toInt ∧ sv_nodes.toInt ≤ 40) (hx0 : 0 ≤ x.toInt ∧ x.toInt < 40) : Met l y_DiscMakerModel_links w_DiscMakerModel_links ({ frames := 0, cells := 0, slots := 0, locals := 0 }) (va_Pc [.ref h0, .int x] (fun U => U.heap.size = sz ∧ va_P D CL [(h0, .inr (11, MO ma sv_thrown sv_length sv_nodes sv_many sv_directories sv_runsFrom sv_runs sv_read sv_wrong sv_isNamed sv_goes sv_goesSize sv_goesAt sv_targetParts sv_isRoot)), ((ma 1), .inl (cI, 40, .inl fK)), ((ma 2), .inl (cI, 40, .inl fP))] U.heap ∧ va_K D CL (TY cB cI cJ cZ cN cF) U ∧ NN U ∧ va_D (fun _ => True) [(h0, .inr (11, MO ma sv_thrown sv_length sv_nodes sv_many sv_directories sv_runsFrom sv_runs sv_read sv_wrong sv_isNamed sv_goes sv_goesSize sv_goesAt sv_targetParts sv_isRoot)), ((ma 1), .inl (cI, 40, .inl fK)), ((ma 2), .inl (cI, 40, .inl fP))])) (va_Qi (fun (r : Int32) (u : Unit) => True) (fun (u : Unit) (t : State) => match u with | () => va_P D CL [(h0, .inr (11, MO ma sv_thrown sv_length sv_nodes sv_many sv_directories sv_runsFrom sv_runs sv_read sv_wrong sv_isNamed sv_goes sv_goesSize sv_goesAt sv_targetParts sv_isRoot)), ((ma 1), .inl (cI, 40, .inl fK)), ((ma 2), .inl (cI, 40, .inl fP))] t.heap ∧ va_D (va_A [(h0, .inr (11, MO ma sv_thrown sv_length sv_nodes sv_many sv_directories sv_runsFrom sv_runs sv_read sv_wrong sv_isNamed sv_goes sv_goesSize sv_goesAt sv_targetParts sv_isRoot)), ((ma 1), .inl (cI, 40, .inl fK)), ((ma 2), .inl (cI, 40, .inl fP))] sz) [(h0, .inr (11, MO ma sv_thrown sv_length sv_nodes sv_many sv_directories sv_runsFrom sv_runs sv_read sv_wrong sv_isNamed sv_goes sv_goesSize sv_goesAt sv_targetParts sv_isRoot)), ((ma 1), .inl (cI, 40, .inl fK)), ((ma 2), .inl (cI, 40, .inl fP))]) (va_A [(h0, .inr (11, MO ma sv_thrown sv_length sv_nodes sv_many sv_directories sv_runsFrom sv_runs sv_read sv_wrong sv_isNamed sv_goes sv_goesSize sv_goesAt sv_targetParts sv_isRoot)), ((ma 1), .inl (cI, 40, .inl fK)), ((ma 2), .inl (cI, 40, .inl fP))] sz)) 0 0 (va_A [(h0, .inr (11, MO ma sv_thrown sv_length sv_nodes sv_many sv_directories sv_runsFrom sv_runs sv_read sv_wrong sv_isNamed sv_goes sv_goesSize sv_goesAt sv_targetParts sv_isRoot)), ((ma 1), .inl (cI, 40, .inl fK)), ((ma 2), .inl (cI, 40, .inl fP))] sz) := by
  refine Met.ofW (cc := b_DiscMakerModel_links) (maxL := 4) (ret := some .int) (by decide) rfl ?_
  intro p e s m args below meth c s₁ B hml hv
  obtain ⟨rfl, hsz, hP, hK, hN, hD0⟩ := hv
  have hx := B.exec
  have hb := B.bytes
  have hr := B.returns
  have hts := atoms_spec (ws := w_DiscMakerModel_links) B.pre
  have ht9 := fun (w : Cond) (h : w ∈ lw_g) => hts w (List.mem_cons_of_mem _ h)
  have hown : s.vm.findClass "DiscMakerModel" = some m.cls := findClass_of_methodNamed B.named
  have hlocks := B.notSynchronized
  subst hsz
  have hD := hD0.self (sz := s.heap.size)
  generalize hAe : va_A [(h0, .inr (11, MO ma sv_thrown sv_length sv_nodes sv_many sv_directories sv_runsFrom sv_runs sv_read sv_wrong sv_isNamed sv_goes sv_goesSize sv_goesAt sv_targetParts sv_isRoot)), ((ma 1), .inl (cI, 40, .inl fK)), ((ma 2), .inl (cI, 40, .inl fP))] s.heap.size = A at hD ⊢
  have hA : ∀ q : Nat, s.heap.size ≤ q → A q := fun q h => by rw [← hAe]; exact Or.inr h
  have hS : va_S A s.heap s.heap [] := va_S.rf
  have hP : va_P D CL [(h0, .inr (11, MO ma sv_thrown sv_length sv_nodes sv_many sv_directories sv_runsFrom sv_runs sv_read sv_wrong sv_isNamed sv_goes sv_goesSize sv_goesAt sv_targetParts sv_isRoot)), ((ma 1), .inl (cI, 40, .inl fK)), ((ma 2), .inl (cI, 40, .inl fP))] s.heap := hP
  have hl := lv_entry [.ref h0, .int x] (n := 4) (Nat.le_of_ble_eq_true rfl)
  rw [lg_entry_eq]
  generalize (lg_sl [.ref h0, .int x] ++ List.replicate (4 - (lg_sl [.ref h0, .int x]).length) Slot.unset).toArray = ls at hl ⊢
  have hl : lv_has ls 4 [(0, .ref h0), (1, .int x)] := hl
  have L_m1 : ((-1) : Int32).toInt = (-1) := by decide
  have L_0 : (0 : Int32).toInt = 0 := by decide
  have L_1 : (1 : Int32).toInt = 1 := by decide
  have L_2 : (2 : Int32).toInt = 2 := by decide
  refine lv_aload_n hx hb d_DiscMakerModel_links_0 rfl (lv_at hl 0 rfl) ?_
  refine va_get (D := D) (ci := 11) (v := .ref (ma 1)) (C := "DiscMakerModel") (T := F_DiscMakerModel) (N := 48) hx hb ht9 in_DiscMakerModel hown hK hP 0 rfl rfl 4 (by decide) (ht9 _ k1435) (fun _ h9 => h9) rfl d_DiscMakerModel_links_1 ?_
  refine lv_iload_n hx hb d_DiscMakerModel_links_4 rfl (lv_at hl 1 rfl) ?_
  refine va_iald hx hb hK hP 1 1 rfl rfl (vp_in_iff.mpr ⟨by omega, by omega⟩) d_DiscMakerModel_links_5 ?_
  refine lv_topi (fun v1 e_v1 => ?_)
  refine lv_if_le (tgt := 11) hx hb d_DiscMakerModel_links_6 (by decide) (fun h_9 => ?_) (fun h_9 => ?_)
  · skip
    have g6_5 : v1.toInt ≤ 0 := (i_le rfl (by decide)).mp h_9
    refine lv_iconst (v := 2) hx hb d_DiscMakerModel_links_11 (by decide) ?_
    refine lv_istore_n hx hb d_DiscMakerModel_links_12 rfl hl (by decide) rfl (fun ls hl => ?_)
    have hl : lv_has ls 4 [(2, .int 2), (0, .ref h0), (1, .int x)] := hl
    refine lv_iconst (v := 1) hx hb d_DiscMakerModel_links_13 (by decide) ?_
    refine lv_istore_n hx hb d_DiscMakerModel_links_14 rfl hl (by decide) rfl (fun ls hl => ?_)
    have hl : lv_has ls 4 [(3, .int 1), (2, .int 2), (0, .ref h0), (1, .int x)] := hl
    refine zz_labM (B := fun (lk : Nat) (K : Heap → List Loc → Array Slot → List Value → Prop) => ∀ (al : Int32) (kx : Int32) (H : Heap) (locs : List Loc) (ls : Array Slot), lk = (40 - kx.toInt).toNat → (1 ≤ kx.toInt ∧ kx.toInt ≤ 40) → (0 ≤ al.toInt ∧ al.toInt ≤ 2 + kx.toInt) → va_P D CL [(h0, .inr (11, MO ma sv_thrown sv_length sv_nodes sv_many sv_directories sv_runsFrom sv_runs sv_read sv_wrong sv_isNamed sv_goes sv_goesSize sv_goesAt sv_targetParts sv_isRoot)), ((ma 1), .inl (cI, 40, .inl fK)), ((ma 2), .inl (cI, 40, .inl fP))] H → va_D A [(h0, .inr (11, MO ma sv_thrown sv_length sv_nodes sv_many sv_directories sv_runsFrom sv_runs sv_read sv_wrong sv_isNamed sv_goes sv_goesSize sv_goesAt sv_targetParts sv_isRoot)), ((ma 1), .inl (cI, 40, .inl fK)), ((ma 2), .inl (cI, 40, .inl fP))] → va_S A s.heap H locs → lv_has ls 4 [(0, .ref h0), (1, .int x), (2, .int al), (3, .int kx)] → K H locs ls []) 15 ?_ ?_
    · skip
      intro lk ih15 al kx H locs ls hm15 f1 f2 hP hD hS hl
      refine lv_iload_n hx hb d_DiscMakerModel_links_15 rfl (lv_at hl 3 rfl) ?_
      refine lv_aload_n hx hb d_DiscMakerModel_links_16 rfl (lv_at hl 0 rfl) ?_
      refine va_get (D := D) (ci := 11) (v := .int sv_nodes) (C := "DiscMakerModel") (T := F_DiscMakerModel) (N := 48) hx hb ht9 in_DiscMakerModel hown hK hP 0 rfl rfl 3 (by decide) (ht9 _ k1434) (fun _ h9 => h9) rfl d_DiscMakerModel_links_17 ?_
      refine lv_icmp_ge (tgt := 56) hx hb d_DiscMakerModel_links_20 (by decide) (fun h_9 => ?_) (fun h_9 => ?_)
      · skip
        have g20_13 : sv_nodes.toInt ≤ kx.toInt := (i_le rfl rfl).mp h_9
        refine lv_iload_n hx hb d_DiscMakerModel_links_56 rfl (lv_at hl 2 rfl) ?_
        have hP9 := hP.sub (ws' := [(h0, .inr (11, MO ma sv_thrown sv_length sv_nodes sv_many sv_directories sv_runsFrom sv_runs sv_read sv_wrong sv_isNamed sv_goes sv_goesSize sv_goesAt sv_targetParts sv_isRoot)), ((ma 1), .inl (cI, 40, .inl fK)), ((ma 2), .inl (cI, 40, .inl fP))]) [0, 1, 2] rfl
        have hD9 := hD.sub (ws' := [(h0, .inr (11, MO ma sv_thrown sv_length sv_nodes sv_many sv_directories sv_runsFrom sv_runs sv_read sv_wrong sv_isNamed sv_goes sv_goesSize sv_goesAt sv_targetParts sv_isRoot)), ((ma 1), .inl (cI, 40, .inl fK)), ((ma 2), .inl (cI, 40, .inl fP))]) [0, 1, 2] (by decide +kernel) rfl
        exact W.iret (v := al) hx hb hr (fun t ht hW => ⟨⟨al, (), rfl, trivial, by rw [ht]; exact hP9, hD9⟩, hS.F ht⟩) hS.2.2 d_DiscMakerModel_links_57
      · skip
        have g20_13 : ¬ sv_nodes.toInt ≤ kx.toInt := fun h8 => h_9 ((i_le rfl rfl).mpr h8)
        refine lv_iload_n hx hb d_DiscMakerModel_links_23 rfl (lv_at hl 2 rfl) ?_
        refine lv_aload_n hx hb d_DiscMakerModel_links_24 rfl (lv_at hl 0 rfl) ?_
        refine va_get (D := D) (ci := 11) (v := .ref (ma 2)) (C := "DiscMakerModel") (T := F_DiscMakerModel) (N := 48) hx hb ht9 in_DiscMakerModel hown hK hP 0 rfl rfl 5 (by decide) (ht9 _ k1436) (fun _ h9 => h9) rfl d_DiscMakerModel_links_25 ?_
        refine lv_iload_n hx hb d_DiscMakerModel_links_28 rfl (lv_at hl 3 rfl) ?_
        refine va_iald hx hb hK hP 2 1 rfl rfl (vp_in_iff.mpr ⟨by omega, by omega⟩) d_DiscMakerModel_links_29 ?_
        refine lv_topi (fun v2 e_v2 => ?_)
        refine lv_iload_n hx hb d_DiscMakerModel_links_30 rfl (lv_at hl 1 rfl) ?_
        refine lv_icmp_ne (tgt := 47) hx hb d_DiscMakerModel_links_31 (by decide) (fun h_9 => ?_) (fun h_9 => ?_)
        · skip
          have g31_22 : ¬ v2.toInt = x.toInt := fun h8 => h_9 ((i_eq rfl rfl).mpr h8)
          refine lv_iconst (v := 0) hx hb d_DiscMakerModel_links_47 (by decide) ?_
          refine lv_iadd hx hb d_DiscMakerModel_links_48 ?_
          refine lv_topi (fun v3 e_v3 => ?_)
          have t_v3 : v3.toInt = al.toInt + 0 := by rw [e_v3]; exact i_add rfl (by decide) (by omega) (by omega)
          refine lv_istore_n hx hb d_DiscMakerModel_links_49 rfl hl (by decide) rfl (fun ls hl => ?_)
          have hl : lv_has ls 4 [(2, .int v3), (0, .ref h0), (1, .int x), (3, .int kx)] := hl
          obtain ⟨v4, e_v4⟩ : ∃ z : Int32, z = kx + 1 := ⟨_, rfl⟩
          refine lv_iinc (v := v4) hx hb d_DiscMakerModel_links_50 hl (k := 3) rfl e_v4.symm (by decide +kernel) rfl (fun ls hl => ?_)
          have t_v4 : v4.toInt = kx.toInt + 1 := by rw [e_v4]; exact i_add rfl (by decide) (by omega) (by omega)
          have hl : lv_has ls 4 [(3, .int v4), (2, .int v3), (0, .ref h0), (1, .int x)] := hl
          refine lv_goto (tgt := 15) hx hb d_DiscMakerModel_links_53 (by decide) ?_
          have hP := hP.sub (ws' := [(h0, .inr (11, MO ma sv_thrown sv_length sv_nodes sv_many sv_directories sv_runsFrom sv_runs sv_read sv_wrong sv_isNamed sv_goes sv_goesSize sv_goesAt sv_targetParts sv_isRoot)), ((ma 1), .inl (cI, 40, .inl fK)), ((ma 2), .inl (cI, 40, .inl fP))]) [0, 1, 2] rfl
          have hD := hD.sub (ws' := [(h0, .inr (11, MO ma sv_thrown sv_length sv_nodes sv_many sv_directories sv_runsFrom sv_runs sv_read sv_wrong sv_isNamed sv_goes sv_goesSize sv_goesAt sv_targetParts sv_isRoot)), ((ma 1), .inl (cI, 40, .inl fK)), ((ma 2), .inl (cI, 40, .inl fP))]) [0, 1, 2] (by decide +kernel) rfl
          have hl := lv_sub hl [2, 3, 1, 0] rfl
          exact ih15 _ (by first | omega | (dsimp only; omega)) v3 v4 _ _ _ rfl ((by (try dsimp only); first | assumption | omega | trivial)) ((by (try dsimp only); first | assumption | omega | trivial)) hP hD hS hl
        · skip
          have g31_22 : v2.toInt = x.toInt := (i_eq rfl rfl).mp h_9
          refine lv_aload_n hx hb d_DiscMakerModel_links_34 rfl (lv_at hl 0 rfl) ?_
          refine va_get (D := D) (ci := 11) (v := .ref (ma 1)) (C := "DiscMakerModel") (T := F_DiscMakerModel) (N := 48) hx hb ht9 in_DiscMakerModel hown hK hP 0 rfl rfl 4 (by decide) (ht9 _ k1435) (fun _ h9 => h9) rfl d_DiscMakerModel_links_35 ?_
          refine lv_iload_n hx hb d_DiscMakerModel_links_38 rfl (lv_at hl 3 rfl) ?_
          refine va_iald hx hb hK hP 1 1 rfl rfl (vp_in_iff.mpr ⟨by omega, by omega⟩) d_DiscMakerModel_links_39 ?_
          refine lv_topi (fun v5 e_v5 => ?_)
          refine lv_if_ne (tgt := 47) hx hb d_DiscMakerModel_links_40 (by decide) (fun h_9 => ?_) (fun h_9 => ?_)
          · skip
            have g40_33 : ¬ v5.toInt = 0 := fun h8 => h_9 ((i_eq rfl (by decide)).mpr h8)
            refine lv_iconst (v := 0) hx hb d_DiscMakerModel_links_47 (by decide) ?_
            refine lv_iadd hx hb d_DiscMakerModel_links_48 ?_
            refine lv_topi (fun v6 e_v6 => ?_)
            have t_v6 : v6.toInt = al.toInt + 0 := by rw [e_v6]; exact i_add rfl (by decide) (by omega) (by omega)
            refine lv_istore_n hx hb d_DiscMakerModel_links_49 rfl hl (by decide) rfl (fun ls hl => ?_)
            have hl : lv_has ls 4 [(2, .int v6), (0, .ref h0), (1, .int x), (3, .int kx)] := hl
            obtain ⟨v7, e_v7⟩ : ∃ z : Int32, z = kx + 1 := ⟨_, rfl⟩
            refine lv_iinc (v := v7) hx hb d_DiscMakerModel_links_50 hl (k := 3) rfl e_v7.symm (by decide +kernel) rfl (fun ls hl => ?_)
            have t_v7 : v7.toInt = kx.toInt + 1 := by rw [e_v7]; exact i_add rfl (by decide) (by omega) (by omega)
            have hl : lv_has ls 4 [(3, .int v7), (2, .int v6), (0, .ref h0), (1, .int x)] := hl
            refine lv_goto (tgt := 15) hx hb d_DiscMakerModel_links_53 (by decide) ?_
            have hP := hP.sub (ws' := [(h0, .inr (11, MO ma sv_thrown sv_length sv_nodes sv_many sv_directories sv_runsFrom sv_runs sv_read sv_wrong sv_isNamed sv_goes sv_goesSize sv_goesAt sv_targetParts sv_isRoot)), ((ma 1), .inl (cI, 40, .inl fK)), ((ma 2), .inl (cI, 40, .inl fP))]) [0, 1, 2] rfl
            have hD := hD.sub (ws' := [(h0, .inr (11, MO ma sv_thrown sv_length sv_nodes sv_many sv_directories sv_runsFrom sv_runs sv_read sv_wrong sv_isNamed sv_goes sv_goesSize sv_goesAt sv_targetParts sv_isRoot)), ((ma 1), .inl (cI, 40, .inl fK)), ((ma 2), .inl (cI, 40, .inl fP))]) [0, 1, 2] (by decide +kernel) rfl
            have hl := lv_sub hl [2, 3, 1, 0] rfl
            exact ih15 _ (by first | omega | (dsimp only; omega)) v6 v7 _ _ _ rfl ((by (try dsimp only); first | assumption | omega | trivial)) ((by (try dsimp only); first | assumption | omega | trivial)) hP hD hS hl
          · skip
            have g40_33 : v5.toInt = 0 := (i_eq rfl (by decide)).mp h_9
            refine lv_iconst (v := 1) hx hb d_DiscMakerModel_links_43 (by decide) ?_
            refine lv_goto (tgt := 48) hx hb d_DiscMakerModel_links_44 (by decide) ?_
            refine lv_iadd hx hb d_DiscMakerModel_links_48 ?_
            refine lv_topi (fun v8 e_v8 => ?_)
            have t_v8 : v8.toInt = al.toInt + 1 := by rw [e_v8]; exact i_add rfl (by decide) (by omega) (by omega)
            refine lv_istore_n hx hb d_DiscMakerModel_links_49 rfl hl (by decide) rfl (fun ls hl => ?_)
            have hl : lv_has ls 4 [(2, .int v8), (0, .ref h0), (1, .int x), (3, .int kx)] := hl
            obtain ⟨v9, e_v9⟩ : ∃ z : Int32, z = kx + 1 := ⟨_, rfl⟩
            refine lv_iinc (v := v9) hx hb d_DiscMakerModel_links_50 hl (k := 3) rfl e_v9.symm (by decide +kernel) rfl (fun ls hl => ?_)
            have t_v9 : v9.toInt = kx.toInt + 1 := by rw [e_v9]; exact i_add rfl (by decide) (by omega) (by omega)
            have hl : lv_has ls 4 [(3, .int v9), (2, .int v8), (0, .ref h0), (1, .int x)] := hl
            refine lv_goto (tgt := 15) hx hb d_DiscMakerModel_links_53 (by decide) ?_
            have hP := hP.sub (ws' := [(h0, .inr (11, MO ma sv_thrown sv_length sv_nodes sv_many sv_directories sv_runsFrom sv_runs sv_read sv_wrong sv_isNamed sv_goes sv_goesSize sv_goesAt sv_targetParts sv_isRoot)), ((ma 1), .inl (cI, 40, .inl fK)), ((ma 2), .inl (cI, 40, .inl fP))]) [0, 1, 2] rfl
            have hD := hD.sub (ws' := [(h0, .inr (11, MO ma sv_thrown sv_length sv_nodes sv_many sv_directories sv_runsFrom sv_runs sv_read sv_wrong sv_isNamed sv_goes sv_goesSize sv_goesAt sv_targetParts sv_isRoot)), ((ma 1), .inl (cI, 40, .inl fK)), ((ma 2), .inl (cI, 40, .inl fP))]) [0, 1, 2] (by decide +kernel) rfl
            have hl := lv_sub hl [2, 3, 1, 0] rfl
            exact ih15 _ (by first | omega | (dsimp only; omega)) v8 v9 _ _ _ rfl ((by (try dsimp only); first | assumption | omega | trivial)) ((by (try dsimp only); first | assumption | omega | trivial)) hP hD hS hl
    · skip
      intro kk15
      have hP := hP.sub (ws' := [(h0, .inr (11, MO ma sv_thrown sv_length sv_nodes sv_many sv_directories sv_runsFrom sv_runs sv_read sv_wrong sv_isNamed sv_goes sv_goesSize sv_goesAt sv_targetParts sv_isRoot)), ((ma 1), .inl (cI, 40, .inl fK)), ((ma 2), .inl (cI, 40, .inl fP))]) [0, 1, 2] rfl
      have hD := hD.sub (ws' := [(h0, .inr (11, MO ma sv_thrown sv_length sv_nodes sv_many sv_directories sv_runsFrom sv_runs sv_read sv_wrong sv_isNamed sv_goes sv_goesSize sv_goesAt sv_targetParts sv_isRoot)), ((ma 1), .inl (cI, 40, .inl fK)), ((ma 2), .inl (cI, 40, .inl fP))]) [0, 1, 2] (by decide +kernel) rfl
      have hl := lv_sub hl [2, 3, 1, 0] rfl
      exact kk15 _ 2 1 _ _ _ rfl ((by (try dsimp only); first | assumption | omega | trivial)) ((by (try dsimp only); first | assumption | omega | trivial)) hP hD hS hl
  · skip
    have g6_5 : ¬ v1.toInt ≤ 0 := fun h8 => h_9 ((i_le rfl (by decide)).mpr h8)
    refine lv_iconst (v := 1) hx hb d_DiscMakerModel_links_9 (by decide) ?_
    have hP9 := hP.sub (ws' := [(h0, .inr (11, MO ma sv_thrown sv_length sv_nodes sv_many sv_directories sv_runsFrom sv_runs sv_read sv_wrong sv_isNamed sv_goes sv_goesSize sv_goesAt sv_targetParts sv_isRoot)), ((ma 1), .inl (cI, 40, .inl fK)), ((ma 2), .inl (cI, 40, .inl fP))]) [0, 1, 2] rfl
    have hD9 := hD.sub (ws' := [(h0, .inr (11, MO ma sv_thrown sv_length sv_nodes sv_many sv_directories sv_runsFrom sv_runs sv_read sv_wrong sv_isNamed sv_goes sv_goesSize sv_goesAt sv_targetParts sv_isRoot)), ((ma 1), .inl (cI, 40, .inl fK)), ((ma 2), .inl (cI, 40, .inl fP))]) [0, 1, 2] (by decide +kernel) rfl
    exact W.iret (v := 1) hx hb hr (fun t ht hW => ⟨⟨1, (), rfl, trivial, by rw [ht]; exact hP9, hD9⟩, hS.F ht⟩) hS.2.2 d_DiscMakerModel_links_10

theorem d_DiscMakerModel_nodeOf_0 : decode b_DiscMakerModel_nodeOf 0 = .ok (.iload_n 1, 1) := by decide +kernel
theorem d_DiscMakerModel_nodeOf_1 : decode b_DiscMakerModel_nodeOf 1 = .ok (.ifCond .ne 7, 3) := by decide +kernel
theorem d_DiscMakerModel_nodeOf_4 : decode b_DiscMakerModel_nodeOf 4 = .ok (.iload_n 2, 1) := by decide +kernel
theorem d_DiscMakerModel_nodeOf_5 : decode b_DiscMakerModel_nodeOf 5 = .ok (.goto 26, 3) := by decide +kernel
theorem d_DiscMakerModel_nodeOf_8 : decode b_DiscMakerModel_nodeOf 8 = .ok (.iload_n 1, 1) := by decide +kernel
theorem d_DiscMakerModel_nodeOf_9 : decode b_DiscMakerModel_nodeOf 9 = .ok (.iconst 1, 1) := by decide +kernel
theorem d_DiscMakerModel_nodeOf_10 : decode b_DiscMakerModel_nodeOf 10 = .ok (.if_icmp .ne 20, 3) := by decide +kernel
theorem d_DiscMakerModel_nodeOf_13 : decode b_DiscMakerModel_nodeOf 13 = .ok (.iload_n 2, 1) := by decide +kernel
theorem d_DiscMakerModel_nodeOf_14 : decode b_DiscMakerModel_nodeOf 14 = .ok (.ifCond .ne 7, 3) := by decide +kernel
theorem d_DiscMakerModel_nodeOf_17 : decode b_DiscMakerModel_nodeOf 17 = .ok (.iconst 0, 1) := by decide +kernel
theorem d_DiscMakerModel_nodeOf_18 : decode b_DiscMakerModel_nodeOf 18 = .ok (.goto 13, 3) := by decide +kernel
theorem d_DiscMakerModel_nodeOf_21 : decode b_DiscMakerModel_nodeOf 21 = .ok (.aload_n 0, 1) := by decide +kernel
theorem d_DiscMakerModel_nodeOf_22 : decode b_DiscMakerModel_nodeOf 22 = .ok (.getfield 17, 3) := by decide +kernel
theorem d_DiscMakerModel_nodeOf_25 : decode b_DiscMakerModel_nodeOf 25 = .ok (.iload_n 2, 1) := by decide +kernel
theorem d_DiscMakerModel_nodeOf_26 : decode b_DiscMakerModel_nodeOf 26 = .ok (.iaload, 1) := by decide +kernel
theorem d_DiscMakerModel_nodeOf_27 : decode b_DiscMakerModel_nodeOf 27 = .ok (.goto 4, 3) := by decide +kernel
theorem d_DiscMakerModel_nodeOf_30 : decode b_DiscMakerModel_nodeOf 30 = .ok (.iload_n 3, 1) := by decide +kernel
theorem d_DiscMakerModel_nodeOf_31 : decode b_DiscMakerModel_nodeOf 31 = .ok (.ireturn, 1) := by decide +kernel
set_option maxHeartbeats 4000000 in
set_option maxRecDepth 100000 in
theorem m_nodeOf (l : Launch) (D : va_G) (cB cI cJ cZ cN cF : ClassId) (sz : Nat) (h0 : Nat) (ma : Nat → Nat) (sv_thrown sv_length sv_nodes sv_many sv_directories sv_runsFrom sv_runs sv_read sv_wrong sv_isNamed sv_goes sv_goesSize sv_goesAt sv_targetParts sv_isRoot : Int32) (fP : Nat → Int32) (x : Int32) (y : Int32) (z : Int32) (hn : 1 ≤ sv_nodes.toInt ∧ sv_nodes.toInt ≤ 40) (hy0 : 0 ≤ y.toInt ∧ y.toInt < sv_nodes.toInt) (hz0 : x.toInt = 0 ∨ x.toInt = 1 ∨ (0 ≤ z.toInt ∧ z.toInt < sv_nodes.toInt)) (hpp : ∀ k : Nat, 1 ≤ k → (k : Int) < sv_nodes.toInt → 0 ≤ (fP k).toInt ∧ (fP k).toInt < k) : Met l y_DiscMakerModel_nodeOf w_DiscMakerModel_nodeOf ({ frames := 0, cells := 0, slots := 0, locals := 0 }) (va_Pc [.ref h0, .int x, .int y, .int z] (fun U => U.heap.size = sz ∧ va_P D CL [(h0, .inr (11, MO ma sv_thrown sv_length sv_nodes sv_many sv_directories sv_runsFrom sv_runs sv_read sv_wrong sv_isNamed sv_goes sv_goesSize sv_goesAt sv_targetParts sv_isRoot)), ((ma 2), .inl (cI, 40, .inl fP))] U.heap ∧ va_K D CL (TY cB cI cJ cZ cN cF) U ∧ NN U ∧ va_D (fun _ => True) [(h0, .inr (11, MO ma sv_thrown sv_length sv_nodes sv_many sv_directories sv_runsFrom sv_runs sv_read sv_wrong sv_isNamed sv_goes sv_goesSize sv_goesAt sv_targetParts sv_isRoot)), ((ma 2), .inl (cI, 40, .inl fP))])) (va_Qi (fun (r : Int32) (u : Unit) => (0 ≤ r.toInt ∧ r.toInt < sv_nodes.toInt) ∧ ((x.toInt = 0 ∧ r = y) ∨ (x.toInt = 1 ∧ y.toInt = 0 ∧ r.toInt = 0) ∨ (x.toInt = 1 ∧ y.toInt ≠ 0 ∧ r = fP y.toNatClampNeg) ∨ (x.toInt ≠ 0 ∧ x.toInt ≠ 1 ∧ r = z))) (fun (u : Unit) (t : State) => match u with | () => va_P D CL [(h0, .inr (11, MO ma sv_thrown sv_length sv_nodes sv_many sv_directories sv_runsFrom sv_runs sv_read sv_wrong sv_isNamed sv_goes sv_goesSize sv_goesAt sv_targetParts sv_isRoot)), ((ma 2), .inl (cI, 40, .inl fP))] t.heap ∧ va_D (va_A [(h0, .inr (11, MO ma sv_thrown sv_length sv_nodes sv_many sv_directories sv_runsFrom sv_runs sv_read sv_wrong sv_isNamed sv_goes sv_goesSize sv_goesAt sv_targetParts sv_isRoot)), ((ma 2), .inl (cI, 40, .inl fP))] sz) [(h0, .inr (11, MO ma sv_thrown sv_length sv_nodes sv_many sv_directories sv_runsFrom sv_runs sv_read sv_wrong sv_isNamed sv_goes sv_goesSize sv_goesAt sv_targetParts sv_isRoot)), ((ma 2), .inl (cI, 40, .inl fP))]) (va_A [(h0, .inr (11, MO ma sv_thrown sv_length sv_nodes sv_many sv_directories sv_runsFrom sv_runs sv_read sv_wrong sv_isNamed sv_goes sv_goesSize sv_goesAt sv_targetParts sv_isRoot)), ((ma 2), .inl (cI, 40, .inl fP))] sz)) 0 0 (va_A [(h0, .inr (11, MO ma sv_thrown sv_length sv_nodes sv_many sv_directories sv_runsFrom sv_runs sv_read sv_wrong sv_isNamed sv_goes sv_goesSize sv_goesAt sv_targetParts sv_isRoot)), ((ma 2), .inl (cI, 40, .inl fP))] sz) := by
  refine Met.ofW (cc := b_DiscMakerModel_nodeOf) (maxL := 4) (ret := some .int) (by decide) rfl ?_
  intro p e s m args below meth c s₁ B hml hv
  obtain ⟨rfl, hsz, hP, hK, hN, hD0⟩ := hv
  have hx := B.exec
  have hb := B.bytes
  have hr := B.returns
  have hts := atoms_spec (ws := w_DiscMakerModel_nodeOf) B.pre
  have ht9 := fun (w : Cond) (h : w ∈ lw_g) => hts w (List.mem_cons_of_mem _ h)
  have hown : s.vm.findClass "DiscMakerModel" = some m.cls := findClass_of_methodNamed B.named
  have hlocks := B.notSynchronized
  subst hsz
  have hD := hD0.self (sz := s.heap.size)
  generalize hAe : va_A [(h0, .inr (11, MO ma sv_thrown sv_length sv_nodes sv_many sv_directories sv_runsFrom sv_runs sv_read sv_wrong sv_isNamed sv_goes sv_goesSize sv_goesAt sv_targetParts sv_isRoot)), ((ma 2), .inl (cI, 40, .inl fP))] s.heap.size = A at hD ⊢
  have hA : ∀ q : Nat, s.heap.size ≤ q → A q := fun q h => by rw [← hAe]; exact Or.inr h
  have hS : va_S A s.heap s.heap [] := va_S.rf
  have hP : va_P D CL [(h0, .inr (11, MO ma sv_thrown sv_length sv_nodes sv_many sv_directories sv_runsFrom sv_runs sv_read sv_wrong sv_isNamed sv_goes sv_goesSize sv_goesAt sv_targetParts sv_isRoot)), ((ma 2), .inl (cI, 40, .inl fP))] s.heap := hP
  have hl := lv_entry [.ref h0, .int x, .int y, .int z] (n := 4) (Nat.le_of_ble_eq_true rfl)
  rw [lg_entry_eq]
  generalize (lg_sl [.ref h0, .int x, .int y, .int z] ++ List.replicate (4 - (lg_sl [.ref h0, .int x, .int y, .int z]).length) Slot.unset).toArray = ls at hl ⊢
  have hl : lv_has ls 4 [(0, .ref h0), (1, .int x), (2, .int y), (3, .int z)] := hl
  have L_m1 : ((-1) : Int32).toInt = (-1) := by decide
  have L_0 : (0 : Int32).toInt = 0 := by decide
  have L_1 : (1 : Int32).toInt = 1 := by decide
  refine lv_iload_n hx hb d_DiscMakerModel_nodeOf_0 rfl (lv_at hl 1 rfl) ?_
  refine lv_if_ne (tgt := 8) hx hb d_DiscMakerModel_nodeOf_1 (by decide) (fun h_9 => ?_) (fun h_9 => ?_)
  · skip
    have g1_2 : ¬ x.toInt = 0 := fun h8 => h_9 ((i_eq rfl (by decide)).mpr h8)
    refine lv_iload_n hx hb d_DiscMakerModel_nodeOf_8 rfl (lv_at hl 1 rfl) ?_
    refine lv_iconst (v := 1) hx hb d_DiscMakerModel_nodeOf_9 (by decide) ?_
    refine lv_icmp_ne (tgt := 30) hx hb d_DiscMakerModel_nodeOf_10 (by decide) (fun h_9 => ?_) (fun h_9 => ?_)
    · skip
      have g10_5 : ¬ x.toInt = 1 := fun h8 => h_9 ((i_eq rfl (by decide)).mpr h8)
      refine lv_iload_n hx hb d_DiscMakerModel_nodeOf_30 rfl (lv_at hl 3 rfl) ?_
      have hP9 := hP.sub (ws' := [(h0, .inr (11, MO ma sv_thrown sv_length sv_nodes sv_many sv_directories sv_runsFrom sv_runs sv_read sv_wrong sv_isNamed sv_goes sv_goesSize sv_goesAt sv_targetParts sv_isRoot)), ((ma 2), .inl (cI, 40, .inl fP))]) [0, 1] rfl
      have hD9 := hD.sub (ws' := [(h0, .inr (11, MO ma sv_thrown sv_length sv_nodes sv_many sv_directories sv_runsFrom sv_runs sv_read sv_wrong sv_isNamed sv_goes sv_goesSize sv_goesAt sv_targetParts sv_isRoot)), ((ma 2), .inl (cI, 40, .inl fP))]) [0, 1] (by decide +kernel) rfl
      exact W.iret (v := z) hx hb hr (fun t ht hW => ⟨⟨z, (), rfl, ⟨(by (try dsimp only); first | assumption | omega | trivial), (by (try dsimp only); first | exact Or.inl ⟨by omega, rfl⟩ | exact Or.inr (Or.inl ⟨by omega, by omega, by omega⟩) | exact Or.inr (Or.inr (Or.inr ⟨by omega, by omega, rfl⟩)))⟩, by rw [ht]; exact hP9, hD9⟩, hS.F ht⟩) hS.2.2 d_DiscMakerModel_nodeOf_31
    · skip
      have g10_5 : x.toInt = 1 := (i_eq rfl (by decide)).mp h_9
      refine lv_iload_n hx hb d_DiscMakerModel_nodeOf_13 rfl (lv_at hl 2 rfl) ?_
      refine lv_if_ne (tgt := 21) hx hb d_DiscMakerModel_nodeOf_14 (by decide) (fun h_9 => ?_) (fun h_9 => ?_)
      · skip
        have g14_9 : ¬ y.toInt = 0 := fun h8 => h_9 ((i_eq rfl (by decide)).mpr h8)
        refine lv_aload_n hx hb d_DiscMakerModel_nodeOf_21 rfl (lv_at hl 0 rfl) ?_
        refine va_get (D := D) (ci := 11) (v := .ref (ma 2)) (C := "DiscMakerModel") (T := F_DiscMakerModel) (N := 48) hx hb ht9 in_DiscMakerModel hown hK hP 0 rfl rfl 5 (by decide) (ht9 _ k1436) (fun _ h9 => h9) rfl d_DiscMakerModel_nodeOf_22 ?_
        refine lv_iload_n hx hb d_DiscMakerModel_nodeOf_25 rfl (lv_at hl 2 rfl) ?_
        refine va_iald hx hb hK hP 1 1 rfl rfl (vp_in_iff.mpr ⟨by omega, by omega⟩) d_DiscMakerModel_nodeOf_26 ?_
        refine lv_topi (fun v1 e_v1 => ?_)
        have qy := i_cl (a := y) (by omega)
        have qv1 := hpp y.toNatClampNeg (by omega) (by omega)
        rw [← e_v1] at qv1
        refine lv_goto (tgt := 31) hx hb d_DiscMakerModel_nodeOf_27 (by decide) ?_
        have hP9 := hP.sub (ws' := [(h0, .inr (11, MO ma sv_thrown sv_length sv_nodes sv_many sv_directories sv_runsFrom sv_runs sv_read sv_wrong sv_isNamed sv_goes sv_goesSize sv_goesAt sv_targetParts sv_isRoot)), ((ma 2), .inl (cI, 40, .inl fP))]) [0, 1] rfl
        have hD9 := hD.sub (ws' := [(h0, .inr (11, MO ma sv_thrown sv_length sv_nodes sv_many sv_directories sv_runsFrom sv_runs sv_read sv_wrong sv_isNamed sv_goes sv_goesSize sv_goesAt sv_targetParts sv_isRoot)), ((ma 2), .inl (cI, 40, .inl fP))]) [0, 1] (by decide +kernel) rfl
        exact W.iret (v := v1) hx hb hr (fun t ht hW => ⟨⟨v1, (), rfl, ⟨(by (try dsimp only); first | assumption | omega | trivial), (by (try dsimp only); first | exact Or.inl ⟨by omega, rfl⟩ | exact Or.inr (Or.inl ⟨by omega, by omega, by omega⟩) | exact Or.inr (Or.inr (Or.inr ⟨by omega, by omega, rfl⟩)) | exact Or.inr (Or.inr (Or.inl ⟨by omega, by omega, e_v1⟩)))⟩, by rw [ht]; exact hP9, hD9⟩, hS.F ht⟩) hS.2.2 d_DiscMakerModel_nodeOf_31
      · skip
        have g14_9 : y.toInt = 0 := (i_eq rfl (by decide)).mp h_9
        refine lv_iconst (v := 0) hx hb d_DiscMakerModel_nodeOf_17 (by decide) ?_
        refine lv_goto (tgt := 31) hx hb d_DiscMakerModel_nodeOf_18 (by decide) ?_
        have hP9 := hP.sub (ws' := [(h0, .inr (11, MO ma sv_thrown sv_length sv_nodes sv_many sv_directories sv_runsFrom sv_runs sv_read sv_wrong sv_isNamed sv_goes sv_goesSize sv_goesAt sv_targetParts sv_isRoot)), ((ma 2), .inl (cI, 40, .inl fP))]) [0, 1] rfl
        have hD9 := hD.sub (ws' := [(h0, .inr (11, MO ma sv_thrown sv_length sv_nodes sv_many sv_directories sv_runsFrom sv_runs sv_read sv_wrong sv_isNamed sv_goes sv_goesSize sv_goesAt sv_targetParts sv_isRoot)), ((ma 2), .inl (cI, 40, .inl fP))]) [0, 1] (by decide +kernel) rfl
        exact W.iret (v := 0) hx hb hr (fun t ht hW => ⟨⟨0, (), rfl, ⟨(by (try dsimp only); first | assumption | omega | trivial), (by (try dsimp only); first | exact Or.inl ⟨by omega, rfl⟩ | exact Or.inr (Or.inl ⟨by omega, by omega, by omega⟩) | exact Or.inr (Or.inr (Or.inr ⟨by omega, by omega, rfl⟩)))⟩, by rw [ht]; exact hP9, hD9⟩, hS.F ht⟩) hS.2.2 d_DiscMakerModel_nodeOf_31
  · skip
    have g1_2 : x.toInt = 0 := (i_eq rfl (by decide)).mp h_9
    refine lv_iload_n hx hb d_DiscMakerModel_nodeOf_4 rfl (lv_at hl 2 rfl) ?_
    refine lv_goto (tgt := 31) hx hb d_DiscMakerModel_nodeOf_5 (by decide) ?_
    have hP9 := hP.sub (ws' := [(h0, .inr (11, MO ma sv_thrown sv_length sv_nodes sv_many sv_directories sv_runsFrom sv_runs sv_read sv_wrong sv_isNamed sv_goes sv_goesSize sv_goesAt sv_targetParts sv_isRoot)), ((ma 2), .inl (cI, 40, .inl fP))]) [0, 1] rfl
    have hD9 := hD.sub (ws' := [(h0, .inr (11, MO ma sv_thrown sv_length sv_nodes sv_many sv_directories sv_runsFrom sv_runs sv_read sv_wrong sv_isNamed sv_goes sv_goesSize sv_goesAt sv_targetParts sv_isRoot)), ((ma 2), .inl (cI, 40, .inl fP))]) [0, 1] (by decide +kernel) rfl
    exact W.iret (v := y) hx hb hr (fun t ht hW => ⟨⟨y, (), rfl, ⟨(by (try dsimp only); first | assumption | omega | trivial), (by (try dsimp only); first | exact Or.inl ⟨by omega, rfl⟩ | exact Or.inr (Or.inl ⟨by omega, by omega, by omega⟩) | exact Or.inr (Or.inr (Or.inr ⟨by omega, by omega, rfl⟩)))⟩, by rw [ht]; exact hP9, hD9⟩, hS.F ht⟩) hS.2.2 d_DiscMakerModel_nodeOf_31

theorem d_DiscMakerModel_components_0 : decode b_DiscMakerModel_components 0 = .ok (.aload_n 0, 1) := by decide +kernel
theorem d_DiscMakerModel_components_1 : decode b_DiscMakerModel_components 1 = .ok (.getfield 44, 3) := by decide +kernel
theorem d_DiscMakerModel_components_4 : decode b_DiscMakerModel_components 4 = .ok (.iload_n 1, 1) := by decide +kernel
theorem d_DiscMakerModel_components_5 : decode b_DiscMakerModel_components 5 = .ok (.iaload, 1) := by decide +kernel
theorem d_DiscMakerModel_components_6 : decode b_DiscMakerModel_components 6 = .ok (.istore_n 3, 1) := by decide +kernel
theorem d_DiscMakerModel_components_7 : decode b_DiscMakerModel_components 7 = .ok (.iconst 0, 1) := by decide +kernel
theorem d_DiscMakerModel_components_8 : decode b_DiscMakerModel_components 8 = .ok (.istore 4, 2) := by decide +kernel
theorem d_DiscMakerModel_components_10 : decode b_DiscMakerModel_components 10 = .ok (.aload_n 0, 1) := by decide +kernel
theorem d_DiscMakerModel_components_11 : decode b_DiscMakerModel_components 11 = .ok (.getfield 41, 3) := by decide +kernel
theorem d_DiscMakerModel_components_14 : decode b_DiscMakerModel_components 14 = .ok (.sipush 200, 3) := by decide +kernel
theorem d_DiscMakerModel_components_17 : decode b_DiscMakerModel_components 17 = .ok (.iload_n 1, 1) := by decide +kernel
theorem d_DiscMakerModel_components_18 : decode b_DiscMakerModel_components 18 = .ok (.imul, 1) := by decide +kernel
theorem d_DiscMakerModel_components_19 : decode b_DiscMakerModel_components 19 = .ok (.baload, 1) := by decide +kernel
theorem d_DiscMakerModel_components_20 : decode b_DiscMakerModel_components 20 = .ok (.bipush 47, 2) := by decide +kernel
theorem d_DiscMakerModel_components_22 : decode b_DiscMakerModel_components 22 = .ok (.if_icmp .ne 16, 3) := by decide +kernel
theorem d_DiscMakerModel_components_25 : decode b_DiscMakerModel_components 25 = .ok (.aload_n 0, 1) := by decide +kernel
theorem d_DiscMakerModel_components_26 : decode b_DiscMakerModel_components 26 = .ok (.iload_n 2, 1) := by decide +kernel
theorem d_DiscMakerModel_components_27 : decode b_DiscMakerModel_components 27 = .ok (.iload 4, 2) := by decide +kernel
theorem d_DiscMakerModel_components_29 : decode b_DiscMakerModel_components 29 = .ok (.bipush 8, 2) := by decide +kernel
theorem d_DiscMakerModel_components_31 : decode b_DiscMakerModel_components 31 = .ok (.iconst 0, 1) := by decide +kernel
theorem d_DiscMakerModel_components_32 : decode b_DiscMakerModel_components 32 = .ok (.invokevirtual 206, 3) := by decide +kernel
theorem d_DiscMakerModel_components_35 : decode b_DiscMakerModel_components 35 = .ok (.iinc 4 2, 3) := by decide +kernel
theorem d_DiscMakerModel_components_38 : decode b_DiscMakerModel_components 38 = .ok (.iconst 0, 1) := by decide +kernel
theorem d_DiscMakerModel_components_39 : decode b_DiscMakerModel_components 39 = .ok (.istore 5, 2) := by decide +kernel
theorem d_DiscMakerModel_components_41 : decode b_DiscMakerModel_components 41 = .ok (.iload 5, 2) := by decide +kernel
theorem d_DiscMakerModel_components_43 : decode b_DiscMakerModel_components 43 = .ok (.iload_n 3, 1) := by decide +kernel
theorem d_DiscMakerModel_components_44 : decode b_DiscMakerModel_components 44 = .ok (.if_icmp .ge 223, 3) := by decide +kernel
theorem d_DiscMakerModel_components_47 : decode b_DiscMakerModel_components 47 = .ok (.iload 5, 2) := by decide +kernel
theorem d_DiscMakerModel_components_49 : decode b_DiscMakerModel_components 49 = .ok (.istore 6, 2) := by decide +kernel
theorem d_DiscMakerModel_components_51 : decode b_DiscMakerModel_components 51 = .ok (.iload 6, 2) := by decide +kernel
theorem d_DiscMakerModel_components_53 : decode b_DiscMakerModel_components 53 = .ok (.iload_n 3, 1) := by decide +kernel
theorem d_DiscMakerModel_components_54 : decode b_DiscMakerModel_components 54 = .ok (.if_icmp .ge 27, 3) := by decide +kernel
theorem d_DiscMakerModel_components_57 : decode b_DiscMakerModel_components 57 = .ok (.aload_n 0, 1) := by decide +kernel
theorem d_DiscMakerModel_components_58 : decode b_DiscMakerModel_components 58 = .ok (.getfield 41, 3) := by decide +kernel
theorem d_DiscMakerModel_components_61 : decode b_DiscMakerModel_components 61 = .ok (.sipush 200, 3) := by decide +kernel
theorem d_DiscMakerModel_components_64 : decode b_DiscMakerModel_components 64 = .ok (.iload_n 1, 1) := by decide +kernel
theorem d_DiscMakerModel_components_65 : decode b_DiscMakerModel_components 65 = .ok (.imul, 1) := by decide +kernel
theorem d_DiscMakerModel_components_66 : decode b_DiscMakerModel_components 66 = .ok (.iload 6, 2) := by decide +kernel
theorem d_DiscMakerModel_components_68 : decode b_DiscMakerModel_components 68 = .ok (.iadd, 1) := by decide +kernel
theorem d_DiscMakerModel_components_69 : decode b_DiscMakerModel_components 69 = .ok (.baload, 1) := by decide +kernel
theorem d_DiscMakerModel_components_70 : decode b_DiscMakerModel_components 70 = .ok (.bipush 47, 2) := by decide +kernel
theorem d_DiscMakerModel_components_72 : decode b_DiscMakerModel_components 72 = .ok (.if_icmp .eq 9, 3) := by decide +kernel
theorem d_DiscMakerModel_components_75 : decode b_DiscMakerModel_components 75 = .ok (.iinc 6 1, 3) := by decide +kernel
theorem d_DiscMakerModel_components_78 : decode b_DiscMakerModel_components 78 = .ok (.goto (-27), 3) := by decide +kernel
theorem d_DiscMakerModel_components_81 : decode b_DiscMakerModel_components 81 = .ok (.iload 6, 2) := by decide +kernel
theorem d_DiscMakerModel_components_83 : decode b_DiscMakerModel_components 83 = .ok (.iload 5, 2) := by decide +kernel
theorem d_DiscMakerModel_components_85 : decode b_DiscMakerModel_components 85 = .ok (.isub, 1) := by decide +kernel
theorem d_DiscMakerModel_components_86 : decode b_DiscMakerModel_components 86 = .ok (.iconst 1, 1) := by decide +kernel
theorem d_DiscMakerModel_components_87 : decode b_DiscMakerModel_components 87 = .ok (.if_icmp .ne 25, 3) := by decide +kernel
theorem d_DiscMakerModel_components_90 : decode b_DiscMakerModel_components 90 = .ok (.aload_n 0, 1) := by decide +kernel
theorem d_DiscMakerModel_components_91 : decode b_DiscMakerModel_components 91 = .ok (.getfield 41, 3) := by decide +kernel
theorem d_DiscMakerModel_components_94 : decode b_DiscMakerModel_components 94 = .ok (.sipush 200, 3) := by decide +kernel
theorem d_DiscMakerModel_components_97 : decode b_DiscMakerModel_components 97 = .ok (.iload_n 1, 1) := by decide +kernel
theorem d_DiscMakerModel_components_98 : decode b_DiscMakerModel_components 98 = .ok (.imul, 1) := by decide +kernel
theorem d_DiscMakerModel_components_99 : decode b_DiscMakerModel_components 99 = .ok (.iload 5, 2) := by decide +kernel
theorem d_DiscMakerModel_components_101 : decode b_DiscMakerModel_components 101 = .ok (.iadd, 1) := by decide +kernel
theorem d_DiscMakerModel_components_102 : decode b_DiscMakerModel_components 102 = .ok (.baload, 1) := by decide +kernel
theorem d_DiscMakerModel_components_103 : decode b_DiscMakerModel_components 103 = .ok (.bipush 46, 2) := by decide +kernel
theorem d_DiscMakerModel_components_105 : decode b_DiscMakerModel_components 105 = .ok (.if_icmp .ne 7, 3) := by decide +kernel
theorem d_DiscMakerModel_components_108 : decode b_DiscMakerModel_components 108 = .ok (.iconst 2, 1) := by decide +kernel
theorem d_DiscMakerModel_components_109 : decode b_DiscMakerModel_components 109 = .ok (.goto 55, 3) := by decide +kernel
theorem d_DiscMakerModel_components_112 : decode b_DiscMakerModel_components 112 = .ok (.iload 6, 2) := by decide +kernel
theorem d_DiscMakerModel_components_114 : decode b_DiscMakerModel_components 114 = .ok (.iload 5, 2) := by decide +kernel
theorem d_DiscMakerModel_components_116 : decode b_DiscMakerModel_components 116 = .ok (.isub, 1) := by decide +kernel
theorem d_DiscMakerModel_components_117 : decode b_DiscMakerModel_components 117 = .ok (.iconst 2, 1) := by decide +kernel
theorem d_DiscMakerModel_components_118 : decode b_DiscMakerModel_components 118 = .ok (.if_icmp .ne 45, 3) := by decide +kernel
theorem d_DiscMakerModel_components_121 : decode b_DiscMakerModel_components 121 = .ok (.aload_n 0, 1) := by decide +kernel
theorem d_DiscMakerModel_components_122 : decode b_DiscMakerModel_components 122 = .ok (.getfield 41, 3) := by decide +kernel
theorem d_DiscMakerModel_components_125 : decode b_DiscMakerModel_components 125 = .ok (.sipush 200, 3) := by decide +kernel
theorem d_DiscMakerModel_components_128 : decode b_DiscMakerModel_components 128 = .ok (.iload_n 1, 1) := by decide +kernel
theorem d_DiscMakerModel_components_129 : decode b_DiscMakerModel_components 129 = .ok (.imul, 1) := by decide +kernel
theorem d_DiscMakerModel_components_130 : decode b_DiscMakerModel_components 130 = .ok (.iload 5, 2) := by decide +kernel
theorem d_DiscMakerModel_components_132 : decode b_DiscMakerModel_components 132 = .ok (.iadd, 1) := by decide +kernel
theorem d_DiscMakerModel_components_133 : decode b_DiscMakerModel_components 133 = .ok (.baload, 1) := by decide +kernel
theorem d_DiscMakerModel_components_134 : decode b_DiscMakerModel_components 134 = .ok (.bipush 46, 2) := by decide +kernel
theorem d_DiscMakerModel_components_136 : decode b_DiscMakerModel_components 136 = .ok (.if_icmp .ne 27, 3) := by decide +kernel
theorem d_DiscMakerModel_components_139 : decode b_DiscMakerModel_components 139 = .ok (.aload_n 0, 1) := by decide +kernel
theorem d_DiscMakerModel_components_140 : decode b_DiscMakerModel_components 140 = .ok (.getfield 41, 3) := by decide +kernel
theorem d_DiscMakerModel_components_143 : decode b_DiscMakerModel_components 143 = .ok (.sipush 200, 3) := by decide +kernel
theorem d_DiscMakerModel_components_146 : decode b_DiscMakerModel_components 146 = .ok (.iload_n 1, 1) := by decide +kernel
theorem d_DiscMakerModel_components_147 : decode b_DiscMakerModel_components 147 = .ok (.imul, 1) := by decide +kernel
theorem d_DiscMakerModel_components_148 : decode b_DiscMakerModel_components 148 = .ok (.iload 5, 2) := by decide +kernel
theorem d_DiscMakerModel_components_150 : decode b_DiscMakerModel_components 150 = .ok (.iadd, 1) := by decide +kernel
theorem d_DiscMakerModel_components_151 : decode b_DiscMakerModel_components 151 = .ok (.iconst 1, 1) := by decide +kernel
theorem d_DiscMakerModel_components_152 : decode b_DiscMakerModel_components 152 = .ok (.iadd, 1) := by decide +kernel
theorem d_DiscMakerModel_components_153 : decode b_DiscMakerModel_components 153 = .ok (.baload, 1) := by decide +kernel
theorem d_DiscMakerModel_components_154 : decode b_DiscMakerModel_components 154 = .ok (.bipush 46, 2) := by decide +kernel
theorem d_DiscMakerModel_components_156 : decode b_DiscMakerModel_components 156 = .ok (.if_icmp .ne 7, 3) := by decide +kernel
theorem d_DiscMakerModel_components_159 : decode b_DiscMakerModel_components 159 = .ok (.iconst 4, 1) := by decide +kernel
theorem d_DiscMakerModel_components_160 : decode b_DiscMakerModel_components 160 = .ok (.goto 4, 3) := by decide +kernel
theorem d_DiscMakerModel_components_163 : decode b_DiscMakerModel_components 163 = .ok (.iconst 0, 1) := by decide +kernel
theorem d_DiscMakerModel_components_164 : decode b_DiscMakerModel_components 164 = .ok (.istore 7, 2) := by decide +kernel
theorem d_DiscMakerModel_components_166 : decode b_DiscMakerModel_components 166 = .ok (.iload 7, 2) := by decide +kernel
theorem d_DiscMakerModel_components_168 : decode b_DiscMakerModel_components 168 = .ok (.ifCond .ne 11, 3) := by decide +kernel
theorem d_DiscMakerModel_components_171 : decode b_DiscMakerModel_components 171 = .ok (.iload 6, 2) := by decide +kernel
theorem d_DiscMakerModel_components_173 : decode b_DiscMakerModel_components 173 = .ok (.iload 5, 2) := by decide +kernel
theorem d_DiscMakerModel_components_175 : decode b_DiscMakerModel_components 175 = .ok (.isub, 1) := by decide +kernel
theorem d_DiscMakerModel_components_176 : decode b_DiscMakerModel_components 176 = .ok (.goto 4, 3) := by decide +kernel
theorem d_DiscMakerModel_components_179 : decode b_DiscMakerModel_components 179 = .ok (.iconst 0, 1) := by decide +kernel
theorem d_DiscMakerModel_components_180 : decode b_DiscMakerModel_components 180 = .ok (.istore 8, 2) := by decide +kernel
theorem d_DiscMakerModel_components_182 : decode b_DiscMakerModel_components 182 = .ok (.iload 6, 2) := by decide +kernel
theorem d_DiscMakerModel_components_184 : decode b_DiscMakerModel_components 184 = .ok (.iload 5, 2) := by decide +kernel
theorem d_DiscMakerModel_components_186 : decode b_DiscMakerModel_components 186 = .ok (.if_icmp .le 72, 3) := by decide +kernel
theorem d_DiscMakerModel_components_189 : decode b_DiscMakerModel_components 189 = .ok (.aload_n 0, 1) := by decide +kernel
theorem d_DiscMakerModel_components_190 : decode b_DiscMakerModel_components 190 = .ok (.iload_n 2, 1) := by decide +kernel
theorem d_DiscMakerModel_components_191 : decode b_DiscMakerModel_components 191 = .ok (.iload 4, 2) := by decide +kernel
theorem d_DiscMakerModel_components_193 : decode b_DiscMakerModel_components 193 = .ok (.iload 7, 2) := by decide +kernel
theorem d_DiscMakerModel_components_195 : decode b_DiscMakerModel_components 195 = .ok (.iload 8, 2) := by decide +kernel
theorem d_DiscMakerModel_components_197 : decode b_DiscMakerModel_components 197 = .ok (.invokevirtual 206, 3) := by decide +kernel
theorem d_DiscMakerModel_components_200 : decode b_DiscMakerModel_components 200 = .ok (.iconst 0, 1) := by decide +kernel
theorem d_DiscMakerModel_components_201 : decode b_DiscMakerModel_components 201 = .ok (.istore 9, 2) := by decide +kernel
theorem d_DiscMakerModel_components_203 : decode b_DiscMakerModel_components 203 = .ok (.iload 9, 2) := by decide +kernel
theorem d_DiscMakerModel_components_205 : decode b_DiscMakerModel_components 205 = .ok (.iload 8, 2) := by decide +kernel
theorem d_DiscMakerModel_components_207 : decode b_DiscMakerModel_components 207 = .ok (.if_icmp .ge 42, 3) := by decide +kernel
theorem d_DiscMakerModel_components_210 : decode b_DiscMakerModel_components 210 = .ok (.iload_n 2, 1) := by decide +kernel
theorem d_DiscMakerModel_components_211 : decode b_DiscMakerModel_components 211 = .ok (.ifCond .lt 38, 3) := by decide +kernel
theorem d_DiscMakerModel_components_249 : decode b_DiscMakerModel_components 249 = .ok (.iload 4, 2) := by decide +kernel
theorem d_DiscMakerModel_components_251 : decode b_DiscMakerModel_components 251 = .ok (.iconst 2, 1) := by decide +kernel
theorem d_DiscMakerModel_components_252 : decode b_DiscMakerModel_components 252 = .ok (.iload 8, 2) := by decide +kernel
theorem d_DiscMakerModel_components_254 : decode b_DiscMakerModel_components 254 = .ok (.iadd, 1) := by decide +kernel
theorem d_DiscMakerModel_components_255 : decode b_DiscMakerModel_components 255 = .ok (.iadd, 1) := by decide +kernel
theorem d_DiscMakerModel_components_256 : decode b_DiscMakerModel_components 256 = .ok (.istore 4, 2) := by decide +kernel
theorem d_DiscMakerModel_components_258 : decode b_DiscMakerModel_components 258 = .ok (.iload 6, 2) := by decide +kernel
theorem d_DiscMakerModel_components_260 : decode b_DiscMakerModel_components 260 = .ok (.iconst 1, 1) := by decide +kernel
theorem d_DiscMakerModel_components_261 : decode b_DiscMakerModel_components 261 = .ok (.iadd, 1) := by decide +kernel
theorem d_DiscMakerModel_components_262 : decode b_DiscMakerModel_components 262 = .ok (.istore 5, 2) := by decide +kernel
theorem d_DiscMakerModel_components_264 : decode b_DiscMakerModel_components 264 = .ok (.goto (-223), 3) := by decide +kernel
theorem d_DiscMakerModel_components_267 : decode b_DiscMakerModel_components 267 = .ok (.iload 4, 2) := by decide +kernel
theorem d_DiscMakerModel_components_269 : decode b_DiscMakerModel_components 269 = .ok (.ireturn, 1) := by decide +kernel
set_option maxHeartbeats 4000000 in
set_option maxRecDepth 100000 in
theorem m_components0 (l : Launch) (D : va_G) (cB cI cJ cZ cN cF : ClassId) (sz : Nat) (h0 : Nat) (ma : Nat → Nat) (sv_thrown sv_length sv_nodes sv_many sv_directories sv_runsFrom sv_runs sv_read sv_wrong sv_isNamed sv_goes sv_goesSize sv_goesAt sv_targetParts sv_isRoot : Int32) (F : Nat → Int64) (fT : Nat → Int32) (fTS : Nat → Int32) (x : Int32) (hx0 : 0 ≤ x.toInt ∧ x.toInt < 40) (hTS : Rg 0 200 40 fTS) : Met l y_DiscMakerModel_components w_DiscMakerModel_components ({ frames := 1, cells := 0, slots := 0, locals := 24 }) (va_Pc [.ref h0, .int x, .int (-1)] (fun U => U.heap.size = sz ∧ va_P D CL [(h0, .inr (11, MO ma sv_thrown sv_length sv_nodes sv_many sv_directories sv_runsFrom sv_runs sv_read sv_wrong sv_isNamed sv_goes sv_goesSize sv_goesAt sv_targetParts sv_isRoot)), ((ma 16), .inl (cJ, 46080, .inr (.inl F))), ((ma 10), .inl (cB, 8000, .inl fT)), ((ma 11), .inl (cI, 40, .inl fTS))] U.heap ∧ va_K D CL (TY cB cI cJ cZ cN cF) U ∧ NN U ∧ va_D (fun _ => True) [(h0, .inr (11, MO ma sv_thrown sv_length sv_nodes sv_many sv_directories sv_runsFrom sv_runs sv_read sv_wrong sv_isNamed sv_goes sv_goesSize sv_goesAt sv_targetParts sv_isRoot)), ((ma 16), .inl (cJ, 46080, .inr (.inl F))), ((ma 10), .inl (cB, 8000, .inl fT)), ((ma 11), .inl (cI, 40, .inl fTS))])) (va_Qi (fun (r : Int32) (u : Unit) => (r.toInt = cmF (tgF fT x.toNatClampNeg) (fTS x.toNatClampNeg).toInt.toNat) ∧ (0 ≤ r.toInt ∧ r.toInt ≤ 303)) (fun (u : Unit) (t : State) => match u with | () => va_P D CL [(h0, .inr (11, MO ma sv_thrown sv_length sv_nodes sv_many sv_directories sv_runsFrom sv_runs sv_read sv_wrong sv_isNamed sv_goes sv_goesSize sv_goesAt sv_targetParts sv_isRoot)), ((ma 16), .inl (cJ, 46080, .inr (.inl F))), ((ma 10), .inl (cB, 8000, .inl fT)), ((ma 11), .inl (cI, 40, .inl fTS))] t.heap ∧ va_D (va_A [(h0, .inr (11, MO ma sv_thrown sv_length sv_nodes sv_many sv_directories sv_runsFrom sv_runs sv_read sv_wrong sv_isNamed sv_goes sv_goesSize sv_goesAt sv_targetParts sv_isRoot)), ((ma 16), .inl (cJ, 46080, .inr (.inl F))), ((ma 10), .inl (cB, 8000, .inl fT)), ((ma 11), .inl (cI, 40, .inl fTS))] sz) [(h0, .inr (11, MO ma sv_thrown sv_length sv_nodes sv_many sv_directories sv_runsFrom sv_runs sv_read sv_wrong sv_isNamed sv_goes sv_goesSize sv_goesAt sv_targetParts sv_isRoot)), ((ma 16), .inl (cJ, 46080, .inr (.inl F))), ((ma 10), .inl (cB, 8000, .inl fT)), ((ma 11), .inl (cI, 40, .inl fTS))]) (va_A [(h0, .inr (11, MO ma sv_thrown sv_length sv_nodes sv_many sv_directories sv_runsFrom sv_runs sv_read sv_wrong sv_isNamed sv_goes sv_goesSize sv_goesAt sv_targetParts sv_isRoot)), ((ma 16), .inl (cJ, 46080, .inr (.inl F))), ((ma 10), .inl (cB, 8000, .inl fT)), ((ma 11), .inl (cI, 40, .inl fTS))] sz)) 0 0 (va_A [(h0, .inr (11, MO ma sv_thrown sv_length sv_nodes sv_many sv_directories sv_runsFrom sv_runs sv_read sv_wrong sv_isNamed sv_goes sv_goesSize sv_goesAt sv_targetParts sv_isRoot)), ((ma 16), .inl (cJ, 46080, .inr (.inl F))), ((ma 10), .inl (cB, 8000, .inl fT)), ((ma 11), .inl (cI, 40, .inl fTS))] sz) := by
  refine Met.ofW (cc := b_DiscMakerModel_components) (maxL := 10) (ret := some .int) (by decide) rfl ?_
  intro p e s m args below meth c s₁ B hml hv
  obtain ⟨rfl, hsz, hP, hK, hN, hD0⟩ := hv
  have hx := B.exec
  have hb := B.bytes
  have hr := B.returns
  have hts := atoms_spec (ws := w_DiscMakerModel_components) B.pre
  have ht9 := fun (w : Cond) (h : w ∈ lw_g) => hts w (List.mem_cons_of_mem _ h)
  have hown : s.vm.findClass "DiscMakerModel" = some m.cls := findClass_of_methodNamed B.named
  have hlocks := B.notSynchronized
  subst hsz
  have hD := hD0.self (sz := s.heap.size)
  generalize hAe : va_A [(h0, .inr (11, MO ma sv_thrown sv_length sv_nodes sv_many sv_directories sv_runsFrom sv_runs sv_read sv_wrong sv_isNamed sv_goes sv_goesSize sv_goesAt sv_targetParts sv_isRoot)), ((ma 16), .inl (cJ, 46080, .inr (.inl F))), ((ma 10), .inl (cB, 8000, .inl fT)), ((ma 11), .inl (cI, 40, .inl fTS))] s.heap.size = A at hD ⊢
  have hA : ∀ q : Nat, s.heap.size ≤ q → A q := fun q h => by rw [← hAe]; exact Or.inr h
  have hS : va_S A s.heap s.heap [] := va_S.rf
  have hP : va_P D CL [(h0, .inr (11, MO ma sv_thrown sv_length sv_nodes sv_many sv_directories sv_runsFrom sv_runs sv_read sv_wrong sv_isNamed sv_goes sv_goesSize sv_goesAt sv_targetParts sv_isRoot)), ((ma 16), .inl (cJ, 46080, .inr (.inl F))), ((ma 10), .inl (cB, 8000, .inl fT)), ((ma 11), .inl (cI, 40, .inl fTS))] s.heap := hP
  have hl := lv_entry [.ref h0, .int x, .int (-1)] (n := 10) (Nat.le_of_ble_eq_true rfl)
  rw [lg_entry_eq]
  generalize (lg_sl [.ref h0, .int x, .int (-1)] ++ List.replicate (10 - (lg_sl [.ref h0, .int x, .int (-1)]).length) Slot.unset).toArray = ls at hl ⊢
  have hl : lv_has ls 10 [(0, .ref h0), (1, .int x), (2, .int (-1))] := hl
  have L_m1 : ((-1) : Int32).toInt = (-1) := by decide
  have L_0 : (0 : Int32).toInt = 0 := by decide
  have L_1 : (1 : Int32).toInt = 1 := by decide
  have L_2 : (2 : Int32).toInt = 2 := by decide
  have L_4 : (4 : Int32).toInt = 4 := by decide
  have L_8 : (8 : Int32).toInt = 8 := by decide
  have L_46 : (46 : Int32).toInt = 46 := by decide
  have L_47 : (47 : Int32).toInt = 47 := by decide
  have L_200 : (200 : Int32).toInt = 200 := by decide
  have hxc := i_cl (a := x) (by omega)
  have htz := hTS x.toNatClampNeg (by omega)
  have hcf := cmF_le (tgF fT x.toNatClampNeg) (fTS x.toNatClampNeg).toInt.toNat (by omega)
  refine lv_aload_n hx hb d_DiscMakerModel_components_0 rfl (lv_at hl 0 rfl) ?_
  refine va_get (D := D) (ci := 11) (v := .ref (ma 11)) (C := "DiscMakerModel") (T := F_DiscMakerModel) (N := 48) hx hb ht9 in_DiscMakerModel hown hK hP 0 rfl rfl 14 (by decide) (ht9 _ k1445) (fun _ h9 => h9) rfl d_DiscMakerModel_components_1 ?_
  refine lv_iload_n hx hb d_DiscMakerModel_components_4 rfl (lv_at hl 1 rfl) ?_
  refine va_iald hx hb hK hP 3 1 rfl rfl (vp_in_iff.mpr ⟨by omega, by omega⟩) d_DiscMakerModel_components_5 ?_
  refine lv_topi (fun v1 e_v1 => ?_)
  have t_v1 : 0 ≤ v1.toInt ∧ v1.toInt ≤ 200 := by
    rw [e_v1]; exact hTS _ (by have := i_cl (a := x) (by omega); omega)
  have qnv1 : v1.toInt = (fTS x.toNatClampNeg).toInt := by rw [e_v1]
  refine lv_istore_n hx hb d_DiscMakerModel_components_6 rfl hl (by decide) rfl (fun ls hl => ?_)
  have hl : lv_has ls 10 [(3, .int v1), (0, .ref h0), (1, .int x), (2, .int (-1))] := hl
  refine lv_iconst (v := 0) hx hb d_DiscMakerModel_components_7 (by decide) ?_
  refine lv_istore hx hb d_DiscMakerModel_components_8 hl (by decide) rfl (fun ls hl => ?_)
  have hl : lv_has ls 10 [(4, .int 0), (3, .int v1), (0, .ref h0), (1, .int x), (2, .int (-1))] := hl
  refine lv_aload_n hx hb d_DiscMakerModel_components_10 rfl (lv_at hl 2 rfl) ?_
  refine va_get (D := D) (ci := 11) (v := .ref (ma 10)) (C := "DiscMakerModel") (T := F_DiscMakerModel) (N := 48) hx hb ht9 in_DiscMakerModel hown hK hP 0 rfl rfl 13 (by decide) (ht9 _ k1444) (fun _ h9 => h9) rfl d_DiscMakerModel_components_11 ?_
  refine lv_sipush (v := 200) hx hb d_DiscMakerModel_components_14 (by decide) ?_
  refine lv_iload_n hx hb d_DiscMakerModel_components_17 rfl (lv_at hl 3 rfl) ?_
  refine lv_imul hx hb d_DiscMakerModel_components_18 ?_
  refine lv_topi (fun v2 e_v2 => ?_)
  have t_v2 : v2.toInt = 200 * x.toInt := by rw [e_v2]; exact i_mul (by decide) rfl (by omega) (by omega)
  refine va_bald hx hb hK hP 2 0 rfl rfl (vp_in_iff.mpr ⟨by omega, by omega⟩) d_DiscMakerModel_components_19 ?_
  refine lv_topi (fun v3 e_v3 => ?_)
  have c_v3 := i_cl (a := v2) (by omega)
  have e2_v3 : v3 = fT (200 * x.toNatClampNeg + 0) := by rw [e_v3, show v2.toNatClampNeg = 200 * x.toNatClampNeg + 0 by omega]
  have qtv3 : (tgF fT x.toNatClampNeg (0)).toInt = v3.toInt := by unfold tgF; rw [e2_v3]
  refine zz_labM (B := fun (lk : Nat) (K : Heap → List Loc → Array Slot → List Value → Prop) => ∀ (aj : Int32) (H : Heap) (locs : List Loc) (ls : Array Slot), lk = 0 → (0 ≤ aj.toInt ∧ aj.toInt ≤ 2) → (cmL (tgF fT x.toNatClampNeg) (fTS x.toNatClampNeg).toInt.toNat 0 aj.toNatClampNeg = cmF (tgF fT x.toNatClampNeg) (fTS x.toNatClampNeg).toInt.toNat) → va_P D CL [(h0, .inr (11, MO ma sv_thrown sv_length sv_nodes sv_many sv_directories sv_runsFrom sv_runs sv_read sv_wrong sv_isNamed sv_goes sv_goesSize sv_goesAt sv_targetParts sv_isRoot)), ((ma 16), .inl (cJ, 46080, .inr (.inl F))), ((ma 10), .inl (cB, 8000, .inl fT)), ((ma 11), .inl (cI, 40, .inl fTS))] H → va_D A [(h0, .inr (11, MO ma sv_thrown sv_length sv_nodes sv_many sv_directories sv_runsFrom sv_runs sv_read sv_wrong sv_isNamed sv_goes sv_goesSize sv_goesAt sv_targetParts sv_isRoot)), ((ma 16), .inl (cJ, 46080, .inr (.inl F))), ((ma 10), .inl (cB, 8000, .inl fT)), ((ma 11), .inl (cI, 40, .inl fTS))] → va_S A s.heap H locs → lv_has ls 10 [(0, .ref h0), (1, .int x), (2, .int (-1)), (3, .int v1), (4, .int aj)] → K H locs ls []) 38 ?_ ?_
  · skip
    intro lk ih38 aj H locs ls hm38 f0 fj hP hD hS hl
    refine lv_iconst (v := 0) hx hb d_DiscMakerModel_components_38 (by decide) ?_
    refine lv_istore hx hb d_DiscMakerModel_components_39 hl (by decide) rfl (fun ls hl => ?_)
    have hl : lv_has ls 10 [(5, .int 0), (0, .ref h0), (1, .int x), (2, .int (-1)), (3, .int v1), (4, .int aj)] := hl
    refine zz_labM (B := fun (lk : Nat) (K : Heap → List Loc → Array Slot → List Value → Prop) => ∀ (al : Int32) (lp : Int32) (H : Heap) (locs : List Loc) (ls : Array Slot), lk = (201 - lp.toInt).toNat → (0 ≤ lp.toInt ∧ lp.toInt ≤ (fTS x.toNatClampNeg).toInt + 1) → (0 ≤ al.toInt ∧ al.toInt ≤ 303) → (cmL (tgF fT x.toNatClampNeg) (fTS x.toNatClampNeg).toInt.toNat lp.toNatClampNeg al.toNatClampNeg = cmF (tgF fT x.toNatClampNeg) (fTS x.toNatClampNeg).toInt.toNat) → va_P D CL [(h0, .inr (11, MO ma sv_thrown sv_length sv_nodes sv_many sv_directories sv_runsFrom sv_runs sv_read sv_wrong sv_isNamed sv_goes sv_goesSize sv_goesAt sv_targetParts sv_isRoot)), ((ma 16), .inl (cJ, 46080, .inr (.inl F))), ((ma 10), .inl (cB, 8000, .inl fT)), ((ma 11), .inl (cI, 40, .inl fTS))] H → va_D A [(h0, .inr (11, MO ma sv_thrown sv_length sv_nodes sv_many sv_directories sv_runsFrom sv_runs sv_read sv_wrong sv_isNamed sv_goes sv_goesSize sv_goesAt sv_targetParts sv_isRoot)), ((ma 16), .inl (cJ, 46080, .inr (.inl F))), ((ma 10), .inl (cB, 8000, .inl fT)), ((ma 11), .inl (cI, 40, .inl fTS))] → va_S A s.heap H locs → lv_has ls 10 [(0, .ref h0), (1, .int x), (2, .int (-1)), (3, .int v1), (4, .int al), (5, .int lp)] → K H locs ls []) 41 ?_ ?_
    · skip
      intro lk ih41 al lp H locs ls hm41 f1 f3 f2 hP hD hS hl
      have hlpc := i_cl (a := lp) (by omega)
      have halc := i_cl (a := al) (by omega)
      refine lv_iload hx hb d_DiscMakerModel_components_41 (lv_at hl 5 rfl) ?_
      refine lv_iload_n hx hb d_DiscMakerModel_components_43 rfl (lv_at hl 3 rfl) ?_
      refine lv_icmp_ge (tgt := 267) hx hb d_DiscMakerModel_components_44 (by decide) (fun h_9 => ?_) (fun h_9 => ?_)
      · skip
        have g44_18 : v1.toInt ≤ lp.toInt := (i_le rfl rfl).mp h_9
        refine lv_iload hx hb d_DiscMakerModel_components_267 (lv_at hl 4 rfl) ?_
        have hP9 := hP.sub (ws' := [(h0, .inr (11, MO ma sv_thrown sv_length sv_nodes sv_many sv_directories sv_runsFrom sv_runs sv_read sv_wrong sv_isNamed sv_goes sv_goesSize sv_goesAt sv_targetParts sv_isRoot)), ((ma 16), .inl (cJ, 46080, .inr (.inl F))), ((ma 10), .inl (cB, 8000, .inl fT)), ((ma 11), .inl (cI, 40, .inl fTS))]) [0, 1, 2, 3] rfl
        have hD9 := hD.sub (ws' := [(h0, .inr (11, MO ma sv_thrown sv_length sv_nodes sv_many sv_directories sv_runsFrom sv_runs sv_read sv_wrong sv_isNamed sv_goes sv_goesSize sv_goesAt sv_targetParts sv_isRoot)), ((ma 16), .inl (cJ, 46080, .inr (.inl F))), ((ma 10), .inl (cB, 8000, .inl fT)), ((ma 11), .inl (cI, 40, .inl fTS))]) [0, 1, 2, 3] (by decide +kernel) rfl
        exact W.iret (v := al) hx hb hr (fun t ht hW => ⟨⟨al, (), rfl, ⟨(by (try dsimp only); rw [← f2, cmL_end (by omega)]; omega), (by (try dsimp only); first | assumption | omega | trivial)⟩, by rw [ht]; exact hP9, hD9⟩, hS.F ht⟩) hS.2.2 d_DiscMakerModel_components_269
      · skip
        have g44_18 : ¬ v1.toInt ≤ lp.toInt := fun h8 => h_9 ((i_le rfl rfl).mpr h8)
        refine lv_iload hx hb d_DiscMakerModel_components_47 (lv_at hl 5 rfl) ?_
        refine lv_istore hx hb d_DiscMakerModel_components_49 hl (by decide) rfl (fun ls hl => ?_)
        have hl : lv_has ls 10 [(6, .int lp), (0, .ref h0), (1, .int x), (2, .int (-1)), (3, .int v1), (4, .int al), (5, .int lp)] := hl
        refine zz_labM (B := fun (lk : Nat) (K : Heap → List Loc → Array Slot → List Value → Prop) => ∀ (lq : Int32) (H : Heap) (locs : List Loc) (ls : Array Slot), lk = (201 - lq.toInt).toNat → (lp.toInt ≤ lq.toInt ∧ lq.toInt ≤ (fTS x.toNatClampNeg).toInt) → (nxS (tgF fT x.toNatClampNeg) (fTS x.toNatClampNeg).toInt.toNat lq.toNatClampNeg = nxS (tgF fT x.toNatClampNeg) (fTS x.toNatClampNeg).toInt.toNat lp.toNatClampNeg) → va_P D CL [(h0, .inr (11, MO ma sv_thrown sv_length sv_nodes sv_many sv_directories sv_runsFrom sv_runs sv_read sv_wrong sv_isNamed sv_goes sv_goesSize sv_goesAt sv_targetParts sv_isRoot)), ((ma 16), .inl (cJ, 46080, .inr (.inl F))), ((ma 10), .inl (cB, 8000, .inl fT)), ((ma 11), .inl (cI, 40, .inl fTS))] H → va_D A [(h0, .inr (11, MO ma sv_thrown sv_length sv_nodes sv_many sv_directories sv_runsFrom sv_runs sv_read sv_wrong sv_isNamed sv_goes sv_goesSize sv_goesAt sv_targetParts sv_isRoot)), ((ma 16), .inl (cJ, 46080, .inr (.inl F))), ((ma 10), .inl (cB, 8000, .inl fT)), ((ma 11), .inl (cI, 40, .inl fTS))] → va_S A s.heap H locs → lv_has ls 10 [(0, .ref h0), (1, .int x), (2, .int (-1)), (3, .int v1), (4, .int al), (5, .int lp), (6, .int lq)] → K H locs ls []) 51 ?_ ?_
        · skip
          intro lk ih51 lq H locs ls hm51 g1 g2 hP hD hS hl
          have hqc := i_cl (a := lq) (by omega)
          refine lv_iload hx hb d_DiscMakerModel_components_51 (lv_at hl 6 rfl) ?_
          refine zz_labM (B := fun (lk : Nat) (K : Heap → List Loc → Array Slot → List Value → Prop) => ∀ (H : Heap) (locs : List Loc) (ls : Array Slot), lk = 0 → (nxS (tgF fT x.toNatClampNeg) (fTS x.toNatClampNeg).toInt.toNat lp.toNatClampNeg = lq.toNatClampNeg) → va_P D CL [(h0, .inr (11, MO ma sv_thrown sv_length sv_nodes sv_many sv_directories sv_runsFrom sv_runs sv_read sv_wrong sv_isNamed sv_goes sv_goesSize sv_goesAt sv_targetParts sv_isRoot)), ((ma 16), .inl (cJ, 46080, .inr (.inl F))), ((ma 10), .inl (cB, 8000, .inl fT)), ((ma 11), .inl (cI, 40, .inl fTS))] H → va_D A [(h0, .inr (11, MO ma sv_thrown sv_length sv_nodes sv_many sv_directories sv_runsFrom sv_runs sv_read sv_wrong sv_isNamed sv_goes sv_goesSize sv_goesAt sv_targetParts sv_isRoot)), ((ma 16), .inl (cJ, 46080, .inr (.inl F))), ((ma 10), .inl (cB, 8000, .inl fT)), ((ma 11), .inl (cI, 40, .inl fTS))] → va_S A s.heap H locs → lv_has ls 10 [(0, .ref h0), (1, .int x), (2, .int (-1)), (3, .int v1), (4, .int al), (5, .int lp), (6, .int lq)] → K H locs ls []) 81 ?_ ?_
          · skip
            intro lk ih81 H locs ls hm81 h81 hP hD hS hl
            refine lv_iload hx hb d_DiscMakerModel_components_81 (lv_at hl 6 rfl) ?_
            have hal9 := cmL_all (tgF fT x.toNatClampNeg) (fTS x.toNatClampNeg).toInt.toNat (lq.toNatClampNeg + 1) (al.toNatClampNeg + cbF (tgF fT x.toNatClampNeg) lp.toNatClampNeg lq.toNatClampNeg)
            have hgo := cmL_go (t := (tgF fT x.toNatClampNeg)) (n := (fTS x.toNatClampNeg).toInt.toNat) (p := lp.toNatClampNeg) (all := al.toNatClampNeg) (by omega)
            rw [h81, f2] at hgo
            have hal8 : al.toNatClampNeg + cbF (tgF fT x.toNatClampNeg) lp.toNatClampNeg lq.toNatClampNeg ≤ 303 := by omega
            refine zz_labM (B := fun (lk : Nat) (K : Heap → List Loc → Array Slot → List Value → Prop) => ∀ (jm : Int32) (H : Heap) (locs : List Loc) (ls : Array Slot), lk = 0 → ((jm.toInt ≠ 0 ∧ lp.toNatClampNeg < lq.toNatClampNeg ∧ cbF (tgF fT x.toNatClampNeg) lp.toNatClampNeg lq.toNatClampNeg = 2) ∨ (jm.toInt = 0 ∧ ((lp.toNatClampNeg < lq.toNatClampNeg ∧ cbF (tgF fT x.toNatClampNeg) lp.toNatClampNeg lq.toNatClampNeg = 2 + (lq.toNatClampNeg - lp.toNatClampNeg)) ∨ (¬ lp.toNatClampNeg < lq.toNatClampNeg ∧ cbF (tgF fT x.toNatClampNeg) lp.toNatClampNeg lq.toNatClampNeg = 0)))) → va_P D CL [(h0, .inr (11, MO ma sv_thrown sv_length sv_nodes sv_many sv_directories sv_runsFrom sv_runs sv_read sv_wrong sv_isNamed sv_goes sv_goesSize sv_goesAt sv_targetParts sv_isRoot)), ((ma 16), .inl (cJ, 46080, .inr (.inl F))), ((ma 10), .inl (cB, 8000, .inl fT)), ((ma 11), .inl (cI, 40, .inl fTS))] H → va_D A [(h0, .inr (11, MO ma sv_thrown sv_length sv_nodes sv_many sv_directories sv_runsFrom sv_runs sv_read sv_wrong sv_isNamed sv_goes sv_goesSize sv_goesAt sv_targetParts sv_isRoot)), ((ma 16), .inl (cJ, 46080, .inr (.inl F))), ((ma 10), .inl (cB, 8000, .inl fT)), ((ma 11), .inl (cI, 40, .inl fTS))] → va_S A s.heap H locs → lv_has ls 10 [(0, .ref h0), (1, .int x), (2, .int (-1)), (3, .int v1), (4, .int al), (5, .int lp), (6, .int lq)] → K H locs ls [.int jm]) 164 ?_ ?_
            · skip
              intro lk ih164 jm H locs ls hm164 f5 hP hD hS hl
              refine lv_istore hx hb d_DiscMakerModel_components_164 hl (by decide) rfl (fun ls hl => ?_)
              have hl : lv_has ls 10 [(7, .int jm), (0, .ref h0), (1, .int x), (2, .int (-1)), (3, .int v1), (4, .int al), (5, .int lp), (6, .int lq)] := hl
              refine lv_iload hx hb d_DiscMakerModel_components_166 (lv_at hl 0 rfl) ?_
              refine lv_if_ne (tgt := 179) hx hb d_DiscMakerModel_components_168 (by decide) (fun h_9 => ?_) (fun h_9 => ?_)
              · skip
                have g168_27 : ¬ jm.toInt = 0 := fun h8 => h_9 ((i_eq rfl (by decide)).mpr h8)
                refine lv_iconst (v := 0) hx hb d_DiscMakerModel_components_179 (by decide) ?_
                refine lv_istore hx hb d_DiscMakerModel_components_180 hl (by decide) rfl (fun ls hl => ?_)
                have hl : lv_has ls 10 [(8, .int 0), (7, .int jm), (0, .ref h0), (1, .int x), (2, .int (-1)), (3, .int v1), (4, .int al), (5, .int lp), (6, .int lq)] := hl
                refine lv_iload hx hb d_DiscMakerModel_components_182 (lv_at hl 8 rfl) ?_
                refine lv_iload hx hb d_DiscMakerModel_components_184 (lv_at hl 7 rfl) ?_
                refine lv_icmp_le (tgt := 258) hx hb d_DiscMakerModel_components_186 (by decide) (fun h_9 => ?_) (fun h_9 => ?_)
                · skip
                  have g186_32 : lq.toInt ≤ lp.toInt := (i_le rfl rfl).mp h_9
                  refine lv_iload hx hb d_DiscMakerModel_components_258 (lv_at hl 8 rfl) ?_
                  refine lv_iconst (v := 1) hx hb d_DiscMakerModel_components_260 (by decide) ?_
                  refine lv_iadd hx hb d_DiscMakerModel_components_261 ?_
                  refine lv_topi (fun v4 e_v4 => ?_)
                  have t_v4 : v4.toInt = lq.toInt + 1 := by rw [e_v4]; exact i_add rfl (by decide) (by omega) (by omega)
                  refine lv_istore hx hb d_DiscMakerModel_components_262 hl (by decide) rfl (fun ls hl => ?_)
                  have hl : lv_has ls 10 [(5, .int v4), (8, .int 0), (7, .int jm), (0, .ref h0), (1, .int x), (2, .int (-1)), (3, .int v1), (4, .int al), (6, .int lq)] := hl
                  refine lv_goto (tgt := 41) hx hb d_DiscMakerModel_components_264 (by decide) ?_
                  have hP := hP.sub (ws' := [(h0, .inr (11, MO ma sv_thrown sv_length sv_nodes sv_many sv_directories sv_runsFrom sv_runs sv_read sv_wrong sv_isNamed sv_goes sv_goesSize sv_goesAt sv_targetParts sv_isRoot)), ((ma 16), .inl (cJ, 46080, .inr (.inl F))), ((ma 10), .inl (cB, 8000, .inl fT)), ((ma 11), .inl (cI, 40, .inl fTS))]) [0, 1, 2, 3] rfl
                  have hD := hD.sub (ws' := [(h0, .inr (11, MO ma sv_thrown sv_length sv_nodes sv_many sv_directories sv_runsFrom sv_runs sv_read sv_wrong sv_isNamed sv_goes sv_goesSize sv_goesAt sv_targetParts sv_isRoot)), ((ma 16), .inl (cJ, 46080, .inr (.inl F))), ((ma 10), .inl (cB, 8000, .inl fT)), ((ma 11), .inl (cI, 40, .inl fTS))]) [0, 1, 2, 3] (by decide +kernel) rfl
                  have hl := lv_sub hl [3, 4, 5, 6, 7, 0] rfl
                  exact ih41 _ (by first | omega | (dsimp only; omega)) al v4 _ _ _ rfl ((by (try dsimp only); first | assumption | omega | trivial)) ((by (try dsimp only); first | assumption | omega | trivial)) ((by have h0 := cmL_go (t := (tgF fT x.toNatClampNeg)) (n := (fTS x.toNatClampNeg).toInt.toNat) (p := lp.toNatClampNeg) (all := al.toNatClampNeg) (by omega); have h1 := i_cl (a := v4) (by omega); have h2 := i_cl (a := al) (by omega); rw [h81, f2] at h0; rw [show v4.toNatClampNeg = lq.toNatClampNeg + 1 by omega, show al.toNatClampNeg = al.toNatClampNeg + cbF (tgF fT x.toNatClampNeg) lp.toNatClampNeg lq.toNatClampNeg by omega]; exact h0.symm)) hP hD hS hl
                · skip
                  have g186_32 : ¬ lq.toInt ≤ lp.toInt := fun h8 => h_9 ((i_le rfl rfl).mpr h8)
                  refine lv_aload_n hx hb d_DiscMakerModel_components_189 rfl (lv_at hl 2 rfl) ?_
                  refine lv_iload_n hx hb d_DiscMakerModel_components_190 rfl (lv_at hl 4 rfl) ?_
                  refine lv_iload hx hb d_DiscMakerModel_components_191 (lv_at hl 6 rfl) ?_
                  refine lv_iload hx hb d_DiscMakerModel_components_193 (lv_at hl 1 rfl) ?_
                  refine lv_iload hx hb d_DiscMakerModel_components_195 (lv_at hl 0 rfl) ?_
                  have hPc := hP.sub (ws' := [(h0, .inr (11, MO ma sv_thrown sv_length sv_nodes sv_many sv_directories sv_runsFrom sv_runs sv_read sv_wrong sv_isNamed sv_goes sv_goesSize sv_goesAt sv_targetParts sv_isRoot)), ((ma 16), .inl (cJ, 46080, .inr (.inl F)))]) [0, 1] rfl
                  have hDc := hD.sub (ws' := [(h0, .inr (11, MO ma sv_thrown sv_length sv_nodes sv_many sv_directories sv_runsFrom sv_runs sv_read sv_wrong sv_isNamed sv_goes sv_goesSize sv_goesAt sv_targetParts sv_isRoot)), ((ma 16), .inl (cJ, 46080, .inr (.inl F)))]) [0, 1] (by decide +kernel) rfl
                  have hFc := va_free (wc := [(h0, .inr (11, MO ma sv_thrown sv_length sv_nodes sv_many sv_directories sv_runsFrom sv_runs sv_read sv_wrong sv_isNamed sv_goes sv_goesSize sv_goesAt sv_targetParts sv_isRoot)), ((ma 16), .inl (cJ, 46080, .inr (.inl F)))]) hD hS hA [0, 1] rfl
                  have hkc : 0 ≤ 0 := by decide
                  have hks : 0 ≤ 0 := by decide
                  refine va_callv (va_runV (C := "DiscMakerModel") (As := [.int (-1), .int al, .int jm, .int 0]) (rest := []) ⟨hx, hb, hml, hown, hts⟩ (m_mark0 l D cB cI cJ cZ cN cF H.size h0 ma sv_thrown sv_length sv_nodes sv_many sv_directories sv_runsFrom sv_runs sv_read sv_wrong sv_isNamed sv_goes sv_goesSize sv_goesAt sv_targetParts sv_isRoot F al jm 0) (cwV 4 hts (lg_goodV k1723 k1725 k78 k125 kc_DiscMakerModel_mark) rfl rfl rfl (by decide +kernel) ⟨Nat.le_of_ble_eq_true rfl, Nat.le_of_ble_eq_true rfl⟩) ⟨fun a U g mk q => by obtain ⟨q0, q1, qP, qK, qN, qD⟩ := q; exact ⟨q0, q1, qP, va_K.moved (u := U) (U := U.calling g mk a) (Vm.Alike.refl U.vm) qK, qN.calling, qD⟩, va_recv hK hP (ci := 11) (q0 := 0) rfl rfl, fun U hU hW => ⟨rfl, by rw [hU], by rw [hU]; exact hPc, va_K.moved hW.alike hK, NN.warm hW hN, hDc.weaken (fun _ _ _ _ => trivial)⟩⟩ rfl rfl hl.1 rfl (lv_room (Nat.le_of_ble_eq_true rfl)) d_DiscMakerModel_components_197 ⟨hkc, hks⟩) hS (fun q _ h => hFc q h) hFc (fun u t H1 locs ht hvm hp_r5 hB hz1 hk1 hS => ?_)
                  obtain ⟨hP1, hD1⟩ := hB
                  rw [ht] at hP1
                  obtain ⟨hP, hD⟩ := va_join (wr := [((ma 10), .inl (cB, 8000, .inl fT)), ((ma 11), .inl (cI, 40, .inl fTS))]) (w1 := [(h0, .inr (11, MO ma sv_thrown sv_length sv_nodes sv_many sv_directories sv_runsFrom sv_runs sv_read sv_wrong sv_isNamed sv_goes sv_goesSize sv_goesAt sv_targetParts sv_isRoot)), ((ma 16), .inl (cJ, 46080, .inr (.inl F)))]) hP hD [0, 1] [2, 3] rfl rfl (by decide +kernel) (by decide +kernel) hk1 hFc hP1 hD1
                  clear hPc hDc hFc hP1 hD1 hk1 hz1 hkc hks
                  generalize H1 = H at hP hS ⊢
                  have hP : va_P D CL [((ma 10), .inl (cB, 8000, .inl fT)), ((ma 11), .inl (cI, 40, .inl fTS)), (h0, .inr (11, MO ma sv_thrown sv_length sv_nodes sv_many sv_directories sv_runsFrom sv_runs sv_read sv_wrong sv_isNamed sv_goes sv_goesSize sv_goesAt sv_targetParts sv_isRoot)), ((ma 16), .inl (cJ, 46080, .inr (.inl F)))] H := hP
                  have hD : va_D A [((ma 10), .inl (cB, 8000, .inl fT)), ((ma 11), .inl (cI, 40, .inl fTS)), (h0, .inr (11, MO ma sv_thrown sv_length sv_nodes sv_many sv_directories sv_runsFrom sv_runs sv_read sv_wrong sv_isNamed sv_goes sv_goesSize sv_goesAt sv_targetParts sv_isRoot)), ((ma 16), .inl (cJ, 46080, .inr (.inl F)))] := hD
                  refine lv_iconst (v := 0) hx hb d_DiscMakerModel_components_200 (by decide) ?_
                  refine lv_istore hx hb d_DiscMakerModel_components_201 hl (by decide) rfl (fun ls hl => ?_)
                  have hl : lv_has ls 10 [(9, .int 0), (8, .int 0), (7, .int jm), (0, .ref h0), (1, .int x), (2, .int (-1)), (3, .int v1), (4, .int al), (5, .int lp), (6, .int lq)] := hl
                  refine zz_labM (B := fun (lk : Nat) (K : Heap → List Loc → Array Slot → List Value → Prop) => ∀ (k9 : Int32) (H : Heap) (locs : List Loc) (ls : Array Slot), lk = (201 - k9.toInt).toNat → (0 ≤ k9.toInt ∧ k9.toInt ≤ 200) → va_P D CL [((ma 10), .inl (cB, 8000, .inl fT)), ((ma 11), .inl (cI, 40, .inl fTS)), (h0, .inr (11, MO ma sv_thrown sv_length sv_nodes sv_many sv_directories sv_runsFrom sv_runs sv_read sv_wrong sv_isNamed sv_goes sv_goesSize sv_goesAt sv_targetParts sv_isRoot)), ((ma 16), .inl (cJ, 46080, .inr (.inl F)))] H → va_D A [((ma 10), .inl (cB, 8000, .inl fT)), ((ma 11), .inl (cI, 40, .inl fTS)), (h0, .inr (11, MO ma sv_thrown sv_length sv_nodes sv_many sv_directories sv_runsFrom sv_runs sv_read sv_wrong sv_isNamed sv_goes sv_goesSize sv_goesAt sv_targetParts sv_isRoot)), ((ma 16), .inl (cJ, 46080, .inr (.inl F)))] → va_S A s.heap H locs → lv_has ls 10 [(0, .ref h0), (1, .int x), (2, .int (-1)), (3, .int v1), (4, .int al), (5, .int lp), (6, .int lq), (7, .int jm), (8, .int 0), (9, .int k9)] → K H locs ls []) 203 ?_ ?_
                  · skip
                    intro lk ih203 k9 H locs ls hm203 f9 hP hD hS hl
                    refine lv_iload hx hb d_DiscMakerModel_components_203 (lv_at hl 9 rfl) ?_
                    refine lv_iload hx hb d_DiscMakerModel_components_205 (lv_at hl 8 rfl) ?_
                    refine lv_icmp_ge (tgt := 249) hx hb d_DiscMakerModel_components_207 (by decide) (fun h_9 => ?_) (fun h_9 => ?_)
                    · skip
                      have g207_49 : 0 ≤ k9.toInt := (i_le (by decide) rfl).mp h_9
                      refine lv_iload hx hb d_DiscMakerModel_components_249 (lv_at hl 4 rfl) ?_
                      refine lv_iconst (v := 2) hx hb d_DiscMakerModel_components_251 (by decide) ?_
                      refine lv_iload hx hb d_DiscMakerModel_components_252 (lv_at hl 8 rfl) ?_
                      refine lv_iadd hx hb d_DiscMakerModel_components_254 ?_
                      refine W.eq (g2 := F0 m 255 ls [.int 2, .int al]) (by rw [show ((2 : Int32) + 0) = 2 from by decide]) ?_
                      refine lv_iadd hx hb d_DiscMakerModel_components_255 ?_
                      refine lv_topi (fun v6 e_v6 => ?_)
                      have t_v6 : v6.toInt = al.toInt + 2 := by rw [e_v6]; exact i_add rfl (by decide) (by omega) (by omega)
                      refine lv_istore hx hb d_DiscMakerModel_components_256 hl (by decide) rfl (fun ls hl => ?_)
                      have hl : lv_has ls 10 [(4, .int v6), (0, .ref h0), (1, .int x), (2, .int (-1)), (3, .int v1), (5, .int lp), (6, .int lq), (7, .int jm), (8, .int 0), (9, .int k9)] := hl
                      refine lv_iload hx hb d_DiscMakerModel_components_258 (lv_at hl 6 rfl) ?_
                      refine lv_iconst (v := 1) hx hb d_DiscMakerModel_components_260 (by decide) ?_
                      refine lv_iadd hx hb d_DiscMakerModel_components_261 ?_
                      refine lv_topi (fun v7 e_v7 => ?_)
                      have t_v7 : v7.toInt = lq.toInt + 1 := by rw [e_v7]; exact i_add rfl (by decide) (by omega) (by omega)
                      refine lv_istore hx hb d_DiscMakerModel_components_262 hl (by decide) rfl (fun ls hl => ?_)
                      have hl : lv_has ls 10 [(5, .int v7), (4, .int v6), (0, .ref h0), (1, .int x), (2, .int (-1)), (3, .int v1), (6, .int lq), (7, .int jm), (8, .int 0), (9, .int k9)] := hl
                      refine lv_goto (tgt := 41) hx hb d_DiscMakerModel_components_264 (by decide) ?_
                      have hP := hP.sub (ws' := [(h0, .inr (11, MO ma sv_thrown sv_length sv_nodes sv_many sv_directories sv_runsFrom sv_runs sv_read sv_wrong sv_isNamed sv_goes sv_goesSize sv_goesAt sv_targetParts sv_isRoot)), ((ma 16), .inl (cJ, 46080, .inr (.inl F))), ((ma 10), .inl (cB, 8000, .inl fT)), ((ma 11), .inl (cI, 40, .inl fTS))]) [2, 3, 0, 1] rfl
                      have hD := hD.sub (ws' := [(h0, .inr (11, MO ma sv_thrown sv_length sv_nodes sv_many sv_directories sv_runsFrom sv_runs sv_read sv_wrong sv_isNamed sv_goes sv_goesSize sv_goesAt sv_targetParts sv_isRoot)), ((ma 16), .inl (cJ, 46080, .inr (.inl F))), ((ma 10), .inl (cB, 8000, .inl fT)), ((ma 11), .inl (cI, 40, .inl fTS))]) [2, 3, 0, 1] (by decide +kernel) rfl
                      have hl := lv_sub hl [2, 3, 4, 5, 1, 0] rfl
                      exact ih41 _ (by first | omega | (dsimp only; omega)) v6 v7 _ _ _ rfl ((by (try dsimp only); first | assumption | omega | trivial)) ((by (try dsimp only); first | assumption | omega | trivial)) ((by have h0 := cmL_go (t := (tgF fT x.toNatClampNeg)) (n := (fTS x.toNatClampNeg).toInt.toNat) (p := lp.toNatClampNeg) (all := al.toNatClampNeg) (by omega); have h1 := i_cl (a := v7) (by omega); have h2 := i_cl (a := v6) (by omega); rw [h81, f2] at h0; rw [show v7.toNatClampNeg = lq.toNatClampNeg + 1 by omega, show v6.toNatClampNeg = al.toNatClampNeg + cbF (tgF fT x.toNatClampNeg) lp.toNatClampNeg lq.toNatClampNeg by omega]; exact h0.symm)) hP hD hS hl
                    · skip
                      have g207_49 : ¬ 0 ≤ k9.toInt := fun h8 => h_9 ((i_le (by decide) rfl).mpr h8)
                      refine lv_iload_n hx hb d_DiscMakerModel_components_210 rfl (lv_at hl 2 rfl) ?_
                      refine lv_if_lt (tgt := 249) hx hb d_DiscMakerModel_components_211 (by decide) (fun _ => ?_) (fun h_9 => absurd (by decide) h_9)
                      refine lv_iload hx hb d_DiscMakerModel_components_249 (lv_at hl 4 rfl) ?_
                      refine lv_iconst (v := 2) hx hb d_DiscMakerModel_components_251 (by decide) ?_
                      refine lv_iload hx hb d_DiscMakerModel_components_252 (lv_at hl 8 rfl) ?_
                      refine lv_iadd hx hb d_DiscMakerModel_components_254 ?_
                      refine W.eq (g2 := F0 m 255 ls [.int 2, .int al]) (by rw [show ((2 : Int32) + 0) = 2 from by decide]) ?_
                      refine lv_iadd hx hb d_DiscMakerModel_components_255 ?_
                      refine lv_topi (fun v8 e_v8 => ?_)
                      have t_v8 : v8.toInt = al.toInt + 2 := by rw [e_v8]; exact i_add rfl (by decide) (by omega) (by omega)
                      refine lv_istore hx hb d_DiscMakerModel_components_256 hl (by decide) rfl (fun ls hl => ?_)
                      have hl : lv_has ls 10 [(4, .int v8), (0, .ref h0), (1, .int x), (2, .int (-1)), (3, .int v1), (5, .int lp), (6, .int lq), (7, .int jm), (8, .int 0), (9, .int k9)] := hl
                      refine lv_iload hx hb d_DiscMakerModel_components_258 (lv_at hl 6 rfl) ?_
                      refine lv_iconst (v := 1) hx hb d_DiscMakerModel_components_260 (by decide) ?_
                      refine lv_iadd hx hb d_DiscMakerModel_components_261 ?_
                      refine lv_topi (fun v9 e_v9 => ?_)
                      have t_v9 : v9.toInt = lq.toInt + 1 := by rw [e_v9]; exact i_add rfl (by decide) (by omega) (by omega)
                      refine lv_istore hx hb d_DiscMakerModel_components_262 hl (by decide) rfl (fun ls hl => ?_)
                      have hl : lv_has ls 10 [(5, .int v9), (4, .int v8), (0, .ref h0), (1, .int x), (2, .int (-1)), (3, .int v1), (6, .int lq), (7, .int jm), (8, .int 0), (9, .int k9)] := hl
                      refine lv_goto (tgt := 41) hx hb d_DiscMakerModel_components_264 (by decide) ?_
                      have hP := hP.sub (ws' := [(h0, .inr (11, MO ma sv_thrown sv_length sv_nodes sv_many sv_directories sv_runsFrom sv_runs sv_read sv_wrong sv_isNamed sv_goes sv_goesSize sv_goesAt sv_targetParts sv_isRoot)), ((ma 16), .inl (cJ, 46080, .inr (.inl F))), ((ma 10), .inl (cB, 8000, .inl fT)), ((ma 11), .inl (cI, 40, .inl fTS))]) [2, 3, 0, 1] rfl
                      have hD := hD.sub (ws' := [(h0, .inr (11, MO ma sv_thrown sv_length sv_nodes sv_many sv_directories sv_runsFrom sv_runs sv_read sv_wrong sv_isNamed sv_goes sv_goesSize sv_goesAt sv_targetParts sv_isRoot)), ((ma 16), .inl (cJ, 46080, .inr (.inl F))), ((ma 10), .inl (cB, 8000, .inl fT)), ((ma 11), .inl (cI, 40, .inl fTS))]) [2, 3, 0, 1] (by decide +kernel) rfl
                      have hl := lv_sub hl [2, 3, 4, 5, 1, 0] rfl
                      exact ih41 _ (by first | omega | (dsimp only; omega)) v8 v9 _ _ _ rfl ((by (try dsimp only); first | assumption | omega | trivial)) ((by (try dsimp only); first | assumption | omega | trivial)) ((by have h0 := cmL_go (t := (tgF fT x.toNatClampNeg)) (n := (fTS x.toNatClampNeg).toInt.toNat) (p := lp.toNatClampNeg) (all := al.toNatClampNeg) (by omega); have h1 := i_cl (a := v9) (by omega); have h2 := i_cl (a := v8) (by omega); rw [h81, f2] at h0; rw [show v9.toNatClampNeg = lq.toNatClampNeg + 1 by omega, show v8.toNatClampNeg = al.toNatClampNeg + cbF (tgF fT x.toNatClampNeg) lp.toNatClampNeg lq.toNatClampNeg by omega]; exact h0.symm)) hP hD hS hl
                  · skip
                    intro kk203
                    have hP := hP.sub (ws' := [((ma 10), .inl (cB, 8000, .inl fT)), ((ma 11), .inl (cI, 40, .inl fTS)), (h0, .inr (11, MO ma sv_thrown sv_length sv_nodes sv_many sv_directories sv_runsFrom sv_runs sv_read sv_wrong sv_isNamed sv_goes sv_goesSize sv_goesAt sv_targetParts sv_isRoot)), ((ma 16), .inl (cJ, 46080, .inr (.inl F)))]) [0, 1, 2, 3] rfl
                    have hD := hD.sub (ws' := [((ma 10), .inl (cB, 8000, .inl fT)), ((ma 11), .inl (cI, 40, .inl fTS)), (h0, .inr (11, MO ma sv_thrown sv_length sv_nodes sv_many sv_directories sv_runsFrom sv_runs sv_read sv_wrong sv_isNamed sv_goes sv_goesSize sv_goesAt sv_targetParts sv_isRoot)), ((ma 16), .inl (cJ, 46080, .inr (.inl F)))]) [0, 1, 2, 3] (by decide +kernel) rfl
                    have hl := lv_sub hl [3, 4, 5, 6, 7, 8, 9, 2, 1, 0] rfl
                    exact kk203 _ 0 _ _ _ rfl ((by (try dsimp only); first | assumption | omega | trivial)) hP hD hS hl
              · skip
                have g168_27 : jm.toInt = 0 := (i_eq rfl (by decide)).mp h_9
                refine lv_iload hx hb d_DiscMakerModel_components_171 (lv_at hl 7 rfl) ?_
                refine lv_iload hx hb d_DiscMakerModel_components_173 (lv_at hl 6 rfl) ?_
                refine lv_isub hx hb d_DiscMakerModel_components_175 ?_
                refine lv_topi (fun v10 e_v10 => ?_)
                have t_v10 : v10.toInt = lq.toInt - lp.toInt := by rw [e_v10]; exact i_sub rfl rfl (by omega) (by omega)
                refine lv_goto (tgt := 180) hx hb d_DiscMakerModel_components_176 (by decide) ?_
                refine lv_istore hx hb d_DiscMakerModel_components_180 hl (by decide) rfl (fun ls hl => ?_)
                have hl : lv_has ls 10 [(8, .int v10), (7, .int jm), (0, .ref h0), (1, .int x), (2, .int (-1)), (3, .int v1), (4, .int al), (5, .int lp), (6, .int lq)] := hl
                refine lv_iload hx hb d_DiscMakerModel_components_182 (lv_at hl 8 rfl) ?_
                refine lv_iload hx hb d_DiscMakerModel_components_184 (lv_at hl 7 rfl) ?_
                refine lv_icmp_le (tgt := 258) hx hb d_DiscMakerModel_components_186 (by decide) (fun h_9 => ?_) (fun h_9 => ?_)
                · skip
                  have g186_83 : lq.toInt ≤ lp.toInt := (i_le rfl rfl).mp h_9
                  refine lv_iload hx hb d_DiscMakerModel_components_258 (lv_at hl 8 rfl) ?_
                  refine lv_iconst (v := 1) hx hb d_DiscMakerModel_components_260 (by decide) ?_
                  refine lv_iadd hx hb d_DiscMakerModel_components_261 ?_
                  refine lv_topi (fun v11 e_v11 => ?_)
                  have t_v11 : v11.toInt = lq.toInt + 1 := by rw [e_v11]; exact i_add rfl (by decide) (by omega) (by omega)
                  refine lv_istore hx hb d_DiscMakerModel_components_262 hl (by decide) rfl (fun ls hl => ?_)
                  have hl : lv_has ls 10 [(5, .int v11), (8, .int v10), (7, .int jm), (0, .ref h0), (1, .int x), (2, .int (-1)), (3, .int v1), (4, .int al), (6, .int lq)] := hl
                  refine lv_goto (tgt := 41) hx hb d_DiscMakerModel_components_264 (by decide) ?_
                  have hP := hP.sub (ws' := [(h0, .inr (11, MO ma sv_thrown sv_length sv_nodes sv_many sv_directories sv_runsFrom sv_runs sv_read sv_wrong sv_isNamed sv_goes sv_goesSize sv_goesAt sv_targetParts sv_isRoot)), ((ma 16), .inl (cJ, 46080, .inr (.inl F))), ((ma 10), .inl (cB, 8000, .inl fT)), ((ma 11), .inl (cI, 40, .inl fTS))]) [0, 1, 2, 3] rfl
                  have hD := hD.sub (ws' := [(h0, .inr (11, MO ma sv_thrown sv_length sv_nodes sv_many sv_directories sv_runsFrom sv_runs sv_read sv_wrong sv_isNamed sv_goes sv_goesSize sv_goesAt sv_targetParts sv_isRoot)), ((ma 16), .inl (cJ, 46080, .inr (.inl F))), ((ma 10), .inl (cB, 8000, .inl fT)), ((ma 11), .inl (cI, 40, .inl fTS))]) [0, 1, 2, 3] (by decide +kernel) rfl
                  have hl := lv_sub hl [3, 4, 5, 6, 7, 0] rfl
                  exact ih41 _ (by first | omega | (dsimp only; omega)) al v11 _ _ _ rfl ((by (try dsimp only); first | assumption | omega | trivial)) ((by (try dsimp only); first | assumption | omega | trivial)) ((by have h0 := cmL_go (t := (tgF fT x.toNatClampNeg)) (n := (fTS x.toNatClampNeg).toInt.toNat) (p := lp.toNatClampNeg) (all := al.toNatClampNeg) (by omega); have h1 := i_cl (a := v11) (by omega); have h2 := i_cl (a := al) (by omega); rw [h81, f2] at h0; rw [show v11.toNatClampNeg = lq.toNatClampNeg + 1 by omega, show al.toNatClampNeg = al.toNatClampNeg + cbF (tgF fT x.toNatClampNeg) lp.toNatClampNeg lq.toNatClampNeg by omega]; exact h0.symm)) hP hD hS hl
                · skip
                  have g186_83 : ¬ lq.toInt ≤ lp.toInt := fun h8 => h_9 ((i_le rfl rfl).mpr h8)
                  refine lv_aload_n hx hb d_DiscMakerModel_components_189 rfl (lv_at hl 2 rfl) ?_
                  refine lv_iload_n hx hb d_DiscMakerModel_components_190 rfl (lv_at hl 4 rfl) ?_
                  refine lv_iload hx hb d_DiscMakerModel_components_191 (lv_at hl 6 rfl) ?_
                  refine lv_iload hx hb d_DiscMakerModel_components_193 (lv_at hl 1 rfl) ?_
                  refine lv_iload hx hb d_DiscMakerModel_components_195 (lv_at hl 0 rfl) ?_
                  have hPc := hP.sub (ws' := [(h0, .inr (11, MO ma sv_thrown sv_length sv_nodes sv_many sv_directories sv_runsFrom sv_runs sv_read sv_wrong sv_isNamed sv_goes sv_goesSize sv_goesAt sv_targetParts sv_isRoot)), ((ma 16), .inl (cJ, 46080, .inr (.inl F)))]) [0, 1] rfl
                  have hDc := hD.sub (ws' := [(h0, .inr (11, MO ma sv_thrown sv_length sv_nodes sv_many sv_directories sv_runsFrom sv_runs sv_read sv_wrong sv_isNamed sv_goes sv_goesSize sv_goesAt sv_targetParts sv_isRoot)), ((ma 16), .inl (cJ, 46080, .inr (.inl F)))]) [0, 1] (by decide +kernel) rfl
                  have hFc := va_free (wc := [(h0, .inr (11, MO ma sv_thrown sv_length sv_nodes sv_many sv_directories sv_runsFrom sv_runs sv_read sv_wrong sv_isNamed sv_goes sv_goesSize sv_goesAt sv_targetParts sv_isRoot)), ((ma 16), .inl (cJ, 46080, .inr (.inl F)))]) hD hS hA [0, 1] rfl
                  have hkc : 0 ≤ 0 := by decide
                  have hks : 0 ≤ 0 := by decide
                  refine va_callv (va_runV (C := "DiscMakerModel") (As := [.int (-1), .int al, .int jm, .int v10]) (rest := []) ⟨hx, hb, hml, hown, hts⟩ (m_mark0 l D cB cI cJ cZ cN cF H.size h0 ma sv_thrown sv_length sv_nodes sv_many sv_directories sv_runsFrom sv_runs sv_read sv_wrong sv_isNamed sv_goes sv_goesSize sv_goesAt sv_targetParts sv_isRoot F al jm v10) (cwV 4 hts (lg_goodV k1723 k1725 k78 k125 kc_DiscMakerModel_mark) rfl rfl rfl (by decide +kernel) ⟨Nat.le_of_ble_eq_true rfl, Nat.le_of_ble_eq_true rfl⟩) ⟨fun a U g mk q => by obtain ⟨q0, q1, qP, qK, qN, qD⟩ := q; exact ⟨q0, q1, qP, va_K.moved (u := U) (U := U.calling g mk a) (Vm.Alike.refl U.vm) qK, qN.calling, qD⟩, va_recv hK hP (ci := 11) (q0 := 0) rfl rfl, fun U hU hW => ⟨rfl, by rw [hU], by rw [hU]; exact hPc, va_K.moved hW.alike hK, NN.warm hW hN, hDc.weaken (fun _ _ _ _ => trivial)⟩⟩ rfl rfl hl.1 rfl (lv_room (Nat.le_of_ble_eq_true rfl)) d_DiscMakerModel_components_197 ⟨hkc, hks⟩) hS (fun q _ h => hFc q h) hFc (fun u t H1 locs ht hvm hp_r12 hB hz1 hk1 hS => ?_)
                  obtain ⟨hP1, hD1⟩ := hB
                  rw [ht] at hP1
                  obtain ⟨hP, hD⟩ := va_join (wr := [((ma 10), .inl (cB, 8000, .inl fT)), ((ma 11), .inl (cI, 40, .inl fTS))]) (w1 := [(h0, .inr (11, MO ma sv_thrown sv_length sv_nodes sv_many sv_directories sv_runsFrom sv_runs sv_read sv_wrong sv_isNamed sv_goes sv_goesSize sv_goesAt sv_targetParts sv_isRoot)), ((ma 16), .inl (cJ, 46080, .inr (.inl F)))]) hP hD [0, 1] [2, 3] rfl rfl (by decide +kernel) (by decide +kernel) hk1 hFc hP1 hD1
                  clear hPc hDc hFc hP1 hD1 hk1 hz1 hkc hks
                  generalize H1 = H at hP hS ⊢
                  have hP : va_P D CL [((ma 10), .inl (cB, 8000, .inl fT)), ((ma 11), .inl (cI, 40, .inl fTS)), (h0, .inr (11, MO ma sv_thrown sv_length sv_nodes sv_many sv_directories sv_runsFrom sv_runs sv_read sv_wrong sv_isNamed sv_goes sv_goesSize sv_goesAt sv_targetParts sv_isRoot)), ((ma 16), .inl (cJ, 46080, .inr (.inl F)))] H := hP
                  have hD : va_D A [((ma 10), .inl (cB, 8000, .inl fT)), ((ma 11), .inl (cI, 40, .inl fTS)), (h0, .inr (11, MO ma sv_thrown sv_length sv_nodes sv_many sv_directories sv_runsFrom sv_runs sv_read sv_wrong sv_isNamed sv_goes sv_goesSize sv_goesAt sv_targetParts sv_isRoot)), ((ma 16), .inl (cJ, 46080, .inr (.inl F)))] := hD
                  refine lv_iconst (v := 0) hx hb d_DiscMakerModel_components_200 (by decide) ?_
                  refine lv_istore hx hb d_DiscMakerModel_components_201 hl (by decide) rfl (fun ls hl => ?_)
                  have hl : lv_has ls 10 [(9, .int 0), (8, .int v10), (7, .int jm), (0, .ref h0), (1, .int x), (2, .int (-1)), (3, .int v1), (4, .int al), (5, .int lp), (6, .int lq)] := hl
                  refine zz_labM (B := fun (lk : Nat) (K : Heap → List Loc → Array Slot → List Value → Prop) => ∀ (k9 : Int32) (H : Heap) (locs : List Loc) (ls : Array Slot), lk = (201 - k9.toInt).toNat → (0 ≤ k9.toInt ∧ k9.toInt ≤ 200) → va_P D CL [((ma 10), .inl (cB, 8000, .inl fT)), ((ma 11), .inl (cI, 40, .inl fTS)), (h0, .inr (11, MO ma sv_thrown sv_length sv_nodes sv_many sv_directories sv_runsFrom sv_runs sv_read sv_wrong sv_isNamed sv_goes sv_goesSize sv_goesAt sv_targetParts sv_isRoot)), ((ma 16), .inl (cJ, 46080, .inr (.inl F)))] H → va_D A [((ma 10), .inl (cB, 8000, .inl fT)), ((ma 11), .inl (cI, 40, .inl fTS)), (h0, .inr (11, MO ma sv_thrown sv_length sv_nodes sv_many sv_directories sv_runsFrom sv_runs sv_read sv_wrong sv_isNamed sv_goes sv_goesSize sv_goesAt sv_targetParts sv_isRoot)), ((ma 16), .inl (cJ, 46080, .inr (.inl F)))] → va_S A s.heap H locs → lv_has ls 10 [(0, .ref h0), (1, .int x), (2, .int (-1)), (3, .int v1), (4, .int al), (5, .int lp), (6, .int lq), (7, .int jm), (8, .int v10), (9, .int k9)] → K H locs ls []) 203 ?_ ?_
                  · skip
                    intro lk ih203 k9 H locs ls hm203 f9 hP hD hS hl
                    refine lv_iload hx hb d_DiscMakerModel_components_203 (lv_at hl 9 rfl) ?_
                    refine lv_iload hx hb d_DiscMakerModel_components_205 (lv_at hl 8 rfl) ?_
                    refine lv_icmp_ge (tgt := 249) hx hb d_DiscMakerModel_components_207 (by decide) (fun h_9 => ?_) (fun h_9 => ?_)
                    · skip
                      have g207_100 : v10.toInt ≤ k9.toInt := (i_le rfl rfl).mp h_9
                      refine lv_iload hx hb d_DiscMakerModel_components_249 (lv_at hl 4 rfl) ?_
                      refine lv_iconst (v := 2) hx hb d_DiscMakerModel_components_251 (by decide) ?_
                      refine lv_iload hx hb d_DiscMakerModel_components_252 (lv_at hl 8 rfl) ?_
                      refine lv_iadd hx hb d_DiscMakerModel_components_254 ?_
                      refine lv_topi (fun v13 e_v13 => ?_)
                      have t_v13 : v13.toInt = 2 + v10.toInt := by rw [e_v13]; exact i_add (by decide) rfl (by omega) (by omega)
                      refine lv_iadd hx hb d_DiscMakerModel_components_255 ?_
                      refine lv_topi (fun v14 e_v14 => ?_)
                      have t_v14 : v14.toInt = al.toInt + v13.toInt := by rw [e_v14]; exact i_add rfl rfl (by omega) (by omega)
                      refine lv_istore hx hb d_DiscMakerModel_components_256 hl (by decide) rfl (fun ls hl => ?_)
                      have hl : lv_has ls 10 [(4, .int v14), (0, .ref h0), (1, .int x), (2, .int (-1)), (3, .int v1), (5, .int lp), (6, .int lq), (7, .int jm), (8, .int v10), (9, .int k9)] := hl
                      refine lv_iload hx hb d_DiscMakerModel_components_258 (lv_at hl 6 rfl) ?_
                      refine lv_iconst (v := 1) hx hb d_DiscMakerModel_components_260 (by decide) ?_
                      refine lv_iadd hx hb d_DiscMakerModel_components_261 ?_
                      refine lv_topi (fun v15 e_v15 => ?_)
                      have t_v15 : v15.toInt = lq.toInt + 1 := by rw [e_v15]; exact i_add rfl (by decide) (by omega) (by omega)
                      refine lv_istore hx hb d_DiscMakerModel_components_262 hl (by decide) rfl (fun ls hl => ?_)
                      have hl : lv_has ls 10 [(5, .int v15), (4, .int v14), (0, .ref h0), (1, .int x), (2, .int (-1)), (3, .int v1), (6, .int lq), (7, .int jm), (8, .int v10), (9, .int k9)] := hl
                      refine lv_goto (tgt := 41) hx hb d_DiscMakerModel_components_264 (by decide) ?_
                      have hP := hP.sub (ws' := [(h0, .inr (11, MO ma sv_thrown sv_length sv_nodes sv_many sv_directories sv_runsFrom sv_runs sv_read sv_wrong sv_isNamed sv_goes sv_goesSize sv_goesAt sv_targetParts sv_isRoot)), ((ma 16), .inl (cJ, 46080, .inr (.inl F))), ((ma 10), .inl (cB, 8000, .inl fT)), ((ma 11), .inl (cI, 40, .inl fTS))]) [2, 3, 0, 1] rfl
                      have hD := hD.sub (ws' := [(h0, .inr (11, MO ma sv_thrown sv_length sv_nodes sv_many sv_directories sv_runsFrom sv_runs sv_read sv_wrong sv_isNamed sv_goes sv_goesSize sv_goesAt sv_targetParts sv_isRoot)), ((ma 16), .inl (cJ, 46080, .inr (.inl F))), ((ma 10), .inl (cB, 8000, .inl fT)), ((ma 11), .inl (cI, 40, .inl fTS))]) [2, 3, 0, 1] (by decide +kernel) rfl
                      have hl := lv_sub hl [2, 3, 4, 5, 1, 0] rfl
                      exact ih41 _ (by first | omega | (dsimp only; omega)) v14 v15 _ _ _ rfl ((by (try dsimp only); first | assumption | omega | trivial)) ((by (try dsimp only); first | assumption | omega | trivial)) ((by have h0 := cmL_go (t := (tgF fT x.toNatClampNeg)) (n := (fTS x.toNatClampNeg).toInt.toNat) (p := lp.toNatClampNeg) (all := al.toNatClampNeg) (by omega); have h1 := i_cl (a := v15) (by omega); have h2 := i_cl (a := v14) (by omega); rw [h81, f2] at h0; rw [show v15.toNatClampNeg = lq.toNatClampNeg + 1 by omega, show v14.toNatClampNeg = al.toNatClampNeg + cbF (tgF fT x.toNatClampNeg) lp.toNatClampNeg lq.toNatClampNeg by omega]; exact h0.symm)) hP hD hS hl
                    · skip
                      have g207_100 : ¬ v10.toInt ≤ k9.toInt := fun h8 => h_9 ((i_le rfl rfl).mpr h8)
                      refine lv_iload_n hx hb d_DiscMakerModel_components_210 rfl (lv_at hl 2 rfl) ?_
                      refine lv_if_lt (tgt := 249) hx hb d_DiscMakerModel_components_211 (by decide) (fun _ => ?_) (fun h_9 => absurd (by decide) h_9)
                      refine lv_iload hx hb d_DiscMakerModel_components_249 (lv_at hl 4 rfl) ?_
                      refine lv_iconst (v := 2) hx hb d_DiscMakerModel_components_251 (by decide) ?_
                      refine lv_iload hx hb d_DiscMakerModel_components_252 (lv_at hl 8 rfl) ?_
                      refine lv_iadd hx hb d_DiscMakerModel_components_254 ?_
                      refine lv_topi (fun v16 e_v16 => ?_)
                      have t_v16 : v16.toInt = 2 + v10.toInt := by rw [e_v16]; exact i_add (by decide) rfl (by omega) (by omega)
                      refine lv_iadd hx hb d_DiscMakerModel_components_255 ?_
                      refine lv_topi (fun v17 e_v17 => ?_)
                      have t_v17 : v17.toInt = al.toInt + v16.toInt := by rw [e_v17]; exact i_add rfl rfl (by omega) (by omega)
                      refine lv_istore hx hb d_DiscMakerModel_components_256 hl (by decide) rfl (fun ls hl => ?_)
                      have hl : lv_has ls 10 [(4, .int v17), (0, .ref h0), (1, .int x), (2, .int (-1)), (3, .int v1), (5, .int lp), (6, .int lq), (7, .int jm), (8, .int v10), (9, .int k9)] := hl
                      refine lv_iload hx hb d_DiscMakerModel_components_258 (lv_at hl 6 rfl) ?_
                      refine lv_iconst (v := 1) hx hb d_DiscMakerModel_components_260 (by decide) ?_
                      refine lv_iadd hx hb d_DiscMakerModel_components_261 ?_
                      refine lv_topi (fun v18 e_v18 => ?_)
                      have t_v18 : v18.toInt = lq.toInt + 1 := by rw [e_v18]; exact i_add rfl (by decide) (by omega) (by omega)
                      refine lv_istore hx hb d_DiscMakerModel_components_262 hl (by decide) rfl (fun ls hl => ?_)
                      have hl : lv_has ls 10 [(5, .int v18), (4, .int v17), (0, .ref h0), (1, .int x), (2, .int (-1)), (3, .int v1), (6, .int lq), (7, .int jm), (8, .int v10), (9, .int k9)] := hl
                      refine lv_goto (tgt := 41) hx hb d_DiscMakerModel_components_264 (by decide) ?_
                      have hP := hP.sub (ws' := [(h0, .inr (11, MO ma sv_thrown sv_length sv_nodes sv_many sv_directories sv_runsFrom sv_runs sv_read sv_wrong sv_isNamed sv_goes sv_goesSize sv_goesAt sv_targetParts sv_isRoot)), ((ma 16), .inl (cJ, 46080, .inr (.inl F))), ((ma 10), .inl (cB, 8000, .inl fT)), ((ma 11), .inl (cI, 40, .inl fTS))]) [2, 3, 0, 1] rfl
                      have hD := hD.sub (ws' := [(h0, .inr (11, MO ma sv_thrown sv_length sv_nodes sv_many sv_directories sv_runsFrom sv_runs sv_read sv_wrong sv_isNamed sv_goes sv_goesSize sv_goesAt sv_targetParts sv_isRoot)), ((ma 16), .inl (cJ, 46080, .inr (.inl F))), ((ma 10), .inl (cB, 8000, .inl fT)), ((ma 11), .inl (cI, 40, .inl fTS))]) [2, 3, 0, 1] (by decide +kernel) rfl
                      have hl := lv_sub hl [2, 3, 4, 5, 1, 0] rfl
                      exact ih41 _ (by first | omega | (dsimp only; omega)) v17 v18 _ _ _ rfl ((by (try dsimp only); first | assumption | omega | trivial)) ((by (try dsimp only); first | assumption | omega | trivial)) ((by have h0 := cmL_go (t := (tgF fT x.toNatClampNeg)) (n := (fTS x.toNatClampNeg).toInt.toNat) (p := lp.toNatClampNeg) (all := al.toNatClampNeg) (by omega); have h1 := i_cl (a := v18) (by omega); have h2 := i_cl (a := v17) (by omega); rw [h81, f2] at h0; rw [show v18.toNatClampNeg = lq.toNatClampNeg + 1 by omega, show v17.toNatClampNeg = al.toNatClampNeg + cbF (tgF fT x.toNatClampNeg) lp.toNatClampNeg lq.toNatClampNeg by omega]; exact h0.symm)) hP hD hS hl
                  · skip
                    intro kk203
                    have hP := hP.sub (ws' := [((ma 10), .inl (cB, 8000, .inl fT)), ((ma 11), .inl (cI, 40, .inl fTS)), (h0, .inr (11, MO ma sv_thrown sv_length sv_nodes sv_many sv_directories sv_runsFrom sv_runs sv_read sv_wrong sv_isNamed sv_goes sv_goesSize sv_goesAt sv_targetParts sv_isRoot)), ((ma 16), .inl (cJ, 46080, .inr (.inl F)))]) [0, 1, 2, 3] rfl
                    have hD := hD.sub (ws' := [((ma 10), .inl (cB, 8000, .inl fT)), ((ma 11), .inl (cI, 40, .inl fTS)), (h0, .inr (11, MO ma sv_thrown sv_length sv_nodes sv_many sv_directories sv_runsFrom sv_runs sv_read sv_wrong sv_isNamed sv_goes sv_goesSize sv_goesAt sv_targetParts sv_isRoot)), ((ma 16), .inl (cJ, 46080, .inr (.inl F)))]) [0, 1, 2, 3] (by decide +kernel) rfl
                    have hl := lv_sub hl [3, 4, 5, 6, 7, 8, 9, 2, 1, 0] rfl
                    exact kk203 _ 0 _ _ _ rfl ((by (try dsimp only); first | assumption | omega | trivial)) hP hD hS hl
            · skip
              intro kk164
              have hal9 := cmL_all (tgF fT x.toNatClampNeg) (fTS x.toNatClampNeg).toInt.toNat (lq.toNatClampNeg + 1) (al.toNatClampNeg + cbF (tgF fT x.toNatClampNeg) lp.toNatClampNeg lq.toNatClampNeg)
              have hgo := cmL_go (t := (tgF fT x.toNatClampNeg)) (n := (fTS x.toNatClampNeg).toInt.toNat) (p := lp.toNatClampNeg) (all := al.toNatClampNeg) (by omega)
              rw [h81, f2] at hgo
              have hal8 : al.toNatClampNeg + cbF (tgF fT x.toNatClampNeg) lp.toNatClampNeg lq.toNatClampNeg ≤ 303 := by omega
              refine lv_iload hx hb d_DiscMakerModel_components_83 (lv_at hl 5 rfl) ?_
              refine lv_isub hx hb d_DiscMakerModel_components_85 ?_
              refine lv_topi (fun v19 e_v19 => ?_)
              have t_v19 : v19.toInt = lq.toInt - lp.toInt := by rw [e_v19]; exact i_sub rfl rfl (by omega) (by omega)
              refine lv_iconst (v := 1) hx hb d_DiscMakerModel_components_86 (by decide) ?_
              refine lv_icmp_ne (tgt := 112) hx hb d_DiscMakerModel_components_87 (by decide) (fun h_9 => ?_) (fun h_9 => ?_)
              · skip
                have g87_130 : ¬ v19.toInt = 1 := fun h8 => h_9 ((i_eq rfl (by decide)).mpr h8)
                refine lv_iload hx hb d_DiscMakerModel_components_112 (lv_at hl 6 rfl) ?_
                refine lv_iload hx hb d_DiscMakerModel_components_114 (lv_at hl 5 rfl) ?_
                refine lv_isub hx hb d_DiscMakerModel_components_116 ?_
                refine lv_topi (fun v20 e_v20 => ?_)
                have t_v20 : v20.toInt = lq.toInt - lp.toInt := by rw [e_v20]; exact i_sub rfl rfl (by omega) (by omega)
                refine lv_iconst (v := 2) hx hb d_DiscMakerModel_components_117 (by decide) ?_
                refine lv_icmp_ne (tgt := 163) hx hb d_DiscMakerModel_components_118 (by decide) (fun h_9 => ?_) (fun h_9 => ?_)
                · skip
                  have g118_135 : ¬ v20.toInt = 2 := fun h8 => h_9 ((i_eq rfl (by decide)).mpr h8)
                  refine lv_iconst (v := 0) hx hb d_DiscMakerModel_components_163 (by decide) ?_
                  have hP := hP.sub (ws' := [(h0, .inr (11, MO ma sv_thrown sv_length sv_nodes sv_many sv_directories sv_runsFrom sv_runs sv_read sv_wrong sv_isNamed sv_goes sv_goesSize sv_goesAt sv_targetParts sv_isRoot)), ((ma 16), .inl (cJ, 46080, .inr (.inl F))), ((ma 10), .inl (cB, 8000, .inl fT)), ((ma 11), .inl (cI, 40, .inl fTS))]) [0, 1, 2, 3] rfl
                  have hD := hD.sub (ws' := [(h0, .inr (11, MO ma sv_thrown sv_length sv_nodes sv_many sv_directories sv_runsFrom sv_runs sv_read sv_wrong sv_isNamed sv_goes sv_goesSize sv_goesAt sv_targetParts sv_isRoot)), ((ma 16), .inl (cJ, 46080, .inr (.inl F))), ((ma 10), .inl (cB, 8000, .inl fT)), ((ma 11), .inl (cI, 40, .inl fTS))]) [0, 1, 2, 3] (by decide +kernel) rfl
                  have hl := lv_sub hl [0, 1, 2, 3, 4, 5, 6] rfl
                  exact kk164 _ 0 _ _ _ rfl ((by unfold cbF; split <;> (try split) <;> omega)) hP hD hS hl
                · skip
                  have g118_135 : v20.toInt = 2 := (i_eq rfl (by decide)).mp h_9
                  refine lv_aload_n hx hb d_DiscMakerModel_components_121 rfl (lv_at hl 0 rfl) ?_
                  refine va_get (D := D) (ci := 11) (v := .ref (ma 10)) (C := "DiscMakerModel") (T := F_DiscMakerModel) (N := 48) hx hb ht9 in_DiscMakerModel hown hK hP 0 rfl rfl 13 (by decide) (ht9 _ k1444) (fun _ h9 => h9) rfl d_DiscMakerModel_components_122 ?_
                  refine lv_sipush (v := 200) hx hb d_DiscMakerModel_components_125 (by decide) ?_
                  refine lv_iload_n hx hb d_DiscMakerModel_components_128 rfl (lv_at hl 1 rfl) ?_
                  refine lv_imul hx hb d_DiscMakerModel_components_129 ?_
                  refine lv_topi (fun v21 e_v21 => ?_)
                  have t_v21 : v21.toInt = 200 * x.toInt := by rw [e_v21]; exact i_mul (by decide) rfl (by omega) (by omega)
                  refine lv_iload hx hb d_DiscMakerModel_components_130 (lv_at hl 5 rfl) ?_
                  refine lv_iadd hx hb d_DiscMakerModel_components_132 ?_
                  refine lv_topi (fun v22 e_v22 => ?_)
                  have t_v22 : v22.toInt = v21.toInt + lp.toInt := by rw [e_v22]; exact i_add rfl rfl (by omega) (by omega)
                  refine va_bald hx hb hK hP 2 0 rfl rfl (vp_in_iff.mpr ⟨by omega, by omega⟩) d_DiscMakerModel_components_133 ?_
                  refine lv_topi (fun v23 e_v23 => ?_)
                  have c_v23 := i_cl (a := v22) (by omega)
                  have e2_v23 : v23 = fT (200 * x.toNatClampNeg + lp.toNatClampNeg) := by rw [e_v23, show v22.toNatClampNeg = 200 * x.toNatClampNeg + lp.toNatClampNeg by omega]
                  have qtv23 : (tgF fT x.toNatClampNeg (lp.toNatClampNeg)).toInt = v23.toInt := by unfold tgF; rw [e2_v23]
                  refine lv_bipush (v := 46) hx hb d_DiscMakerModel_components_134 (by decide) ?_
                  refine lv_icmp_ne (tgt := 163) hx hb d_DiscMakerModel_components_136 (by decide) (fun h_9 => ?_) (fun h_9 => ?_)
                  · skip
                    have g136_147 : ¬ v23.toInt = 46 := fun h8 => h_9 ((i_eq rfl (by decide)).mpr h8)
                    refine lv_iconst (v := 0) hx hb d_DiscMakerModel_components_163 (by decide) ?_
                    have hP := hP.sub (ws' := [(h0, .inr (11, MO ma sv_thrown sv_length sv_nodes sv_many sv_directories sv_runsFrom sv_runs sv_read sv_wrong sv_isNamed sv_goes sv_goesSize sv_goesAt sv_targetParts sv_isRoot)), ((ma 16), .inl (cJ, 46080, .inr (.inl F))), ((ma 10), .inl (cB, 8000, .inl fT)), ((ma 11), .inl (cI, 40, .inl fTS))]) [0, 1, 2, 3] rfl
                    have hD := hD.sub (ws' := [(h0, .inr (11, MO ma sv_thrown sv_length sv_nodes sv_many sv_directories sv_runsFrom sv_runs sv_read sv_wrong sv_isNamed sv_goes sv_goesSize sv_goesAt sv_targetParts sv_isRoot)), ((ma 16), .inl (cJ, 46080, .inr (.inl F))), ((ma 10), .inl (cB, 8000, .inl fT)), ((ma 11), .inl (cI, 40, .inl fTS))]) [0, 1, 2, 3] (by decide +kernel) rfl
                    have hl := lv_sub hl [0, 1, 2, 3, 4, 5, 6] rfl
                    exact kk164 _ 0 _ _ _ rfl ((by unfold cbF; split <;> (try split) <;> omega)) hP hD hS hl
                  · skip
                    have g136_147 : v23.toInt = 46 := (i_eq rfl (by decide)).mp h_9
                    refine lv_aload_n hx hb d_DiscMakerModel_components_139 rfl (lv_at hl 0 rfl) ?_
                    refine va_get (D := D) (ci := 11) (v := .ref (ma 10)) (C := "DiscMakerModel") (T := F_DiscMakerModel) (N := 48) hx hb ht9 in_DiscMakerModel hown hK hP 0 rfl rfl 13 (by decide) (ht9 _ k1444) (fun _ h9 => h9) rfl d_DiscMakerModel_components_140 ?_
                    refine lv_sipush (v := 200) hx hb d_DiscMakerModel_components_143 (by decide) ?_
                    refine lv_iload_n hx hb d_DiscMakerModel_components_146 rfl (lv_at hl 1 rfl) ?_
                    refine lv_imul hx hb d_DiscMakerModel_components_147 ?_
                    refine lv_topi (fun v24 e_v24 => ?_)
                    have t_v24 : v24.toInt = 200 * x.toInt := by rw [e_v24]; exact i_mul (by decide) rfl (by omega) (by omega)
                    refine lv_iload hx hb d_DiscMakerModel_components_148 (lv_at hl 5 rfl) ?_
                    refine lv_iadd hx hb d_DiscMakerModel_components_150 ?_
                    refine lv_topi (fun v25 e_v25 => ?_)
                    have t_v25 : v25.toInt = v24.toInt + lp.toInt := by rw [e_v25]; exact i_add rfl rfl (by omega) (by omega)
                    refine lv_iconst (v := 1) hx hb d_DiscMakerModel_components_151 (by decide) ?_
                    refine lv_iadd hx hb d_DiscMakerModel_components_152 ?_
                    refine lv_topi (fun v26 e_v26 => ?_)
                    have t_v26 : v26.toInt = v25.toInt + 1 := by rw [e_v26]; exact i_add rfl (by decide) (by omega) (by omega)
                    refine va_bald hx hb hK hP 2 0 rfl rfl (vp_in_iff.mpr ⟨by omega, by omega⟩) d_DiscMakerModel_components_153 ?_
                    refine lv_topi (fun v27 e_v27 => ?_)
                    have c_v27 := i_cl (a := v26) (by omega)
                    have e2_v27 : v27 = fT (200 * x.toNatClampNeg + (lp.toNatClampNeg + 1)) := by rw [e_v27, show v26.toNatClampNeg = 200 * x.toNatClampNeg + (lp.toNatClampNeg + 1) by omega]
                    have qtv27 : (tgF fT x.toNatClampNeg ((lp.toNatClampNeg + 1))).toInt = v27.toInt := by unfold tgF; rw [e2_v27]
                    refine lv_bipush (v := 46) hx hb d_DiscMakerModel_components_154 (by decide) ?_
                    refine lv_icmp_ne (tgt := 163) hx hb d_DiscMakerModel_components_156 (by decide) (fun h_9 => ?_) (fun h_9 => ?_)
                    · skip
                      have g156_161 : ¬ v27.toInt = 46 := fun h8 => h_9 ((i_eq rfl (by decide)).mpr h8)
                      refine lv_iconst (v := 0) hx hb d_DiscMakerModel_components_163 (by decide) ?_
                      have hP := hP.sub (ws' := [(h0, .inr (11, MO ma sv_thrown sv_length sv_nodes sv_many sv_directories sv_runsFrom sv_runs sv_read sv_wrong sv_isNamed sv_goes sv_goesSize sv_goesAt sv_targetParts sv_isRoot)), ((ma 16), .inl (cJ, 46080, .inr (.inl F))), ((ma 10), .inl (cB, 8000, .inl fT)), ((ma 11), .inl (cI, 40, .inl fTS))]) [0, 1, 2, 3] rfl
                      have hD := hD.sub (ws' := [(h0, .inr (11, MO ma sv_thrown sv_length sv_nodes sv_many sv_directories sv_runsFrom sv_runs sv_read sv_wrong sv_isNamed sv_goes sv_goesSize sv_goesAt sv_targetParts sv_isRoot)), ((ma 16), .inl (cJ, 46080, .inr (.inl F))), ((ma 10), .inl (cB, 8000, .inl fT)), ((ma 11), .inl (cI, 40, .inl fTS))]) [0, 1, 2, 3] (by decide +kernel) rfl
                      have hl := lv_sub hl [0, 1, 2, 3, 4, 5, 6] rfl
                      exact kk164 _ 0 _ _ _ rfl ((by unfold cbF; split <;> (try split) <;> omega)) hP hD hS hl
                    · skip
                      have g156_161 : v27.toInt = 46 := (i_eq rfl (by decide)).mp h_9
                      refine lv_iconst (v := 4) hx hb d_DiscMakerModel_components_159 (by decide) ?_
                      refine lv_goto (tgt := 164) hx hb d_DiscMakerModel_components_160 (by decide) ?_
                      have hP := hP.sub (ws' := [(h0, .inr (11, MO ma sv_thrown sv_length sv_nodes sv_many sv_directories sv_runsFrom sv_runs sv_read sv_wrong sv_isNamed sv_goes sv_goesSize sv_goesAt sv_targetParts sv_isRoot)), ((ma 16), .inl (cJ, 46080, .inr (.inl F))), ((ma 10), .inl (cB, 8000, .inl fT)), ((ma 11), .inl (cI, 40, .inl fTS))]) [0, 1, 2, 3] rfl
                      have hD := hD.sub (ws' := [(h0, .inr (11, MO ma sv_thrown sv_length sv_nodes sv_many sv_directories sv_runsFrom sv_runs sv_read sv_wrong sv_isNamed sv_goes sv_goesSize sv_goesAt sv_targetParts sv_isRoot)), ((ma 16), .inl (cJ, 46080, .inr (.inl F))), ((ma 10), .inl (cB, 8000, .inl fT)), ((ma 11), .inl (cI, 40, .inl fTS))]) [0, 1, 2, 3] (by decide +kernel) rfl
                      have hl := lv_sub hl [0, 1, 2, 3, 4, 5, 6] rfl
                      exact kk164 _ 4 _ _ _ rfl ((by unfold cbF; split <;> (try split) <;> omega)) hP hD hS hl
              · skip
                have g87_130 : v19.toInt = 1 := (i_eq rfl (by decide)).mp h_9
                refine lv_aload_n hx hb d_DiscMakerModel_components_90 rfl (lv_at hl 0 rfl) ?_
                refine va_get (D := D) (ci := 11) (v := .ref (ma 10)) (C := "DiscMakerModel") (T := F_DiscMakerModel) (N := 48) hx hb ht9 in_DiscMakerModel hown hK hP 0 rfl rfl 13 (by decide) (ht9 _ k1444) (fun _ h9 => h9) rfl d_DiscMakerModel_components_91 ?_
                refine lv_sipush (v := 200) hx hb d_DiscMakerModel_components_94 (by decide) ?_
                refine lv_iload_n hx hb d_DiscMakerModel_components_97 rfl (lv_at hl 1 rfl) ?_
                refine lv_imul hx hb d_DiscMakerModel_components_98 ?_
                refine lv_topi (fun v28 e_v28 => ?_)
                have t_v28 : v28.toInt = 200 * x.toInt := by rw [e_v28]; exact i_mul (by decide) rfl (by omega) (by omega)
                refine lv_iload hx hb d_DiscMakerModel_components_99 (lv_at hl 5 rfl) ?_
                refine lv_iadd hx hb d_DiscMakerModel_components_101 ?_
                refine lv_topi (fun v29 e_v29 => ?_)
                have t_v29 : v29.toInt = v28.toInt + lp.toInt := by rw [e_v29]; exact i_add rfl rfl (by omega) (by omega)
                refine va_bald hx hb hK hP 2 0 rfl rfl (vp_in_iff.mpr ⟨by omega, by omega⟩) d_DiscMakerModel_components_102 ?_
                refine lv_topi (fun v30 e_v30 => ?_)
                have c_v30 := i_cl (a := v29) (by omega)
                have e2_v30 : v30 = fT (200 * x.toNatClampNeg + lp.toNatClampNeg) := by rw [e_v30, show v29.toNatClampNeg = 200 * x.toNatClampNeg + lp.toNatClampNeg by omega]
                have qtv30 : (tgF fT x.toNatClampNeg (lp.toNatClampNeg)).toInt = v30.toInt := by unfold tgF; rw [e2_v30]
                refine lv_bipush (v := 46) hx hb d_DiscMakerModel_components_103 (by decide) ?_
                refine lv_icmp_ne (tgt := 112) hx hb d_DiscMakerModel_components_105 (by decide) (fun h_9 => ?_) (fun h_9 => ?_)
                · skip
                  have g105_176 : ¬ v30.toInt = 46 := fun h8 => h_9 ((i_eq rfl (by decide)).mpr h8)
                  refine lv_iload hx hb d_DiscMakerModel_components_112 (lv_at hl 6 rfl) ?_
                  refine lv_iload hx hb d_DiscMakerModel_components_114 (lv_at hl 5 rfl) ?_
                  refine lv_isub hx hb d_DiscMakerModel_components_116 ?_
                  refine lv_topi (fun v31 e_v31 => ?_)
                  have t_v31 : v31.toInt = lq.toInt - lp.toInt := by rw [e_v31]; exact i_sub rfl rfl (by omega) (by omega)
                  refine lv_iconst (v := 2) hx hb d_DiscMakerModel_components_117 (by decide) ?_
                  refine lv_icmp_ne (tgt := 163) hx hb d_DiscMakerModel_components_118 (by decide) (fun h_9 => ?_) (fun h_9 => ?_)
                  · skip
                    have g118_181 : ¬ v31.toInt = 2 := fun h8 => h_9 ((i_eq rfl (by decide)).mpr h8)
                    refine lv_iconst (v := 0) hx hb d_DiscMakerModel_components_163 (by decide) ?_
                    have hP := hP.sub (ws' := [(h0, .inr (11, MO ma sv_thrown sv_length sv_nodes sv_many sv_directories sv_runsFrom sv_runs sv_read sv_wrong sv_isNamed sv_goes sv_goesSize sv_goesAt sv_targetParts sv_isRoot)), ((ma 16), .inl (cJ, 46080, .inr (.inl F))), ((ma 10), .inl (cB, 8000, .inl fT)), ((ma 11), .inl (cI, 40, .inl fTS))]) [0, 1, 2, 3] rfl
                    have hD := hD.sub (ws' := [(h0, .inr (11, MO ma sv_thrown sv_length sv_nodes sv_many sv_directories sv_runsFrom sv_runs sv_read sv_wrong sv_isNamed sv_goes sv_goesSize sv_goesAt sv_targetParts sv_isRoot)), ((ma 16), .inl (cJ, 46080, .inr (.inl F))), ((ma 10), .inl (cB, 8000, .inl fT)), ((ma 11), .inl (cI, 40, .inl fTS))]) [0, 1, 2, 3] (by decide +kernel) rfl
                    have hl := lv_sub hl [0, 1, 2, 3, 4, 5, 6] rfl
                    exact kk164 _ 0 _ _ _ rfl ((by unfold cbF; split <;> (try split) <;> omega)) hP hD hS hl
                  · skip
                    have g118_181 : v31.toInt = 2 := (i_eq rfl (by decide)).mp h_9
                    refine lv_aload_n hx hb d_DiscMakerModel_components_121 rfl (lv_at hl 0 rfl) ?_
                    refine va_get (D := D) (ci := 11) (v := .ref (ma 10)) (C := "DiscMakerModel") (T := F_DiscMakerModel) (N := 48) hx hb ht9 in_DiscMakerModel hown hK hP 0 rfl rfl 13 (by decide) (ht9 _ k1444) (fun _ h9 => h9) rfl d_DiscMakerModel_components_122 ?_
                    refine lv_sipush (v := 200) hx hb d_DiscMakerModel_components_125 (by decide) ?_
                    refine lv_iload_n hx hb d_DiscMakerModel_components_128 rfl (lv_at hl 1 rfl) ?_
                    refine lv_imul hx hb d_DiscMakerModel_components_129 ?_
                    refine lv_topi (fun v32 e_v32 => ?_)
                    have t_v32 : v32.toInt = 200 * x.toInt := by rw [e_v32]; exact i_mul (by decide) rfl (by omega) (by omega)
                    refine lv_iload hx hb d_DiscMakerModel_components_130 (lv_at hl 5 rfl) ?_
                    refine lv_iadd hx hb d_DiscMakerModel_components_132 ?_
                    refine lv_topi (fun v33 e_v33 => ?_)
                    have t_v33 : v33.toInt = v32.toInt + lp.toInt := by rw [e_v33]; exact i_add rfl rfl (by omega) (by omega)
                    refine va_bald hx hb hK hP 2 0 rfl rfl (vp_in_iff.mpr ⟨by omega, by omega⟩) d_DiscMakerModel_components_133 ?_
                    refine lv_topi (fun v34 e_v34 => ?_)
                    have c_v34 := i_cl (a := v33) (by omega)
                    have e2_v34 : v34 = fT (200 * x.toNatClampNeg + lp.toNatClampNeg) := by rw [e_v34, show v33.toNatClampNeg = 200 * x.toNatClampNeg + lp.toNatClampNeg by omega]
                    have qtv34 : (tgF fT x.toNatClampNeg (lp.toNatClampNeg)).toInt = v34.toInt := by unfold tgF; rw [e2_v34]
                    refine lv_bipush (v := 46) hx hb d_DiscMakerModel_components_134 (by decide) ?_
                    refine lv_icmp_ne (tgt := 163) hx hb d_DiscMakerModel_components_136 (by decide) (fun h_9 => ?_) (fun h_9 => ?_)
                    · skip
                      have g136_193 : ¬ v34.toInt = 46 := fun h8 => h_9 ((i_eq rfl (by decide)).mpr h8)
                      refine lv_iconst (v := 0) hx hb d_DiscMakerModel_components_163 (by decide) ?_
                      have hP := hP.sub (ws' := [(h0, .inr (11, MO ma sv_thrown sv_length sv_nodes sv_many sv_directories sv_runsFrom sv_runs sv_read sv_wrong sv_isNamed sv_goes sv_goesSize sv_goesAt sv_targetParts sv_isRoot)), ((ma 16), .inl (cJ, 46080, .inr (.inl F))), ((ma 10), .inl (cB, 8000, .inl fT)), ((ma 11), .inl (cI, 40, .inl fTS))]) [0, 1, 2, 3] rfl
                      have hD := hD.sub (ws' := [(h0, .inr (11, MO ma sv_thrown sv_length sv_nodes sv_many sv_directories sv_runsFrom sv_runs sv_read sv_wrong sv_isNamed sv_goes sv_goesSize sv_goesAt sv_targetParts sv_isRoot)), ((ma 16), .inl (cJ, 46080, .inr (.inl F))), ((ma 10), .inl (cB, 8000, .inl fT)), ((ma 11), .inl (cI, 40, .inl fTS))]) [0, 1, 2, 3] (by decide +kernel) rfl
                      have hl := lv_sub hl [0, 1, 2, 3, 4, 5, 6] rfl
                      exact kk164 _ 0 _ _ _ rfl ((by unfold cbF; split <;> (try split) <;> omega)) hP hD hS hl
                    · skip
                      have g136_193 : v34.toInt = 46 := (i_eq rfl (by decide)).mp h_9
                      refine lv_aload_n hx hb d_DiscMakerModel_components_139 rfl (lv_at hl 0 rfl) ?_
                      refine va_get (D := D) (ci := 11) (v := .ref (ma 10)) (C := "DiscMakerModel") (T := F_DiscMakerModel) (N := 48) hx hb ht9 in_DiscMakerModel hown hK hP 0 rfl rfl 13 (by decide) (ht9 _ k1444) (fun _ h9 => h9) rfl d_DiscMakerModel_components_140 ?_
                      refine lv_sipush (v := 200) hx hb d_DiscMakerModel_components_143 (by decide) ?_
                      refine lv_iload_n hx hb d_DiscMakerModel_components_146 rfl (lv_at hl 1 rfl) ?_
                      refine lv_imul hx hb d_DiscMakerModel_components_147 ?_
                      refine lv_topi (fun v35 e_v35 => ?_)
                      have t_v35 : v35.toInt = 200 * x.toInt := by rw [e_v35]; exact i_mul (by decide) rfl (by omega) (by omega)
                      refine lv_iload hx hb d_DiscMakerModel_components_148 (lv_at hl 5 rfl) ?_
                      refine lv_iadd hx hb d_DiscMakerModel_components_150 ?_
                      refine lv_topi (fun v36 e_v36 => ?_)
                      have t_v36 : v36.toInt = v35.toInt + lp.toInt := by rw [e_v36]; exact i_add rfl rfl (by omega) (by omega)
                      refine lv_iconst (v := 1) hx hb d_DiscMakerModel_components_151 (by decide) ?_
                      refine lv_iadd hx hb d_DiscMakerModel_components_152 ?_
                      refine lv_topi (fun v37 e_v37 => ?_)
                      have t_v37 : v37.toInt = v36.toInt + 1 := by rw [e_v37]; exact i_add rfl (by decide) (by omega) (by omega)
                      refine va_bald hx hb hK hP 2 0 rfl rfl (vp_in_iff.mpr ⟨by omega, by omega⟩) d_DiscMakerModel_components_153 ?_
                      refine lv_topi (fun v38 e_v38 => ?_)
                      have c_v38 := i_cl (a := v37) (by omega)
                      have e2_v38 : v38 = fT (200 * x.toNatClampNeg + (lp.toNatClampNeg + 1)) := by rw [e_v38, show v37.toNatClampNeg = 200 * x.toNatClampNeg + (lp.toNatClampNeg + 1) by omega]
                      have qtv38 : (tgF fT x.toNatClampNeg ((lp.toNatClampNeg + 1))).toInt = v38.toInt := by unfold tgF; rw [e2_v38]
                      refine lv_bipush (v := 46) hx hb d_DiscMakerModel_components_154 (by decide) ?_
                      refine lv_icmp_ne (tgt := 163) hx hb d_DiscMakerModel_components_156 (by decide) (fun h_9 => ?_) (fun h_9 => ?_)
                      · skip
                        have g156_207 : ¬ v38.toInt = 46 := fun h8 => h_9 ((i_eq rfl (by decide)).mpr h8)
                        refine lv_iconst (v := 0) hx hb d_DiscMakerModel_components_163 (by decide) ?_
                        have hP := hP.sub (ws' := [(h0, .inr (11, MO ma sv_thrown sv_length sv_nodes sv_many sv_directories sv_runsFrom sv_runs sv_read sv_wrong sv_isNamed sv_goes sv_goesSize sv_goesAt sv_targetParts sv_isRoot)), ((ma 16), .inl (cJ, 46080, .inr (.inl F))), ((ma 10), .inl (cB, 8000, .inl fT)), ((ma 11), .inl (cI, 40, .inl fTS))]) [0, 1, 2, 3] rfl
                        have hD := hD.sub (ws' := [(h0, .inr (11, MO ma sv_thrown sv_length sv_nodes sv_many sv_directories sv_runsFrom sv_runs sv_read sv_wrong sv_isNamed sv_goes sv_goesSize sv_goesAt sv_targetParts sv_isRoot)), ((ma 16), .inl (cJ, 46080, .inr (.inl F))), ((ma 10), .inl (cB, 8000, .inl fT)), ((ma 11), .inl (cI, 40, .inl fTS))]) [0, 1, 2, 3] (by decide +kernel) rfl
                        have hl := lv_sub hl [0, 1, 2, 3, 4, 5, 6] rfl
                        exact kk164 _ 0 _ _ _ rfl ((by unfold cbF; split <;> (try split) <;> omega)) hP hD hS hl
                      · skip
                        have g156_207 : v38.toInt = 46 := (i_eq rfl (by decide)).mp h_9
                        refine lv_iconst (v := 4) hx hb d_DiscMakerModel_components_159 (by decide) ?_
                        refine lv_goto (tgt := 164) hx hb d_DiscMakerModel_components_160 (by decide) ?_
                        have hP := hP.sub (ws' := [(h0, .inr (11, MO ma sv_thrown sv_length sv_nodes sv_many sv_directories sv_runsFrom sv_runs sv_read sv_wrong sv_isNamed sv_goes sv_goesSize sv_goesAt sv_targetParts sv_isRoot)), ((ma 16), .inl (cJ, 46080, .inr (.inl F))), ((ma 10), .inl (cB, 8000, .inl fT)), ((ma 11), .inl (cI, 40, .inl fTS))]) [0, 1, 2, 3] rfl
                        have hD := hD.sub (ws' := [(h0, .inr (11, MO ma sv_thrown sv_length sv_nodes sv_many sv_directories sv_runsFrom sv_runs sv_read sv_wrong sv_isNamed sv_goes sv_goesSize sv_goesAt sv_targetParts sv_isRoot)), ((ma 16), .inl (cJ, 46080, .inr (.inl F))), ((ma 10), .inl (cB, 8000, .inl fT)), ((ma 11), .inl (cI, 40, .inl fTS))]) [0, 1, 2, 3] (by decide +kernel) rfl
                        have hl := lv_sub hl [0, 1, 2, 3, 4, 5, 6] rfl
                        exact kk164 _ 4 _ _ _ rfl ((by unfold cbF; split <;> (try split) <;> omega)) hP hD hS hl
                · skip
                  have g105_176 : v30.toInt = 46 := (i_eq rfl (by decide)).mp h_9
                  refine lv_iconst (v := 2) hx hb d_DiscMakerModel_components_108 (by decide) ?_
                  refine lv_goto (tgt := 164) hx hb d_DiscMakerModel_components_109 (by decide) ?_
                  have hP := hP.sub (ws' := [(h0, .inr (11, MO ma sv_thrown sv_length sv_nodes sv_many sv_directories sv_runsFrom sv_runs sv_read sv_wrong sv_isNamed sv_goes sv_goesSize sv_goesAt sv_targetParts sv_isRoot)), ((ma 16), .inl (cJ, 46080, .inr (.inl F))), ((ma 10), .inl (cB, 8000, .inl fT)), ((ma 11), .inl (cI, 40, .inl fTS))]) [0, 1, 2, 3] rfl
                  have hD := hD.sub (ws' := [(h0, .inr (11, MO ma sv_thrown sv_length sv_nodes sv_many sv_directories sv_runsFrom sv_runs sv_read sv_wrong sv_isNamed sv_goes sv_goesSize sv_goesAt sv_targetParts sv_isRoot)), ((ma 16), .inl (cJ, 46080, .inr (.inl F))), ((ma 10), .inl (cB, 8000, .inl fT)), ((ma 11), .inl (cI, 40, .inl fTS))]) [0, 1, 2, 3] (by decide +kernel) rfl
                  have hl := lv_sub hl [0, 1, 2, 3, 4, 5, 6] rfl
                  exact kk164 _ 2 _ _ _ rfl ((by unfold cbF; split <;> (try split) <;> omega)) hP hD hS hl
          · skip
            intro kk81
            refine lv_iload_n hx hb d_DiscMakerModel_components_53 rfl (lv_at hl 3 rfl) ?_
            refine lv_icmp_ge (tgt := 81) hx hb d_DiscMakerModel_components_54 (by decide) (fun h_9 => ?_) (fun h_9 => ?_)
            · skip
              have g54_217 : v1.toInt ≤ lq.toInt := (i_le rfl rfl).mp h_9
              have hP := hP.sub (ws' := [(h0, .inr (11, MO ma sv_thrown sv_length sv_nodes sv_many sv_directories sv_runsFrom sv_runs sv_read sv_wrong sv_isNamed sv_goes sv_goesSize sv_goesAt sv_targetParts sv_isRoot)), ((ma 16), .inl (cJ, 46080, .inr (.inl F))), ((ma 10), .inl (cB, 8000, .inl fT)), ((ma 11), .inl (cI, 40, .inl fTS))]) [0, 1, 2, 3] rfl
              have hD := hD.sub (ws' := [(h0, .inr (11, MO ma sv_thrown sv_length sv_nodes sv_many sv_directories sv_runsFrom sv_runs sv_read sv_wrong sv_isNamed sv_goes sv_goesSize sv_goesAt sv_targetParts sv_isRoot)), ((ma 16), .inl (cJ, 46080, .inr (.inl F))), ((ma 10), .inl (cB, 8000, .inl fT)), ((ma 11), .inl (cI, 40, .inl fTS))]) [0, 1, 2, 3] (by decide +kernel) rfl
              have hl := lv_sub hl [0, 1, 2, 3, 4, 5, 6] rfl
              exact kk81 _  _ _ _ rfl ((by rw [← g2]; exact nxS_end (by first | exact Or.inl (by omega) | exact Or.inr (by omega)))) hP hD hS hl
            · skip
              have g54_217 : ¬ v1.toInt ≤ lq.toInt := fun h8 => h_9 ((i_le rfl rfl).mpr h8)
              refine lv_aload_n hx hb d_DiscMakerModel_components_57 rfl (lv_at hl 0 rfl) ?_
              refine va_get (D := D) (ci := 11) (v := .ref (ma 10)) (C := "DiscMakerModel") (T := F_DiscMakerModel) (N := 48) hx hb ht9 in_DiscMakerModel hown hK hP 0 rfl rfl 13 (by decide) (ht9 _ k1444) (fun _ h9 => h9) rfl d_DiscMakerModel_components_58 ?_
              refine lv_sipush (v := 200) hx hb d_DiscMakerModel_components_61 (by decide) ?_
              refine lv_iload_n hx hb d_DiscMakerModel_components_64 rfl (lv_at hl 1 rfl) ?_
              refine lv_imul hx hb d_DiscMakerModel_components_65 ?_
              refine lv_topi (fun v39 e_v39 => ?_)
              have t_v39 : v39.toInt = 200 * x.toInt := by rw [e_v39]; exact i_mul (by decide) rfl (by omega) (by omega)
              refine lv_iload hx hb d_DiscMakerModel_components_66 (lv_at hl 6 rfl) ?_
              refine lv_iadd hx hb d_DiscMakerModel_components_68 ?_
              refine lv_topi (fun v40 e_v40 => ?_)
              have t_v40 : v40.toInt = v39.toInt + lq.toInt := by rw [e_v40]; exact i_add rfl rfl (by omega) (by omega)
              refine va_bald hx hb hK hP 2 0 rfl rfl (vp_in_iff.mpr ⟨by omega, by omega⟩) d_DiscMakerModel_components_69 ?_
              refine lv_topi (fun v41 e_v41 => ?_)
              have c_v41 := i_cl (a := v40) (by omega)
              have e2_v41 : v41 = fT (200 * x.toNatClampNeg + lq.toNatClampNeg) := by rw [e_v41, show v40.toNatClampNeg = 200 * x.toNatClampNeg + lq.toNatClampNeg by omega]
              have qtv41 : (tgF fT x.toNatClampNeg (lq.toNatClampNeg)).toInt = v41.toInt := by unfold tgF; rw [e2_v41]
              refine lv_bipush (v := 47) hx hb d_DiscMakerModel_components_70 (by decide) ?_
              refine lv_icmp_eq (tgt := 81) hx hb d_DiscMakerModel_components_72 (by decide) (fun h_9 => ?_) (fun h_9 => ?_)
              · skip
                have g72_228 : v41.toInt = 47 := (i_eq rfl (by decide)).mp h_9
                have hP := hP.sub (ws' := [(h0, .inr (11, MO ma sv_thrown sv_length sv_nodes sv_many sv_directories sv_runsFrom sv_runs sv_read sv_wrong sv_isNamed sv_goes sv_goesSize sv_goesAt sv_targetParts sv_isRoot)), ((ma 16), .inl (cJ, 46080, .inr (.inl F))), ((ma 10), .inl (cB, 8000, .inl fT)), ((ma 11), .inl (cI, 40, .inl fTS))]) [0, 1, 2, 3] rfl
                have hD := hD.sub (ws' := [(h0, .inr (11, MO ma sv_thrown sv_length sv_nodes sv_many sv_directories sv_runsFrom sv_runs sv_read sv_wrong sv_isNamed sv_goes sv_goesSize sv_goesAt sv_targetParts sv_isRoot)), ((ma 16), .inl (cJ, 46080, .inr (.inl F))), ((ma 10), .inl (cB, 8000, .inl fT)), ((ma 11), .inl (cI, 40, .inl fTS))]) [0, 1, 2, 3] (by decide +kernel) rfl
                have hl := lv_sub hl [0, 1, 2, 3, 4, 5, 6] rfl
                exact kk81 _  _ _ _ rfl ((by rw [← g2]; exact nxS_end (by first | exact Or.inl (by omega) | exact Or.inr (by omega)))) hP hD hS hl
              · skip
                have g72_228 : ¬ v41.toInt = 47 := fun h8 => h_9 ((i_eq rfl (by decide)).mpr h8)
                obtain ⟨v42, e_v42⟩ : ∃ z : Int32, z = lq + 1 := ⟨_, rfl⟩
                refine lv_iinc (v := v42) hx hb d_DiscMakerModel_components_75 hl (k := 6) rfl e_v42.symm (by decide +kernel) rfl (fun ls hl => ?_)
                have t_v42 : v42.toInt = lq.toInt + 1 := by rw [e_v42]; exact i_add rfl (by decide) (by omega) (by omega)
                have hl : lv_has ls 10 [(6, .int v42), (0, .ref h0), (1, .int x), (2, .int (-1)), (3, .int v1), (4, .int al), (5, .int lp)] := hl
                refine lv_goto (tgt := 51) hx hb d_DiscMakerModel_components_78 (by decide) ?_
                have hP := hP.sub (ws' := [(h0, .inr (11, MO ma sv_thrown sv_length sv_nodes sv_many sv_directories sv_runsFrom sv_runs sv_read sv_wrong sv_isNamed sv_goes sv_goesSize sv_goesAt sv_targetParts sv_isRoot)), ((ma 16), .inl (cJ, 46080, .inr (.inl F))), ((ma 10), .inl (cB, 8000, .inl fT)), ((ma 11), .inl (cI, 40, .inl fTS))]) [0, 1, 2, 3] rfl
                have hD := hD.sub (ws' := [(h0, .inr (11, MO ma sv_thrown sv_length sv_nodes sv_many sv_directories sv_runsFrom sv_runs sv_read sv_wrong sv_isNamed sv_goes sv_goesSize sv_goesAt sv_targetParts sv_isRoot)), ((ma 16), .inl (cJ, 46080, .inr (.inl F))), ((ma 10), .inl (cB, 8000, .inl fT)), ((ma 11), .inl (cI, 40, .inl fTS))]) [0, 1, 2, 3] (by decide +kernel) rfl
                have hl := lv_sub hl [1, 2, 3, 4, 5, 6, 0] rfl
                exact ih51 _ (by first | omega | (dsimp only; omega)) v42 _ _ _ rfl ((by (try dsimp only); first | assumption | omega | trivial)) ((by have h1 := i_cl (a := v42) (by omega); rw [show v42.toNatClampNeg = lq.toNatClampNeg + 1 by omega, ← nxS_go (by omega) (by omega)]; exact g2)) hP hD hS hl
        · skip
          intro kk51
          have hP := hP.sub (ws' := [(h0, .inr (11, MO ma sv_thrown sv_length sv_nodes sv_many sv_directories sv_runsFrom sv_runs sv_read sv_wrong sv_isNamed sv_goes sv_goesSize sv_goesAt sv_targetParts sv_isRoot)), ((ma 16), .inl (cJ, 46080, .inr (.inl F))), ((ma 10), .inl (cB, 8000, .inl fT)), ((ma 11), .inl (cI, 40, .inl fTS))]) [0, 1, 2, 3] rfl
          have hD := hD.sub (ws' := [(h0, .inr (11, MO ma sv_thrown sv_length sv_nodes sv_many sv_directories sv_runsFrom sv_runs sv_read sv_wrong sv_isNamed sv_goes sv_goesSize sv_goesAt sv_targetParts sv_isRoot)), ((ma 16), .inl (cJ, 46080, .inr (.inl F))), ((ma 10), .inl (cB, 8000, .inl fT)), ((ma 11), .inl (cI, 40, .inl fTS))]) [0, 1, 2, 3] (by decide +kernel) rfl
          have hl := lv_sub hl [1, 2, 3, 4, 5, 6, 0] rfl
          exact kk51 _ lp _ _ _ rfl ((by (try dsimp only); first | assumption | omega | trivial)) (rfl) hP hD hS hl
    · skip
      intro kk41
      have hP := hP.sub (ws' := [(h0, .inr (11, MO ma sv_thrown sv_length sv_nodes sv_many sv_directories sv_runsFrom sv_runs sv_read sv_wrong sv_isNamed sv_goes sv_goesSize sv_goesAt sv_targetParts sv_isRoot)), ((ma 16), .inl (cJ, 46080, .inr (.inl F))), ((ma 10), .inl (cB, 8000, .inl fT)), ((ma 11), .inl (cI, 40, .inl fTS))]) [0, 1, 2, 3] rfl
      have hD := hD.sub (ws' := [(h0, .inr (11, MO ma sv_thrown sv_length sv_nodes sv_many sv_directories sv_runsFrom sv_runs sv_read sv_wrong sv_isNamed sv_goes sv_goesSize sv_goesAt sv_targetParts sv_isRoot)), ((ma 16), .inl (cJ, 46080, .inr (.inl F))), ((ma 10), .inl (cB, 8000, .inl fT)), ((ma 11), .inl (cI, 40, .inl fTS))]) [0, 1, 2, 3] (by decide +kernel) rfl
      have hl := lv_sub hl [1, 2, 3, 4, 5, 0] rfl
      exact kk41 _ aj 0 _ _ _ rfl ((by (try dsimp only); first | assumption | omega | trivial)) ((by (try dsimp only); first | assumption | omega | trivial)) ((by rw [show (0 : Int32).toNatClampNeg = 0 by decide]; exact fj)) hP hD hS hl
  · skip
    intro kk38
    refine lv_bipush (v := 47) hx hb d_DiscMakerModel_components_20 (by decide) ?_
    refine lv_icmp_ne (tgt := 38) hx hb d_DiscMakerModel_components_22 (by decide) (fun h_9 => ?_) (fun h_9 => ?_)
    · skip
      have g22_234 : ¬ v3.toInt = 47 := fun h8 => h_9 ((i_eq rfl (by decide)).mpr h8)
      have hP := hP.sub (ws' := [(h0, .inr (11, MO ma sv_thrown sv_length sv_nodes sv_many sv_directories sv_runsFrom sv_runs sv_read sv_wrong sv_isNamed sv_goes sv_goesSize sv_goesAt sv_targetParts sv_isRoot)), ((ma 16), .inl (cJ, 46080, .inr (.inl F))), ((ma 10), .inl (cB, 8000, .inl fT)), ((ma 11), .inl (cI, 40, .inl fTS))]) [0, 1, 2, 3] rfl
      have hD := hD.sub (ws' := [(h0, .inr (11, MO ma sv_thrown sv_length sv_nodes sv_many sv_directories sv_runsFrom sv_runs sv_read sv_wrong sv_isNamed sv_goes sv_goesSize sv_goesAt sv_targetParts sv_isRoot)), ((ma 16), .inl (cJ, 46080, .inr (.inl F))), ((ma 10), .inl (cB, 8000, .inl fT)), ((ma 11), .inl (cI, 40, .inl fTS))]) [0, 1, 2, 3] (by decide +kernel) rfl
      have hl := lv_sub hl [2, 3, 4, 1, 0] rfl
      exact kk38 _ 0 _ _ _ rfl ((by (try dsimp only); first | assumption | omega | trivial)) ((by unfold cmF; rw [if_neg (by omega)]; rfl)) hP hD hS hl
    · skip
      have g22_234 : v3.toInt = 47 := (i_eq rfl (by decide)).mp h_9
      refine lv_aload_n hx hb d_DiscMakerModel_components_25 rfl (lv_at hl 2 rfl) ?_
      refine lv_iload_n hx hb d_DiscMakerModel_components_26 rfl (lv_at hl 4 rfl) ?_
      refine lv_iload hx hb d_DiscMakerModel_components_27 (lv_at hl 0 rfl) ?_
      refine lv_bipush (v := 8) hx hb d_DiscMakerModel_components_29 (by decide) ?_
      refine lv_iconst (v := 0) hx hb d_DiscMakerModel_components_31 (by decide) ?_
      have hPc := hP.sub (ws' := [(h0, .inr (11, MO ma sv_thrown sv_length sv_nodes sv_many sv_directories sv_runsFrom sv_runs sv_read sv_wrong sv_isNamed sv_goes sv_goesSize sv_goesAt sv_targetParts sv_isRoot)), ((ma 16), .inl (cJ, 46080, .inr (.inl F)))]) [0, 1] rfl
      have hDc := hD.sub (ws' := [(h0, .inr (11, MO ma sv_thrown sv_length sv_nodes sv_many sv_directories sv_runsFrom sv_runs sv_read sv_wrong sv_isNamed sv_goes sv_goesSize sv_goesAt sv_targetParts sv_isRoot)), ((ma 16), .inl (cJ, 46080, .inr (.inl F)))]) [0, 1] (by decide +kernel) rfl
      have hFc := va_free (wc := [(h0, .inr (11, MO ma sv_thrown sv_length sv_nodes sv_many sv_directories sv_runsFrom sv_runs sv_read sv_wrong sv_isNamed sv_goes sv_goesSize sv_goesAt sv_targetParts sv_isRoot)), ((ma 16), .inl (cJ, 46080, .inr (.inl F)))]) hD hS hA [0, 1] rfl
      have hkc : 0 ≤ 0 := by decide
      have hks : 0 ≤ 0 := by decide
      refine va_callv (va_runV (C := "DiscMakerModel") (As := [.int (-1), .int 0, .int 8, .int 0]) (rest := []) ⟨hx, hb, hml, hown, hts⟩ (m_mark0 l D cB cI cJ cZ cN cF s.heap.size h0 ma sv_thrown sv_length sv_nodes sv_many sv_directories sv_runsFrom sv_runs sv_read sv_wrong sv_isNamed sv_goes sv_goesSize sv_goesAt sv_targetParts sv_isRoot F 0 8 0) (cwV 4 hts (lg_goodV k1723 k1725 k78 k125 kc_DiscMakerModel_mark) rfl rfl rfl (by decide +kernel) ⟨Nat.le_of_ble_eq_true rfl, Nat.le_of_ble_eq_true rfl⟩) ⟨fun a U g mk q => by obtain ⟨q0, q1, qP, qK, qN, qD⟩ := q; exact ⟨q0, q1, qP, va_K.moved (u := U) (U := U.calling g mk a) (Vm.Alike.refl U.vm) qK, qN.calling, qD⟩, va_recv hK hP (ci := 11) (q0 := 0) rfl rfl, fun U hU hW => ⟨rfl, by rw [hU], by rw [hU]; exact hPc, va_K.moved hW.alike hK, NN.warm hW hN, hDc.weaken (fun _ _ _ _ => trivial)⟩⟩ rfl rfl hl.1 rfl (lv_room (Nat.le_of_ble_eq_true rfl)) d_DiscMakerModel_components_32 ⟨hkc, hks⟩) hS (fun q _ h => hFc q h) hFc (fun u t H1 locs ht hvm hp_r43 hB hz1 hk1 hS => ?_)
      obtain ⟨hP1, hD1⟩ := hB
      rw [ht] at hP1
      obtain ⟨hP, hD⟩ := va_join (wr := [((ma 10), .inl (cB, 8000, .inl fT)), ((ma 11), .inl (cI, 40, .inl fTS))]) (w1 := [(h0, .inr (11, MO ma sv_thrown sv_length sv_nodes sv_many sv_directories sv_runsFrom sv_runs sv_read sv_wrong sv_isNamed sv_goes sv_goesSize sv_goesAt sv_targetParts sv_isRoot)), ((ma 16), .inl (cJ, 46080, .inr (.inl F)))]) hP hD [0, 1] [2, 3] rfl rfl (by decide +kernel) (by decide +kernel) hk1 hFc hP1 hD1
      clear hPc hDc hFc hP1 hD1 hk1 hz1 hkc hks
      generalize H1 = H at hP hS ⊢
      have hP : va_P D CL [((ma 10), .inl (cB, 8000, .inl fT)), ((ma 11), .inl (cI, 40, .inl fTS)), (h0, .inr (11, MO ma sv_thrown sv_length sv_nodes sv_many sv_directories sv_runsFrom sv_runs sv_read sv_wrong sv_isNamed sv_goes sv_goesSize sv_goesAt sv_targetParts sv_isRoot)), ((ma 16), .inl (cJ, 46080, .inr (.inl F)))] H := hP
      have hD : va_D A [((ma 10), .inl (cB, 8000, .inl fT)), ((ma 11), .inl (cI, 40, .inl fTS)), (h0, .inr (11, MO ma sv_thrown sv_length sv_nodes sv_many sv_directories sv_runsFrom sv_runs sv_read sv_wrong sv_isNamed sv_goes sv_goesSize sv_goesAt sv_targetParts sv_isRoot)), ((ma 16), .inl (cJ, 46080, .inr (.inl F)))] := hD
      refine lv_iinc (v := 2) hx hb d_DiscMakerModel_components_35 hl (k := 0) rfl (by decide) (by decide +kernel) rfl (fun ls hl => ?_)
      have hl : lv_has ls 10 [(4, .int 2), (3, .int v1), (0, .ref h0), (1, .int x), (2, .int (-1))] := hl
      have hP := hP.sub (ws' := [(h0, .inr (11, MO ma sv_thrown sv_length sv_nodes sv_many sv_directories sv_runsFrom sv_runs sv_read sv_wrong sv_isNamed sv_goes sv_goesSize sv_goesAt sv_targetParts sv_isRoot)), ((ma 16), .inl (cJ, 46080, .inr (.inl F))), ((ma 10), .inl (cB, 8000, .inl fT)), ((ma 11), .inl (cI, 40, .inl fTS))]) [2, 3, 0, 1] rfl
      have hD := hD.sub (ws' := [(h0, .inr (11, MO ma sv_thrown sv_length sv_nodes sv_many sv_directories sv_runsFrom sv_runs sv_read sv_wrong sv_isNamed sv_goes sv_goesSize sv_goesAt sv_targetParts sv_isRoot)), ((ma 16), .inl (cJ, 46080, .inr (.inl F))), ((ma 10), .inl (cB, 8000, .inl fT)), ((ma 11), .inl (cI, 40, .inl fTS))]) [2, 3, 0, 1] (by decide +kernel) rfl
      have hl := lv_sub hl [2, 3, 4, 1, 0] rfl
      exact kk38 _ 2 _ _ _ rfl ((by (try dsimp only); first | assumption | omega | trivial)) ((by unfold cmF; rw [if_pos (by omega)]; rfl)) hP hD hS hl
