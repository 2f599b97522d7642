theorem d_DiscMakerModel_low_0 : decode b_DiscMakerModel_low 0 = .ok (.iconst 0, 1) := by decide +kernel
theorem d_DiscMakerModel_low_1 : decode b_DiscMakerModel_low 1 = .ok (.istore 4, 2) := by decide +kernel
theorem d_DiscMakerModel_low_3 : decode b_DiscMakerModel_low 3 = .ok (.iload 4, 2) := by decide +kernel
theorem d_DiscMakerModel_low_5 : decode b_DiscMakerModel_low 5 = .ok (.iload_n 2, 1) := by decide +kernel
theorem d_DiscMakerModel_low_6 : decode b_DiscMakerModel_low 6 = .ok (.if_icmp .ge 24, 3) := by decide +kernel
theorem d_DiscMakerModel_low_9 : decode b_DiscMakerModel_low 9 = .ok (.aload_n 0, 1) := by decide +kernel
theorem d_DiscMakerModel_low_10 : decode b_DiscMakerModel_low 10 = .ok (.iload_n 1, 1) := by decide +kernel
theorem d_DiscMakerModel_low_11 : decode b_DiscMakerModel_low 11 = .ok (.iload 4, 2) := by decide +kernel
theorem d_DiscMakerModel_low_13 : decode b_DiscMakerModel_low 13 = .ok (.iadd, 1) := by decide +kernel
theorem d_DiscMakerModel_low_14 : decode b_DiscMakerModel_low 14 = .ok (.iload_n 3, 1) := by decide +kernel
theorem d_DiscMakerModel_low_15 : decode b_DiscMakerModel_low 15 = .ok (.bipush 8, 2) := by decide +kernel
theorem d_DiscMakerModel_low_17 : decode b_DiscMakerModel_low 17 = .ok (.iload 4, 2) := by decide +kernel
theorem d_DiscMakerModel_low_19 : decode b_DiscMakerModel_low 19 = .ok (.imul, 1) := by decide +kernel
theorem d_DiscMakerModel_low_20 : decode b_DiscMakerModel_low 20 = .ok (.ishr, 1) := by decide +kernel
theorem d_DiscMakerModel_low_21 : decode b_DiscMakerModel_low 21 = .ok (.invokevirtual 192, 3) := by decide +kernel
theorem d_DiscMakerModel_low_24 : decode b_DiscMakerModel_low 24 = .ok (.iinc 4 1, 3) := by decide +kernel
theorem d_DiscMakerModel_low_27 : decode b_DiscMakerModel_low 27 = .ok (.goto (-24), 3) := by decide +kernel
theorem d_DiscMakerModel_low_30 : decode b_DiscMakerModel_low 30 = .ok (.return_, 1) := by decide +kernel
set_option maxHeartbeats 4000000 in
set_option maxRecDepth 100000 in
theorem m_low (l : Launch) (D : va_G) (cB cI cJ cZ cN cF : ClassId) (sz : Nat) (h0 : Nat) (ma : Nat → Nat) (sv_thrown sv_length sv_nodes sv_many sv_directories sv_runsFrom sv_runs sv_read sv_wrong sv_isNamed sv_goes sv_goesSize sv_goesAt sv_targetParts sv_isRoot : Int32) (F : Nat → Int64) (x : Int32) (y : Int32) (z : Int32) (hy0 : 0 ≤ y.toInt ∧ y.toInt ≤ 4) (hx0 : 0 ≤ x.toInt) (hx1 : x.toInt + y.toInt ≤ 368640) : Met l y_DiscMakerModel_low w_DiscMakerModel_low ({ frames := 1, cells := 0, slots := 0, locals := 23 }) (va_Pc [.ref h0, .int x, .int y, .int z] (fun U => U.heap.size = sz ∧ va_P D CL [(h0, .inr (11, MO ma sv_thrown sv_length sv_nodes sv_many sv_directories sv_runsFrom sv_runs sv_read sv_wrong sv_isNamed sv_goes sv_goesSize sv_goesAt sv_targetParts sv_isRoot)), ((ma 16), .inl (cJ, 46080, .inr (.inl F)))] U.heap ∧ va_K D CL (TY cB cI cJ cZ cN cF) U ∧ NN U ∧ va_D (fun _ => True) [(h0, .inr (11, MO ma sv_thrown sv_length sv_nodes sv_many sv_directories sv_runsFrom sv_runs sv_read sv_wrong sv_isNamed sv_goes sv_goesSize sv_goesAt sv_targetParts sv_isRoot)), ((ma 16), .inl (cJ, 46080, .inr (.inl F)))])) (va_Qv (fun (u : (Nat → Int64)) => True) (fun (u : (Nat → Int64)) (t : State) => match u with | G => va_P D CL [(h0, .inr (11, MO ma sv_thrown sv_length sv_nodes sv_many sv_directories sv_runsFrom sv_runs sv_read sv_wrong sv_isNamed sv_goes sv_goesSize sv_goesAt sv_targetParts sv_isRoot)), ((ma 16), .inl (cJ, 46080, .inr (.inl G)))] t.heap ∧ va_D (va_A [(h0, .inr (11, MO ma sv_thrown sv_length sv_nodes sv_many sv_directories sv_runsFrom sv_runs sv_read sv_wrong sv_isNamed sv_goes sv_goesSize sv_goesAt sv_targetParts sv_isRoot)), ((ma 16), .inl (cJ, 46080, .inr (.inl F)))] sz) [(h0, .inr (11, MO ma sv_thrown sv_length sv_nodes sv_many sv_directories sv_runsFrom sv_runs sv_read sv_wrong sv_isNamed sv_goes sv_goesSize sv_goesAt sv_targetParts sv_isRoot)), ((ma 16), .inl (cJ, 46080, .inr (.inl G)))]) (va_A [(h0, .inr (11, MO ma sv_thrown sv_length sv_nodes sv_many sv_directories sv_runsFrom sv_runs sv_read sv_wrong sv_isNamed sv_goes sv_goesSize sv_goesAt sv_targetParts sv_isRoot)), ((ma 16), .inl (cJ, 46080, .inr (.inl F)))] sz)) 0 0 (va_A [(h0, .inr (11, MO ma sv_thrown sv_length sv_nodes sv_many sv_directories sv_runsFrom sv_runs sv_read sv_wrong sv_isNamed sv_goes sv_goesSize sv_goesAt sv_targetParts sv_isRoot)), ((ma 16), .inl (cJ, 46080, .inr (.inl F)))] sz) := by
  refine Met.ofW (cc := b_DiscMakerModel_low) (maxL := 5) (ret := none) (by decide) rfl ?_
  intro p e s m args below meth c s₁ B hml hv
  obtain ⟨rfl, hsz, hP, hK, hN, hD0⟩ := hv
  have hx := B.exec
  have hb := B.bytes
  have hr := B.returns
  have hts := atoms_spec (ws := w_DiscMakerModel_low) B.pre
  have ht9 := fun (w : Cond) (h : w ∈ lw_g) => hts w (List.mem_cons_of_mem _ h)
  have hown : s.vm.findClass "DiscMakerModel" = some m.cls := findClass_of_methodNamed B.named
  have hlocks := B.notSynchronized
  subst hsz
  have hD := hD0.self (sz := s.heap.size)
  generalize hAe : va_A [(h0, .inr (11, MO ma sv_thrown sv_length sv_nodes sv_many sv_directories sv_runsFrom sv_runs sv_read sv_wrong sv_isNamed sv_goes sv_goesSize sv_goesAt sv_targetParts sv_isRoot)), ((ma 16), .inl (cJ, 46080, .inr (.inl F)))] s.heap.size = A at hD ⊢
  have hA : ∀ q : Nat, s.heap.size ≤ q → A q := fun q h => by rw [← hAe]; exact Or.inr h
  have hS : va_S A s.heap s.heap [] := va_S.rf
  have hP : va_P D CL [(h0, .inr (11, MO ma sv_thrown sv_length sv_nodes sv_many sv_directories sv_runsFrom sv_runs sv_read sv_wrong sv_isNamed sv_goes sv_goesSize sv_goesAt sv_targetParts sv_isRoot)), ((ma 16), .inl (cJ, 46080, .inr (.inl F)))] s.heap := hP
  have hl := lv_entry [.ref h0, .int x, .int y, .int z] (n := 5) (Nat.le_of_ble_eq_true rfl)
  rw [lg_entry_eq]
  generalize (lg_sl [.ref h0, .int x, .int y, .int z] ++ List.replicate (5 - (lg_sl [.ref h0, .int x, .int y, .int z]).length) Slot.unset).toArray = ls at hl ⊢
  have hl : lv_has ls 5 [(0, .ref h0), (1, .int x), (2, .int y), (3, .int z)] := hl
  have L_m1 : ((-1) : Int32).toInt = (-1) := by decide
  have L_0 : (0 : Int32).toInt = 0 := by decide
  have L_1 : (1 : Int32).toInt = 1 := by decide
  have L_8 : (8 : Int32).toInt = 8 := by decide
  refine lv_iconst (v := 0) hx hb d_DiscMakerModel_low_0 (by decide) ?_
  refine lv_istore hx hb d_DiscMakerModel_low_1 hl (by decide) rfl (fun ls hl => ?_)
  have hl : lv_has ls 5 [(4, .int 0), (0, .ref h0), (1, .int x), (2, .int y), (3, .int z)] := hl
  refine zz_labM (B := fun (lk : Nat) (K : Heap → List Loc → Array Slot → List Value → Prop) => ∀ (kx : Int32) (lF : Nat → Int64) (H : Heap) (locs : List Loc) (ls : Array Slot), lk = (y.toInt - kx.toInt).toNat → (0 ≤ kx.toInt ∧ kx.toInt ≤ y.toInt) → va_P D CL [(h0, .inr (11, MO ma sv_thrown sv_length sv_nodes sv_many sv_directories sv_runsFrom sv_runs sv_read sv_wrong sv_isNamed sv_goes sv_goesSize sv_goesAt sv_targetParts sv_isRoot)), ((ma 16), .inl (cJ, 46080, .inr (.inl lF)))] H → va_D A [(h0, .inr (11, MO ma sv_thrown sv_length sv_nodes sv_many sv_directories sv_runsFrom sv_runs sv_read sv_wrong sv_isNamed sv_goes sv_goesSize sv_goesAt sv_targetParts sv_isRoot)), ((ma 16), .inl (cJ, 46080, .inr (.inl lF)))] → va_S A s.heap H locs → lv_has ls 5 [(0, .ref h0), (1, .int x), (2, .int y), (3, .int z), (4, .int kx)] → K H locs ls []) 3 ?_ ?_
  · skip
    intro lk ih3 kx lF H locs ls hm3 f1 hP hD hS hl
    refine lv_iload hx hb d_DiscMakerModel_low_3 (lv_at hl 4 rfl) ?_
    refine lv_iload_n hx hb d_DiscMakerModel_low_5 rfl (lv_at hl 2 rfl) ?_
    refine lv_icmp_ge (tgt := 30) hx hb d_DiscMakerModel_low_6 (by decide) (fun h_9 => ?_) (fun h_9 => ?_)
    · skip
      have g6_5 : y.toInt ≤ kx.toInt := (i_le rfl rfl).mp h_9
      have hP9 := hP.sub (ws' := [(h0, .inr (11, MO ma sv_thrown sv_length sv_nodes sv_many sv_directories sv_runsFrom sv_runs sv_read sv_wrong sv_isNamed sv_goes sv_goesSize sv_goesAt sv_targetParts sv_isRoot)), ((ma 16), .inl (cJ, 46080, .inr (.inl lF)))]) [0, 1] rfl
      have hD9 := hD.sub (ws' := [(h0, .inr (11, MO ma sv_thrown sv_length sv_nodes sv_many sv_directories sv_runsFrom sv_runs sv_read sv_wrong sv_isNamed sv_goes sv_goesSize sv_goesAt sv_targetParts sv_isRoot)), ((ma 16), .inl (cJ, 46080, .inr (.inl lF)))]) [0, 1] (by decide +kernel) rfl
      exact W.vret hx hb hr (fun t ht hW => ⟨⟨lF, rfl, trivial, by rw [ht]; exact hP9, hD9⟩, hS.F ht⟩) hS.2.2 d_DiscMakerModel_low_30
    · skip
      have g6_5 : ¬ y.toInt ≤ kx.toInt := fun h8 => h_9 ((i_le rfl rfl).mpr h8)
      refine lv_aload_n hx hb d_DiscMakerModel_low_9 rfl (lv_at hl 0 rfl) ?_
      refine lv_iload_n hx hb d_DiscMakerModel_low_10 rfl (lv_at hl 1 rfl) ?_
      refine lv_iload hx hb d_DiscMakerModel_low_11 (lv_at hl 4 rfl) ?_
      refine lv_iadd hx hb d_DiscMakerModel_low_13 ?_
      refine lv_topi (fun v1 e_v1 => ?_)
      have t_v1 : v1.toInt = x.toInt + kx.toInt := by rw [e_v1]; exact i_add rfl rfl (by omega) (by omega)
      refine lv_iload_n hx hb d_DiscMakerModel_low_14 rfl (lv_at hl 3 rfl) ?_
      refine lv_bipush (v := 8) hx hb d_DiscMakerModel_low_15 (by decide) ?_
      refine lv_iload hx hb d_DiscMakerModel_low_17 (lv_at hl 4 rfl) ?_
      refine lv_imul hx hb d_DiscMakerModel_low_19 ?_
      refine lv_topi (fun v2 e_v2 => ?_)
      have t_v2 : v2.toInt = 8 * kx.toInt := by rw [e_v2]; exact i_mul (by decide) rfl (by omega) (by omega)
      refine lv_ishr hx hb d_DiscMakerModel_low_20 ?_
      refine lv_topi (fun v3 e_v3 => ?_)
      have hPc := hP.sub (ws' := [(h0, .inr (11, MO ma sv_thrown sv_length sv_nodes sv_many sv_directories sv_runsFrom sv_runs sv_read sv_wrong sv_isNamed sv_goes sv_goesSize sv_goesAt sv_targetParts sv_isRoot)), ((ma 16), .inl (cJ, 46080, .inr (.inl lF)))]) [0, 1] rfl
      have hDc := hD.sub (ws' := [(h0, .inr (11, MO ma sv_thrown sv_length sv_nodes sv_many sv_directories sv_runsFrom sv_runs sv_read sv_wrong sv_isNamed sv_goes sv_goesSize sv_goesAt sv_targetParts sv_isRoot)), ((ma 16), .inl (cJ, 46080, .inr (.inl lF)))]) [0, 1] (by decide +kernel) rfl
      have hFc := va_free (wc := [(h0, .inr (11, MO ma sv_thrown sv_length sv_nodes sv_many sv_directories sv_runsFrom sv_runs sv_read sv_wrong sv_isNamed sv_goes sv_goesSize sv_goesAt sv_targetParts sv_isRoot)), ((ma 16), .inl (cJ, 46080, .inr (.inl lF)))]) hD hS hA [0, 1] rfl
      have hkc : 0 ≤ 0 := by decide
      have hks : 0 ≤ 0 := by decide
      refine va_callv (va_runV (C := "DiscMakerModel") (As := [.int v1, .int v3]) (rest := []) ⟨hx, hb, hml, hown, hts⟩ (m_set l D cB cI cJ cZ cN cF H.size h0 ma sv_thrown sv_length sv_nodes sv_many sv_directories sv_runsFrom sv_runs sv_read sv_wrong sv_isNamed sv_goes sv_goesSize sv_goesAt sv_targetParts sv_isRoot lF v1 v3 (by (try dsimp only); first | assumption | omega | trivial) (by (try dsimp only); first | assumption | omega | trivial)) (cwV 2 hts (lg_goodV k1727 k1729 k79 k125 kc_DiscMakerModel_set) rfl rfl rfl (by decide +kernel) ⟨Nat.le_of_ble_eq_true rfl, Nat.le_of_ble_eq_true rfl⟩) ⟨fun a U g mk q => by obtain ⟨q0, q1, qP, qK, qN, qD⟩ := q; exact ⟨q0, q1, qP, va_K.moved (u := U) (U := U.calling g mk a) (Vm.Alike.refl U.vm) qK, qN.calling, qD⟩, va_recv hK hP (ci := 11) (q0 := 0) rfl rfl, fun U hU hW => ⟨rfl, by rw [hU], by rw [hU]; exact hPc, va_K.moved hW.alike hK, NN.warm hW hN, hDc.weaken (fun _ _ _ _ => trivial)⟩⟩ rfl rfl hl.1 rfl (lv_room (Nat.le_of_ble_eq_true rfl)) d_DiscMakerModel_low_21 ⟨hkc, hks⟩) hS (fun q _ h => hFc q h) hFc (fun u t H1 locs ht hvm hp_r4 hB hz1 hk1 hS => ?_)
      obtain ⟨G_5, rfl⟩ : ∃ z, z = u := ⟨_, rfl⟩
      obtain ⟨hP1, hD1⟩ := hB
      rw [ht] at hP1
      obtain ⟨hP, hD⟩ := va_join (wr := []) (w1 := [(h0, .inr (11, MO ma sv_thrown sv_length sv_nodes sv_many sv_directories sv_runsFrom sv_runs sv_read sv_wrong sv_isNamed sv_goes sv_goesSize sv_goesAt sv_targetParts sv_isRoot)), ((ma 16), .inl (cJ, 46080, .inr (.inl G_5)))]) hP hD [0, 1] [] rfl rfl (by decide +kernel) (by decide +kernel) hk1 hFc hP1 hD1
      clear hPc hDc hFc hP1 hD1 hk1 hz1 hkc hks
      generalize H1 = H at hP hS ⊢
      have hP : va_P D CL [(h0, .inr (11, MO ma sv_thrown sv_length sv_nodes sv_many sv_directories sv_runsFrom sv_runs sv_read sv_wrong sv_isNamed sv_goes sv_goesSize sv_goesAt sv_targetParts sv_isRoot)), ((ma 16), .inl (cJ, 46080, .inr (.inl G_5)))] H := hP
      have hD : va_D A [(h0, .inr (11, MO ma sv_thrown sv_length sv_nodes sv_many sv_directories sv_runsFrom sv_runs sv_read sv_wrong sv_isNamed sv_goes sv_goesSize sv_goesAt sv_targetParts sv_isRoot)), ((ma 16), .inl (cJ, 46080, .inr (.inl G_5)))] := hD
      obtain ⟨v6, e_v6⟩ : ∃ z : Int32, z = kx + 1 := ⟨_, rfl⟩
      refine lv_iinc (v := v6) hx hb d_DiscMakerModel_low_24 hl (k := 4) rfl e_v6.symm (by decide +kernel) rfl (fun ls hl => ?_)
      have t_v6 : v6.toInt = kx.toInt + 1 := by rw [e_v6]; exact i_add rfl (by decide) (by omega) (by omega)
      have hl : lv_has ls 5 [(4, .int v6), (0, .ref h0), (1, .int x), (2, .int y), (3, .int z)] := hl
      refine lv_goto (tgt := 3) hx hb d_DiscMakerModel_low_27 (by decide) ?_
      have hP := hP.sub (ws' := [(h0, .inr (11, MO ma sv_thrown sv_length sv_nodes sv_many sv_directories sv_runsFrom sv_runs sv_read sv_wrong sv_isNamed sv_goes sv_goesSize sv_goesAt sv_targetParts sv_isRoot)), ((ma 16), .inl (cJ, 46080, .inr (.inl G_5)))]) [0, 1] rfl
      have hD := hD.sub (ws' := [(h0, .inr (11, MO ma sv_thrown sv_length sv_nodes sv_many sv_directories sv_runsFrom sv_runs sv_read sv_wrong sv_isNamed sv_goes sv_goesSize sv_goesAt sv_targetParts sv_isRoot)), ((ma 16), .inl (cJ, 46080, .inr (.inl G_5)))]) [0, 1] (by decide +kernel) rfl
      have hl := lv_sub hl [1, 2, 3, 4, 0] rfl
      exact ih3 _ (by first | omega | (dsimp only; omega)) v6 G_5 _ _ _ rfl ((by (try dsimp only); first | assumption | omega | trivial)) hP hD hS hl
  · skip
    intro kk3
    have hP := hP.sub (ws' := [(h0, .inr (11, MO ma sv_thrown sv_length sv_nodes sv_many sv_directories sv_runsFrom sv_runs sv_read sv_wrong sv_isNamed sv_goes sv_goesSize sv_goesAt sv_targetParts sv_isRoot)), ((ma 16), .inl (cJ, 46080, .inr (.inl F)))]) [0, 1] rfl
    have hD := hD.sub (ws' := [(h0, .inr (11, MO ma sv_thrown sv_length sv_nodes sv_many sv_directories sv_runsFrom sv_runs sv_read sv_wrong sv_isNamed sv_goes sv_goesSize sv_goesAt sv_targetParts sv_isRoot)), ((ma 16), .inl (cJ, 46080, .inr (.inl F)))]) [0, 1] (by decide +kernel) rfl
    have hl := lv_sub hl [1, 2, 3, 4, 0] rfl
    exact kk3 _ 0 F _ _ _ rfl ((by (try dsimp only); first | assumption | omega | trivial)) hP hD hS hl

theorem d_DiscMakerModel_high_0 : decode b_DiscMakerModel_high 0 = .ok (.iconst 0, 1) := by decide +kernel
theorem d_DiscMakerModel_high_1 : decode b_DiscMakerModel_high 1 = .ok (.istore 4, 2) := by decide +kernel
theorem d_DiscMakerModel_high_3 : decode b_DiscMakerModel_high 3 = .ok (.iload 4, 2) := by decide +kernel
theorem d_DiscMakerModel_high_5 : decode b_DiscMakerModel_high 5 = .ok (.iload_n 2, 1) := by decide +kernel
theorem d_DiscMakerModel_high_6 : decode b_DiscMakerModel_high 6 = .ok (.if_icmp .ge 28, 3) := by decide +kernel
theorem d_DiscMakerModel_high_9 : decode b_DiscMakerModel_high 9 = .ok (.aload_n 0, 1) := by decide +kernel
theorem d_DiscMakerModel_high_10 : decode b_DiscMakerModel_high 10 = .ok (.iload_n 1, 1) := by decide +kernel
theorem d_DiscMakerModel_high_11 : decode b_DiscMakerModel_high 11 = .ok (.iload 4, 2) := by decide +kernel
theorem d_DiscMakerModel_high_13 : decode b_DiscMakerModel_high 13 = .ok (.iadd, 1) := by decide +kernel
theorem d_DiscMakerModel_high_14 : decode b_DiscMakerModel_high 14 = .ok (.iload_n 3, 1) := by decide +kernel
theorem d_DiscMakerModel_high_15 : decode b_DiscMakerModel_high 15 = .ok (.bipush 8, 2) := by decide +kernel
theorem d_DiscMakerModel_high_17 : decode b_DiscMakerModel_high 17 = .ok (.iload_n 2, 1) := by decide +kernel
theorem d_DiscMakerModel_high_18 : decode b_DiscMakerModel_high 18 = .ok (.iconst 1, 1) := by decide +kernel
theorem d_DiscMakerModel_high_19 : decode b_DiscMakerModel_high 19 = .ok (.isub, 1) := by decide +kernel
theorem d_DiscMakerModel_high_20 : decode b_DiscMakerModel_high 20 = .ok (.iload 4, 2) := by decide +kernel
theorem d_DiscMakerModel_high_22 : decode b_DiscMakerModel_high 22 = .ok (.isub, 1) := by decide +kernel
theorem d_DiscMakerModel_high_23 : decode b_DiscMakerModel_high 23 = .ok (.imul, 1) := by decide +kernel
theorem d_DiscMakerModel_high_24 : decode b_DiscMakerModel_high 24 = .ok (.ishr, 1) := by decide +kernel
theorem d_DiscMakerModel_high_25 : decode b_DiscMakerModel_high 25 = .ok (.invokevirtual 192, 3) := by decide +kernel
theorem d_DiscMakerModel_high_28 : decode b_DiscMakerModel_high 28 = .ok (.iinc 4 1, 3) := by decide +kernel
theorem d_DiscMakerModel_high_31 : decode b_DiscMakerModel_high 31 = .ok (.goto (-28), 3) := by decide +kernel
theorem d_DiscMakerModel_high_34 : decode b_DiscMakerModel_high 34 = .ok (.return_, 1) := by decide +kernel
set_option maxHeartbeats 4000000 in
set_option maxRecDepth 100000 in
theorem m_high (l : Launch) (D : va_G) (cB cI cJ cZ cN cF : ClassId) (sz : Nat) (h0 : Nat) (ma : Nat → Nat) (sv_thrown sv_length sv_nodes sv_many sv_directories sv_runsFrom sv_runs sv_read sv_wrong sv_isNamed sv_goes sv_goesSize sv_goesAt sv_targetParts sv_isRoot : Int32) (F : Nat → Int64) (x : Int32) (y : Int32) (z : Int32) (hy0 : 0 ≤ y.toInt ∧ y.toInt ≤ 4) (hx0 : 0 ≤ x.toInt) (hx1 : x.toInt + y.toInt ≤ 368640) : Met l y_DiscMakerModel_high w_DiscMakerModel_high ({ frames := 1, cells := 0, slots := 0, locals := 23 }) (va_Pc [.ref h0, .int x, .int y, .int z] (fun U => U.heap.size = sz ∧ va_P D CL [(h0, .inr (11, MO ma sv_thrown sv_length sv_nodes sv_many sv_directories sv_runsFrom sv_runs sv_read sv_wrong sv_isNamed sv_goes sv_goesSize sv_goesAt sv_targetParts sv_isRoot)), ((ma 16), .inl (cJ, 46080, .inr (.inl F)))] U.heap ∧ va_K D CL (TY cB cI cJ cZ cN cF) U ∧ NN U ∧ va_D (fun _ => True) [(h0, .inr (11, MO ma sv_thrown sv_length sv_nodes sv_many sv_directories sv_runsFrom sv_runs sv_read sv_wrong sv_isNamed sv_goes sv_goesSize sv_goesAt sv_targetParts sv_isRoot)), ((ma 16), .inl (cJ, 46080, .inr (.inl F)))])) (va_Qv (fun (u : (Nat → Int64)) => True) (fun (u : (Nat → Int64)) (t : State) => match u with | G => va_P D CL [(h0, .inr (11, MO ma sv_thrown sv_length sv_nodes sv_many sv_directories sv_runsFrom sv_runs sv_read sv_wrong sv_isNamed sv_goes sv_goesSize sv_goesAt sv_targetParts sv_isRoot)), ((ma 16), .inl (cJ, 46080, .inr (.inl G)))] t.heap ∧ va_D (va_A [(h0, .inr (11, MO ma sv_thrown sv_length sv_nodes sv_many sv_directories sv_runsFrom sv_runs sv_read sv_wrong sv_isNamed sv_goes sv_goesSize sv_goesAt sv_targetParts sv_isRoot)), ((ma 16), .inl (cJ, 46080, .inr (.inl F)))] sz) [(h0, .inr (11, MO ma sv_thrown sv_length sv_nodes sv_many sv_directories sv_runsFrom sv_runs sv_read sv_wrong sv_isNamed sv_goes sv_goesSize sv_goesAt sv_targetParts sv_isRoot)), ((ma 16), .inl (cJ, 46080, .inr (.inl G)))]) (va_A [(h0, .inr (11, MO ma sv_thrown sv_length sv_nodes sv_many sv_directories sv_runsFrom sv_runs sv_read sv_wrong sv_isNamed sv_goes sv_goesSize sv_goesAt sv_targetParts sv_isRoot)), ((ma 16), .inl (cJ, 46080, .inr (.inl F)))] sz)) 0 0 (va_A [(h0, .inr (11, MO ma sv_thrown sv_length sv_nodes sv_many sv_directories sv_runsFrom sv_runs sv_read sv_wrong sv_isNamed sv_goes sv_goesSize sv_goesAt sv_targetParts sv_isRoot)), ((ma 16), .inl (cJ, 46080, .inr (.inl F)))] sz) := by
  refine Met.ofW (cc := b_DiscMakerModel_high) (maxL := 5) (ret := none) (by decide) rfl ?_
  intro p e s m args below meth c s₁ B hml hv
  obtain ⟨rfl, hsz, hP, hK, hN, hD0⟩ := hv
  have hx := B.exec
  have hb := B.bytes
  have hr := B.returns
  have hts := atoms_spec (ws := w_DiscMakerModel_high) B.pre
  have ht9 := fun (w : Cond) (h : w ∈ lw_g) => hts w (List.mem_cons_of_mem _ h)
  have hown : s.vm.findClass "DiscMakerModel" = some m.cls := findClass_of_methodNamed B.named
  have hlocks := B.notSynchronized
  subst hsz
  have hD := hD0.self (sz := s.heap.size)
  generalize hAe : va_A [(h0, .inr (11, MO ma sv_thrown sv_length sv_nodes sv_many sv_directories sv_runsFrom sv_runs sv_read sv_wrong sv_isNamed sv_goes sv_goesSize sv_goesAt sv_targetParts sv_isRoot)), ((ma 16), .inl (cJ, 46080, .inr (.inl F)))] s.heap.size = A at hD ⊢
  have hA : ∀ q : Nat, s.heap.size ≤ q → A q := fun q h => by rw [← hAe]; exact Or.inr h
  have hS : va_S A s.heap s.heap [] := va_S.rf
  have hP : va_P D CL [(h0, .inr (11, MO ma sv_thrown sv_length sv_nodes sv_many sv_directories sv_runsFrom sv_runs sv_read sv_wrong sv_isNamed sv_goes sv_goesSize sv_goesAt sv_targetParts sv_isRoot)), ((ma 16), .inl (cJ, 46080, .inr (.inl F)))] s.heap := hP
  have hl := lv_entry [.ref h0, .int x, .int y, .int z] (n := 5) (Nat.le_of_ble_eq_true rfl)
  rw [lg_entry_eq]
  generalize (lg_sl [.ref h0, .int x, .int y, .int z] ++ List.replicate (5 - (lg_sl [.ref h0, .int x, .int y, .int z]).length) Slot.unset).toArray = ls at hl ⊢
  have hl : lv_has ls 5 [(0, .ref h0), (1, .int x), (2, .int y), (3, .int z)] := hl
  have L_m1 : ((-1) : Int32).toInt = (-1) := by decide
  have L_0 : (0 : Int32).toInt = 0 := by decide
  have L_1 : (1 : Int32).toInt = 1 := by decide
  have L_8 : (8 : Int32).toInt = 8 := by decide
  refine lv_iconst (v := 0) hx hb d_DiscMakerModel_high_0 (by decide) ?_
  refine lv_istore hx hb d_DiscMakerModel_high_1 hl (by decide) rfl (fun ls hl => ?_)
  have hl : lv_has ls 5 [(4, .int 0), (0, .ref h0), (1, .int x), (2, .int y), (3, .int z)] := hl
  refine zz_labM (B := fun (lk : Nat) (K : Heap → List Loc → Array Slot → List Value → Prop) => ∀ (kx : Int32) (lF : Nat → Int64) (H : Heap) (locs : List Loc) (ls : Array Slot), lk = (y.toInt - kx.toInt).toNat → (0 ≤ kx.toInt ∧ kx.toInt ≤ y.toInt) → va_P D CL [(h0, .inr (11, MO ma sv_thrown sv_length sv_nodes sv_many sv_directories sv_runsFrom sv_runs sv_read sv_wrong sv_isNamed sv_goes sv_goesSize sv_goesAt sv_targetParts sv_isRoot)), ((ma 16), .inl (cJ, 46080, .inr (.inl lF)))] H → va_D A [(h0, .inr (11, MO ma sv_thrown sv_length sv_nodes sv_many sv_directories sv_runsFrom sv_runs sv_read sv_wrong sv_isNamed sv_goes sv_goesSize sv_goesAt sv_targetParts sv_isRoot)), ((ma 16), .inl (cJ, 46080, .inr (.inl lF)))] → va_S A s.heap H locs → lv_has ls 5 [(0, .ref h0), (1, .int x), (2, .int y), (3, .int z), (4, .int kx)] → K H locs ls []) 3 ?_ ?_
  · skip
    intro lk ih3 kx lF H locs ls hm3 f1 hP hD hS hl
    refine lv_iload hx hb d_DiscMakerModel_high_3 (lv_at hl 4 rfl) ?_
    refine lv_iload_n hx hb d_DiscMakerModel_high_5 rfl (lv_at hl 2 rfl) ?_
    refine lv_icmp_ge (tgt := 34) hx hb d_DiscMakerModel_high_6 (by decide) (fun h_9 => ?_) (fun h_9 => ?_)
    · skip
      have g6_5 : y.toInt ≤ kx.toInt := (i_le rfl rfl).mp h_9
      have hP9 := hP.sub (ws' := [(h0, .inr (11, MO ma sv_thrown sv_length sv_nodes sv_many sv_directories sv_runsFrom sv_runs sv_read sv_wrong sv_isNamed sv_goes sv_goesSize sv_goesAt sv_targetParts sv_isRoot)), ((ma 16), .inl (cJ, 46080, .inr (.inl lF)))]) [0, 1] rfl
      have hD9 := hD.sub (ws' := [(h0, .inr (11, MO ma sv_thrown sv_length sv_nodes sv_many sv_directories sv_runsFrom sv_runs sv_read sv_wrong sv_isNamed sv_goes sv_goesSize sv_goesAt sv_targetParts sv_isRoot)), ((ma 16), .inl (cJ, 46080, .inr (.inl lF)))]) [0, 1] (by decide +kernel) rfl
      exact W.vret hx hb hr (fun t ht hW => ⟨⟨lF, rfl, trivial, by rw [ht]; exact hP9, hD9⟩, hS.F ht⟩) hS.2.2 d_DiscMakerModel_high_34
    · skip
      have g6_5 : ¬ y.toInt ≤ kx.toInt := fun h8 => h_9 ((i_le rfl rfl).mpr h8)
      refine lv_aload_n hx hb d_DiscMakerModel_high_9 rfl (lv_at hl 0 rfl) ?_
      refine lv_iload_n hx hb d_DiscMakerModel_high_10 rfl (lv_at hl 1 rfl) ?_
      refine lv_iload hx hb d_DiscMakerModel_high_11 (lv_at hl 4 rfl) ?_
      refine lv_iadd hx hb d_DiscMakerModel_high_13 ?_
      refine lv_topi (fun v1 e_v1 => ?_)
      have t_v1 : v1.toInt = x.toInt + kx.toInt := by rw [e_v1]; exact i_add rfl rfl (by omega) (by omega)
      refine lv_iload_n hx hb d_DiscMakerModel_high_14 rfl (lv_at hl 3 rfl) ?_
      refine lv_bipush (v := 8) hx hb d_DiscMakerModel_high_15 (by decide) ?_
      refine lv_iload_n hx hb d_DiscMakerModel_high_17 rfl (lv_at hl 2 rfl) ?_
      refine lv_iconst (v := 1) hx hb d_DiscMakerModel_high_18 (by decide) ?_
      refine lv_isub hx hb d_DiscMakerModel_high_19 ?_
      refine lv_topi (fun v2 e_v2 => ?_)
      have t_v2 : v2.toInt = y.toInt - 1 := by rw [e_v2]; exact i_sub rfl (by decide) (by omega) (by omega)
      refine lv_iload hx hb d_DiscMakerModel_high_20 (lv_at hl 4 rfl) ?_
      refine lv_isub hx hb d_DiscMakerModel_high_22 ?_
      refine lv_topi (fun v3 e_v3 => ?_)
      have t_v3 : v3.toInt = v2.toInt - kx.toInt := by rw [e_v3]; exact i_sub rfl rfl (by omega) (by omega)
      refine lv_imul hx hb d_DiscMakerModel_high_23 ?_
      refine lv_topi (fun v4 e_v4 => ?_)
      have t_v4 : v4.toInt = 8 * v3.toInt := by rw [e_v4]; exact i_mul (by decide) rfl (by omega) (by omega)
      refine lv_ishr hx hb d_DiscMakerModel_high_24 ?_
      refine lv_topi (fun v5 e_v5 => ?_)
      have hPc := hP.sub (ws' := [(h0, .inr (11, MO ma sv_thrown sv_length sv_nodes sv_many sv_directories sv_runsFrom sv_runs sv_read sv_wrong sv_isNamed sv_goes sv_goesSize sv_goesAt sv_targetParts sv_isRoot)), ((ma 16), .inl (cJ, 46080, .inr (.inl lF)))]) [0, 1] rfl
      have hDc := hD.sub (ws' := [(h0, .inr (11, MO ma sv_thrown sv_length sv_nodes sv_many sv_directories sv_runsFrom sv_runs sv_read sv_wrong sv_isNamed sv_goes sv_goesSize sv_goesAt sv_targetParts sv_isRoot)), ((ma 16), .inl (cJ, 46080, .inr (.inl lF)))]) [0, 1] (by decide +kernel) rfl
      have hFc := va_free (wc := [(h0, .inr (11, MO ma sv_thrown sv_length sv_nodes sv_many sv_directories sv_runsFrom sv_runs sv_read sv_wrong sv_isNamed sv_goes sv_goesSize sv_goesAt sv_targetParts sv_isRoot)), ((ma 16), .inl (cJ, 46080, .inr (.inl lF)))]) hD hS hA [0, 1] rfl
      have hkc : 0 ≤ 0 := by decide
      have hks : 0 ≤ 0 := by decide
      refine va_callv (va_runV (C := "DiscMakerModel") (As := [.int v1, .int v5]) (rest := []) ⟨hx, hb, hml, hown, hts⟩ (m_set l D cB cI cJ cZ cN cF H.size h0 ma sv_thrown sv_length sv_nodes sv_many sv_directories sv_runsFrom sv_runs sv_read sv_wrong sv_isNamed sv_goes sv_goesSize sv_goesAt sv_targetParts sv_isRoot lF v1 v5 (by (try dsimp only); first | assumption | omega | trivial) (by (try dsimp only); first | assumption | omega | trivial)) (cwV 2 hts (lg_goodV k1727 k1729 k79 k125 kc_DiscMakerModel_set) rfl rfl rfl (by decide +kernel) ⟨Nat.le_of_ble_eq_true rfl, Nat.le_of_ble_eq_true rfl⟩) ⟨fun a U g mk q => by obtain ⟨q0, q1, qP, qK, qN, qD⟩ := q; exact ⟨q0, q1, qP, va_K.moved (u := U) (U := U.calling g mk a) (Vm.Alike.refl U.vm) qK, qN.calling, qD⟩, va_recv hK hP (ci := 11) (q0 := 0) rfl rfl, fun U hU hW => ⟨rfl, by rw [hU], by rw [hU]; exact hPc, va_K.moved hW.alike hK, NN.warm hW hN, hDc.weaken (fun _ _ _ _ => trivial)⟩⟩ rfl rfl hl.1 rfl (lv_room (Nat.le_of_ble_eq_true rfl)) d_DiscMakerModel_high_25 ⟨hkc, hks⟩) hS (fun q _ h => hFc q h) hFc (fun u t H1 locs ht hvm hp_r6 hB hz1 hk1 hS => ?_)
      obtain ⟨G_7, rfl⟩ : ∃ z, z = u := ⟨_, rfl⟩
      obtain ⟨hP1, hD1⟩ := hB
      rw [ht] at hP1
      obtain ⟨hP, hD⟩ := va_join (wr := []) (w1 := [(h0, .inr (11, MO ma sv_thrown sv_length sv_nodes sv_many sv_directories sv_runsFrom sv_runs sv_read sv_wrong sv_isNamed sv_goes sv_goesSize sv_goesAt sv_targetParts sv_isRoot)), ((ma 16), .inl (cJ, 46080, .inr (.inl G_7)))]) hP hD [0, 1] [] rfl rfl (by decide +kernel) (by decide +kernel) hk1 hFc hP1 hD1
      clear hPc hDc hFc hP1 hD1 hk1 hz1 hkc hks
      generalize H1 = H at hP hS ⊢
      have hP : va_P D CL [(h0, .inr (11, MO ma sv_thrown sv_length sv_nodes sv_many sv_directories sv_runsFrom sv_runs sv_read sv_wrong sv_isNamed sv_goes sv_goesSize sv_goesAt sv_targetParts sv_isRoot)), ((ma 16), .inl (cJ, 46080, .inr (.inl G_7)))] H := hP
      have hD : va_D A [(h0, .inr (11, MO ma sv_thrown sv_length sv_nodes sv_many sv_directories sv_runsFrom sv_runs sv_read sv_wrong sv_isNamed sv_goes sv_goesSize sv_goesAt sv_targetParts sv_isRoot)), ((ma 16), .inl (cJ, 46080, .inr (.inl G_7)))] := hD
      obtain ⟨v8, e_v8⟩ : ∃ z : Int32, z = kx + 1 := ⟨_, rfl⟩
      refine lv_iinc (v := v8) hx hb d_DiscMakerModel_high_28 hl (k := 4) rfl e_v8.symm (by decide +kernel) rfl (fun ls hl => ?_)
      have t_v8 : v8.toInt = kx.toInt + 1 := by rw [e_v8]; exact i_add rfl (by decide) (by omega) (by omega)
      have hl : lv_has ls 5 [(4, .int v8), (0, .ref h0), (1, .int x), (2, .int y), (3, .int z)] := hl
      refine lv_goto (tgt := 3) hx hb d_DiscMakerModel_high_31 (by decide) ?_
      have hP := hP.sub (ws' := [(h0, .inr (11, MO ma sv_thrown sv_length sv_nodes sv_many sv_directories sv_runsFrom sv_runs sv_read sv_wrong sv_isNamed sv_goes sv_goesSize sv_goesAt sv_targetParts sv_isRoot)), ((ma 16), .inl (cJ, 46080, .inr (.inl G_7)))]) [0, 1] rfl
      have hD := hD.sub (ws' := [(h0, .inr (11, MO ma sv_thrown sv_length sv_nodes sv_many sv_directories sv_runsFrom sv_runs sv_read sv_wrong sv_isNamed sv_goes sv_goesSize sv_goesAt sv_targetParts sv_isRoot)), ((ma 16), .inl (cJ, 46080, .inr (.inl G_7)))]) [0, 1] (by decide +kernel) rfl
      have hl := lv_sub hl [1, 2, 3, 4, 0] rfl
      exact ih3 _ (by first | omega | (dsimp only; omega)) v8 G_7 _ _ _ rfl ((by (try dsimp only); first | assumption | omega | trivial)) hP hD hS hl
  · skip
    intro kk3
    have hP := hP.sub (ws' := [(h0, .inr (11, MO ma sv_thrown sv_length sv_nodes sv_many sv_directories sv_runsFrom sv_runs sv_read sv_wrong sv_isNamed sv_goes sv_goesSize sv_goesAt sv_targetParts sv_isRoot)), ((ma 16), .inl (cJ, 46080, .inr (.inl F)))]) [0, 1] rfl
    have hD := hD.sub (ws' := [(h0, .inr (11, MO ma sv_thrown sv_length sv_nodes sv_many sv_directories sv_runsFrom sv_runs sv_read sv_wrong sv_isNamed sv_goes sv_goesSize sv_goesAt sv_targetParts sv_isRoot)), ((ma 16), .inl (cJ, 46080, .inr (.inl F)))]) [0, 1] (by decide +kernel) rfl
    have hl := lv_sub hl [1, 2, 3, 4, 0] rfl
    exact kk3 _ 0 F _ _ _ rfl ((by (try dsimp only); first | assumption | omega | trivial)) hP hD hS hl

theorem d_DiscMakerModel_both_0 : decode b_DiscMakerModel_both 0 = .ok (.aload_n 0, 1) := by decide +kernel
theorem d_DiscMakerModel_both_1 : decode b_DiscMakerModel_both 1 = .ok (.iload_n 1, 1) := by decide +kernel
theorem d_DiscMakerModel_both_2 : decode b_DiscMakerModel_both 2 = .ok (.iload_n 2, 1) := by decide +kernel
theorem d_DiscMakerModel_both_3 : decode b_DiscMakerModel_both 3 = .ok (.iload_n 3, 1) := by decide +kernel
theorem d_DiscMakerModel_both_4 : decode b_DiscMakerModel_both 4 = .ok (.invokevirtual 196, 3) := by decide +kernel
theorem d_DiscMakerModel_both_7 : decode b_DiscMakerModel_both 7 = .ok (.aload_n 0, 1) := by decide +kernel
theorem d_DiscMakerModel_both_8 : decode b_DiscMakerModel_both 8 = .ok (.iload_n 1, 1) := by decide +kernel
theorem d_DiscMakerModel_both_9 : decode b_DiscMakerModel_both 9 = .ok (.iload_n 2, 1) := by decide +kernel
theorem d_DiscMakerModel_both_10 : decode b_DiscMakerModel_both 10 = .ok (.iadd, 1) := by decide +kernel
theorem d_DiscMakerModel_both_11 : decode b_DiscMakerModel_both 11 = .ok (.iload_n 2, 1) := by decide +kernel
theorem d_DiscMakerModel_both_12 : decode b_DiscMakerModel_both 12 = .ok (.iload_n 3, 1) := by decide +kernel
theorem d_DiscMakerModel_both_13 : decode b_DiscMakerModel_both 13 = .ok (.invokevirtual 200, 3) := by decide +kernel
theorem d_DiscMakerModel_both_16 : decode b_DiscMakerModel_both 16 = .ok (.return_, 1) := by decide +kernel
set_option maxHeartbeats 4000000 in
set_option maxRecDepth 100000 in
theorem m_both (l : Launch) (D : va_G) (cB cI cJ cZ cN cF : ClassId) (sz : Nat) (h0 : Nat) (ma : Nat → Nat) (sv_thrown sv_length sv_nodes sv_many sv_directories sv_runsFrom sv_runs sv_read sv_wrong sv_isNamed sv_goes sv_goesSize sv_goesAt sv_targetParts sv_isRoot : Int32) (F : Nat → Int64) (x : Int32) (y : Int32) (z : Int32) (hy0 : 0 ≤ y.toInt ∧ y.toInt ≤ 4) (hx0 : 0 ≤ x.toInt) (hx1 : x.toInt + 2 * y.toInt ≤ 368640) : Met l y_DiscMakerModel_both w_DiscMakerModel_both ({ frames := 2, cells := 0, slots := 0, locals := 47 }) (va_Pc [.ref h0, .int x, .int y, .int z] (fun U => U.heap.size = sz ∧ va_P D CL [(h0, .inr (11, MO ma sv_thrown sv_length sv_nodes sv_many sv_directories sv_runsFrom sv_runs sv_read sv_wrong sv_isNamed sv_goes sv_goesSize sv_goesAt sv_targetParts sv_isRoot)), ((ma 16), .inl (cJ, 46080, .inr (.inl F)))] U.heap ∧ va_K D CL (TY cB cI cJ cZ cN cF) U ∧ NN U ∧ va_D (fun _ => True) [(h0, .inr (11, MO ma sv_thrown sv_length sv_nodes sv_many sv_directories sv_runsFrom sv_runs sv_read sv_wrong sv_isNamed sv_goes sv_goesSize sv_goesAt sv_targetParts sv_isRoot)), ((ma 16), .inl (cJ, 46080, .inr (.inl F)))])) (va_Qv (fun (u : (Nat → Int64)) => True) (fun (u : (Nat → Int64)) (t : State) => match u with | G => va_P D CL [(h0, .inr (11, MO ma sv_thrown sv_length sv_nodes sv_many sv_directories sv_runsFrom sv_runs sv_read sv_wrong sv_isNamed sv_goes sv_goesSize sv_goesAt sv_targetParts sv_isRoot)), ((ma 16), .inl (cJ, 46080, .inr (.inl G)))] t.heap ∧ va_D (va_A [(h0, .inr (11, MO ma sv_thrown sv_length sv_nodes sv_many sv_directories sv_runsFrom sv_runs sv_read sv_wrong sv_isNamed sv_goes sv_goesSize sv_goesAt sv_targetParts sv_isRoot)), ((ma 16), .inl (cJ, 46080, .inr (.inl F)))] sz) [(h0, .inr (11, MO ma sv_thrown sv_length sv_nodes sv_many sv_directories sv_runsFrom sv_runs sv_read sv_wrong sv_isNamed sv_goes sv_goesSize sv_goesAt sv_targetParts sv_isRoot)), ((ma 16), .inl (cJ, 46080, .inr (.inl G)))]) (va_A [(h0, .inr (11, MO ma sv_thrown sv_length sv_nodes sv_many sv_directories sv_runsFrom sv_runs sv_read sv_wrong sv_isNamed sv_goes sv_goesSize sv_goesAt sv_targetParts sv_isRoot)), ((ma 16), .inl (cJ, 46080, .inr (.inl F)))] sz)) 0 0 (va_A [(h0, .inr (11, MO ma sv_thrown sv_length sv_nodes sv_many sv_directories sv_runsFrom sv_runs sv_read sv_wrong sv_isNamed sv_goes sv_goesSize sv_goesAt sv_targetParts sv_isRoot)), ((ma 16), .inl (cJ, 46080, .inr (.inl F)))] sz) := by
  refine Met.ofW (cc := b_DiscMakerModel_both) (maxL := 4) (ret := none) (by decide) rfl ?_
  intro p e s m args below meth c s₁ B hml hv
  obtain ⟨rfl, hsz, hP, hK, hN, hD0⟩ := hv
  have hx := B.exec
  have hb := B.bytes
  have hr := B.returns
  have hts := atoms_spec (ws := w_DiscMakerModel_both) B.pre
  have ht9 := fun (w : Cond) (h : w ∈ lw_g) => hts w (List.mem_cons_of_mem _ h)
  have hown : s.vm.findClass "DiscMakerModel" = some m.cls := findClass_of_methodNamed B.named
  have hlocks := B.notSynchronized
  subst hsz
  have hD := hD0.self (sz := s.heap.size)
  generalize hAe : va_A [(h0, .inr (11, MO ma sv_thrown sv_length sv_nodes sv_many sv_directories sv_runsFrom sv_runs sv_read sv_wrong sv_isNamed sv_goes sv_goesSize sv_goesAt sv_targetParts sv_isRoot)), ((ma 16), .inl (cJ, 46080, .inr (.inl F)))] s.heap.size = A at hD ⊢
  have hA : ∀ q : Nat, s.heap.size ≤ q → A q := fun q h => by rw [← hAe]; exact Or.inr h
  have hS : va_S A s.heap s.heap [] := va_S.rf
  have hP : va_P D CL [(h0, .inr (11, MO ma sv_thrown sv_length sv_nodes sv_many sv_directories sv_runsFrom sv_runs sv_read sv_wrong sv_isNamed sv_goes sv_goesSize sv_goesAt sv_targetParts sv_isRoot)), ((ma 16), .inl (cJ, 46080, .inr (.inl F)))] s.heap := hP
  have hl := lv_entry [.ref h0, .int x, .int y, .int z] (n := 4) (Nat.le_of_ble_eq_true rfl)
  rw [lg_entry_eq]
  generalize (lg_sl [.ref h0, .int x, .int y, .int z] ++ List.replicate (4 - (lg_sl [.ref h0, .int x, .int y, .int z]).length) Slot.unset).toArray = ls at hl ⊢
  have hl : lv_has ls 4 [(0, .ref h0), (1, .int x), (2, .int y), (3, .int z)] := hl
  have L_m1 : ((-1) : Int32).toInt = (-1) := by decide
  have L_0 : (0 : Int32).toInt = 0 := by decide
  have L_1 : (1 : Int32).toInt = 1 := by decide
  refine lv_aload_n hx hb d_DiscMakerModel_both_0 rfl (lv_at hl 0 rfl) ?_
  refine lv_iload_n hx hb d_DiscMakerModel_both_1 rfl (lv_at hl 1 rfl) ?_
  refine lv_iload_n hx hb d_DiscMakerModel_both_2 rfl (lv_at hl 2 rfl) ?_
  refine lv_iload_n hx hb d_DiscMakerModel_both_3 rfl (lv_at hl 3 rfl) ?_
  have hPc := hP.sub (ws' := [(h0, .inr (11, MO ma sv_thrown sv_length sv_nodes sv_many sv_directories sv_runsFrom sv_runs sv_read sv_wrong sv_isNamed sv_goes sv_goesSize sv_goesAt sv_targetParts sv_isRoot)), ((ma 16), .inl (cJ, 46080, .inr (.inl F)))]) [0, 1] rfl
  have hDc := hD.sub (ws' := [(h0, .inr (11, MO ma sv_thrown sv_length sv_nodes sv_many sv_directories sv_runsFrom sv_runs sv_read sv_wrong sv_isNamed sv_goes sv_goesSize sv_goesAt sv_targetParts sv_isRoot)), ((ma 16), .inl (cJ, 46080, .inr (.inl F)))]) [0, 1] (by decide +kernel) rfl
  have hFc := va_free (wc := [(h0, .inr (11, MO ma sv_thrown sv_length sv_nodes sv_many sv_directories sv_runsFrom sv_runs sv_read sv_wrong sv_isNamed sv_goes sv_goesSize sv_goesAt sv_targetParts sv_isRoot)), ((ma 16), .inl (cJ, 46080, .inr (.inl F)))]) hD hS hA [0, 1] rfl
  have hkc : 0 ≤ 0 := by decide
  have hks : 0 ≤ 0 := by decide
  refine va_callv (va_runV (C := "DiscMakerModel") (As := [.int x, .int y, .int z]) (rest := []) ⟨hx, hb, hml, hown, hts⟩ (m_low l D cB cI cJ cZ cN cF s.heap.size h0 ma sv_thrown sv_length sv_nodes sv_many sv_directories sv_runsFrom sv_runs sv_read sv_wrong sv_isNamed sv_goes sv_goesSize sv_goesAt sv_targetParts sv_isRoot F x y z (by (try dsimp only); first | assumption | omega | trivial) (by (try dsimp only); first | assumption | omega | trivial) (by (try dsimp only); first | assumption | omega | trivial)) (cwV 3 hts (lg_goodV k1744 k1746 k82 k125 kc_DiscMakerModel_low) rfl rfl rfl (by decide +kernel) ⟨Nat.le_of_ble_eq_true rfl, Nat.le_of_ble_eq_true rfl⟩) ⟨fun a U g mk q => by obtain ⟨q0, q1, qP, qK, qN, qD⟩ := q; exact ⟨q0, q1, qP, va_K.moved (u := U) (U := U.calling g mk a) (Vm.Alike.refl U.vm) qK, qN.calling, qD⟩, va_recv hK hP (ci := 11) (q0 := 0) rfl rfl, fun U hU hW => ⟨rfl, by rw [hU], by rw [hU]; exact hPc, va_K.moved hW.alike hK, NN.warm hW hN, hDc.weaken (fun _ _ _ _ => trivial)⟩⟩ rfl rfl hl.1 rfl (lv_room (Nat.le_of_ble_eq_true rfl)) d_DiscMakerModel_both_4 ⟨hkc, hks⟩) hS (fun q _ h => hFc q h) hFc (fun u t H1 locs ht hvm hp_r1 hB hz1 hk1 hS => ?_)
  obtain ⟨G_2, rfl⟩ : ∃ z, z = u := ⟨_, rfl⟩
  obtain ⟨hP1, hD1⟩ := hB
  rw [ht] at hP1
  obtain ⟨hP, hD⟩ := va_join (wr := []) (w1 := [(h0, .inr (11, MO ma sv_thrown sv_length sv_nodes sv_many sv_directories sv_runsFrom sv_runs sv_read sv_wrong sv_isNamed sv_goes sv_goesSize sv_goesAt sv_targetParts sv_isRoot)), ((ma 16), .inl (cJ, 46080, .inr (.inl G_2)))]) hP hD [0, 1] [] rfl rfl (by decide +kernel) (by decide +kernel) hk1 hFc hP1 hD1
  clear hPc hDc hFc hP1 hD1 hk1 hz1 hkc hks
  generalize H1 = H at hP hS ⊢
  have hP : va_P D CL [(h0, .inr (11, MO ma sv_thrown sv_length sv_nodes sv_many sv_directories sv_runsFrom sv_runs sv_read sv_wrong sv_isNamed sv_goes sv_goesSize sv_goesAt sv_targetParts sv_isRoot)), ((ma 16), .inl (cJ, 46080, .inr (.inl G_2)))] H := hP
  have hD : va_D A [(h0, .inr (11, MO ma sv_thrown sv_length sv_nodes sv_many sv_directories sv_runsFrom sv_runs sv_read sv_wrong sv_isNamed sv_goes sv_goesSize sv_goesAt sv_targetParts sv_isRoot)), ((ma 16), .inl (cJ, 46080, .inr (.inl G_2)))] := hD
  refine lv_aload_n hx hb d_DiscMakerModel_both_7 rfl (lv_at hl 0 rfl) ?_
  refine lv_iload_n hx hb d_DiscMakerModel_both_8 rfl (lv_at hl 1 rfl) ?_
  refine lv_iload_n hx hb d_DiscMakerModel_both_9 rfl (lv_at hl 2 rfl) ?_
  refine lv_iadd hx hb d_DiscMakerModel_both_10 ?_
  refine lv_topi (fun v3 e_v3 => ?_)
  have t_v3 : v3.toInt = x.toInt + y.toInt := by rw [e_v3]; exact i_add rfl rfl (by omega) (by omega)
  refine lv_iload_n hx hb d_DiscMakerModel_both_11 rfl (lv_at hl 2 rfl) ?_
  refine lv_iload_n hx hb d_DiscMakerModel_both_12 rfl (lv_at hl 3 rfl) ?_
  have hPc := hP.sub (ws' := [(h0, .inr (11, MO ma sv_thrown sv_length sv_nodes sv_many sv_directories sv_runsFrom sv_runs sv_read sv_wrong sv_isNamed sv_goes sv_goesSize sv_goesAt sv_targetParts sv_isRoot)), ((ma 16), .inl (cJ, 46080, .inr (.inl G_2)))]) [0, 1] rfl
  have hDc := hD.sub (ws' := [(h0, .inr (11, MO ma sv_thrown sv_length sv_nodes sv_many sv_directories sv_runsFrom sv_runs sv_read sv_wrong sv_isNamed sv_goes sv_goesSize sv_goesAt sv_targetParts sv_isRoot)), ((ma 16), .inl (cJ, 46080, .inr (.inl G_2)))]) [0, 1] (by decide +kernel) rfl
  have hFc := va_free (wc := [(h0, .inr (11, MO ma sv_thrown sv_length sv_nodes sv_many sv_directories sv_runsFrom sv_runs sv_read sv_wrong sv_isNamed sv_goes sv_goesSize sv_goesAt sv_targetParts sv_isRoot)), ((ma 16), .inl (cJ, 46080, .inr (.inl G_2)))]) hD hS hA [0, 1] rfl
  have hkc : 0 ≤ 0 := by decide
  have hks : 0 ≤ 0 := by decide
  refine va_callv (va_runV (C := "DiscMakerModel") (As := [.int v3, .int y, .int z]) (rest := []) ⟨hx, hb, hml, hown, hts⟩ (m_high l D cB cI cJ cZ cN cF H.size h0 ma sv_thrown sv_length sv_nodes sv_many sv_directories sv_runsFrom sv_runs sv_read sv_wrong sv_isNamed sv_goes sv_goesSize sv_goesAt sv_targetParts sv_isRoot G_2 v3 y z (by (try dsimp only); first | assumption | omega | trivial) (by (try dsimp only); first | assumption | omega | trivial) (by (try dsimp only); first | assumption | omega | trivial)) (cwV 3 hts (lg_goodV k1748 k1750 k83 k125 kc_DiscMakerModel_high) rfl rfl rfl (by decide +kernel) ⟨Nat.le_of_ble_eq_true rfl, Nat.le_of_ble_eq_true rfl⟩) ⟨fun a U g mk q => by obtain ⟨q0, q1, qP, qK, qN, qD⟩ := q; exact ⟨q0, q1, qP, va_K.moved (u := U) (U := U.calling g mk a) (Vm.Alike.refl U.vm) qK, qN.calling, qD⟩, va_recv hK hP (ci := 11) (q0 := 0) rfl rfl, fun U hU hW => ⟨rfl, by rw [hU], by rw [hU]; exact hPc, va_K.moved hW.alike hK, NN.warm hW hN, hDc.weaken (fun _ _ _ _ => trivial)⟩⟩ rfl rfl hl.1 rfl (lv_room (Nat.le_of_ble_eq_true rfl)) d_DiscMakerModel_both_13 ⟨hkc, hks⟩) hS (fun q _ h => hFc q h) hFc (fun u t H1 locs ht hvm hp_r4 hB hz1 hk1 hS => ?_)
  obtain ⟨G_5, rfl⟩ : ∃ z, z = u := ⟨_, rfl⟩
  obtain ⟨hP1, hD1⟩ := hB
  rw [ht] at hP1
  obtain ⟨hP, hD⟩ := va_join (wr := []) (w1 := [(h0, .inr (11, MO ma sv_thrown sv_length sv_nodes sv_many sv_directories sv_runsFrom sv_runs sv_read sv_wrong sv_isNamed sv_goes sv_goesSize sv_goesAt sv_targetParts sv_isRoot)), ((ma 16), .inl (cJ, 46080, .inr (.inl G_5)))]) hP hD [0, 1] [] rfl rfl (by decide +kernel) (by decide +kernel) hk1 hFc hP1 hD1
  clear hPc hDc hFc hP1 hD1 hk1 hz1 hkc hks
  generalize H1 = H at hP hS ⊢
  have hP : va_P D CL [(h0, .inr (11, MO ma sv_thrown sv_length sv_nodes sv_many sv_directories sv_runsFrom sv_runs sv_read sv_wrong sv_isNamed sv_goes sv_goesSize sv_goesAt sv_targetParts sv_isRoot)), ((ma 16), .inl (cJ, 46080, .inr (.inl G_5)))] H := hP
  have hD : va_D A [(h0, .inr (11, MO ma sv_thrown sv_length sv_nodes sv_many sv_directories sv_runsFrom sv_runs sv_read sv_wrong sv_isNamed sv_goes sv_goesSize sv_goesAt sv_targetParts sv_isRoot)), ((ma 16), .inl (cJ, 46080, .inr (.inl G_5)))] := hD
  have hP9 := hP.sub (ws' := [(h0, .inr (11, MO ma sv_thrown sv_length sv_nodes sv_many sv_directories sv_runsFrom sv_runs sv_read sv_wrong sv_isNamed sv_goes sv_goesSize sv_goesAt sv_targetParts sv_isRoot)), ((ma 16), .inl (cJ, 46080, .inr (.inl G_5)))]) [0, 1] rfl
  have hD9 := hD.sub (ws' := [(h0, .inr (11, MO ma sv_thrown sv_length sv_nodes sv_many sv_directories sv_runsFrom sv_runs sv_read sv_wrong sv_isNamed sv_goes sv_goesSize sv_goesAt sv_targetParts sv_isRoot)), ((ma 16), .inl (cJ, 46080, .inr (.inl G_5)))]) [0, 1] (by decide +kernel) rfl
  exact W.vret hx hb hr (fun t ht hW => ⟨⟨G_5, rfl, trivial, by rw [ht]; exact hP9, hD9⟩, hS.F ht⟩) hS.2.2 d_DiscMakerModel_both_16

theorem d_DiscMakerModel_stamp_0 : decode b_DiscMakerModel_stamp 0 = .ok (.aload_n 0, 1) := by decide +kernel
theorem d_DiscMakerModel_stamp_1 : decode b_DiscMakerModel_stamp 1 = .ok (.iload_n 1, 1) := by decide +kernel
theorem d_DiscMakerModel_stamp_2 : decode b_DiscMakerModel_stamp 2 = .ok (.bipush 18, 2) := by decide +kernel
theorem d_DiscMakerModel_stamp_4 : decode b_DiscMakerModel_stamp 4 = .ok (.iadd, 1) := by decide +kernel
theorem d_DiscMakerModel_stamp_5 : decode b_DiscMakerModel_stamp 5 = .ok (.bipush 100, 2) := by decide +kernel
theorem d_DiscMakerModel_stamp_7 : decode b_DiscMakerModel_stamp 7 = .ok (.invokevirtual 192, 3) := by decide +kernel
theorem d_DiscMakerModel_stamp_10 : decode b_DiscMakerModel_stamp 10 = .ok (.aload_n 0, 1) := by decide +kernel
theorem d_DiscMakerModel_stamp_11 : decode b_DiscMakerModel_stamp 11 = .ok (.iload_n 1, 1) := by decide +kernel
theorem d_DiscMakerModel_stamp_12 : decode b_DiscMakerModel_stamp 12 = .ok (.bipush 19, 2) := by decide +kernel
theorem d_DiscMakerModel_stamp_14 : decode b_DiscMakerModel_stamp 14 = .ok (.iadd, 1) := by decide +kernel
theorem d_DiscMakerModel_stamp_15 : decode b_DiscMakerModel_stamp 15 = .ok (.iconst 1, 1) := by decide +kernel
theorem d_DiscMakerModel_stamp_16 : decode b_DiscMakerModel_stamp 16 = .ok (.invokevirtual 192, 3) := by decide +kernel
theorem d_DiscMakerModel_stamp_19 : decode b_DiscMakerModel_stamp 19 = .ok (.aload_n 0, 1) := by decide +kernel
theorem d_DiscMakerModel_stamp_20 : decode b_DiscMakerModel_stamp 20 = .ok (.iload_n 1, 1) := by decide +kernel
theorem d_DiscMakerModel_stamp_21 : decode b_DiscMakerModel_stamp 21 = .ok (.bipush 20, 2) := by decide +kernel
theorem d_DiscMakerModel_stamp_23 : decode b_DiscMakerModel_stamp 23 = .ok (.iadd, 1) := by decide +kernel
theorem d_DiscMakerModel_stamp_24 : decode b_DiscMakerModel_stamp 24 = .ok (.iconst 1, 1) := by decide +kernel
theorem d_DiscMakerModel_stamp_25 : decode b_DiscMakerModel_stamp 25 = .ok (.invokevirtual 192, 3) := by decide +kernel
theorem d_DiscMakerModel_stamp_28 : decode b_DiscMakerModel_stamp 28 = .ok (.return_, 1) := by decide +kernel
set_option maxHeartbeats 4000000 in
set_option maxRecDepth 100000 in
theorem m_stamp (l : Launch) (D : va_G) (cB cI cJ cZ cN cF : ClassId) (sz : Nat) (h0 : Nat) (ma : Nat → Nat) (sv_thrown sv_length sv_nodes sv_many sv_directories sv_runsFrom sv_runs sv_read sv_wrong sv_isNamed sv_goes sv_goesSize sv_goesAt sv_targetParts sv_isRoot : Int32) (F : Nat → Int64) (x : Int32) (hx0 : 0 ≤ x.toInt) (hx1 : x.toInt + 21 ≤ 368640) : Met l y_DiscMakerModel_stamp w_DiscMakerModel_stamp ({ frames := 1, cells := 0, slots := 0, locals := 23 }) (va_Pc [.ref h0, .int x] (fun U => U.heap.size = sz ∧ va_P D CL [(h0, .inr (11, MO ma sv_thrown sv_length sv_nodes sv_many sv_directories sv_runsFrom sv_runs sv_read sv_wrong sv_isNamed sv_goes sv_goesSize sv_goesAt sv_targetParts sv_isRoot)), ((ma 16), .inl (cJ, 46080, .inr (.inl F)))] U.heap ∧ va_K D CL (TY cB cI cJ cZ cN cF) U ∧ NN U ∧ va_D (fun _ => True) [(h0, .inr (11, MO ma sv_thrown sv_length sv_nodes sv_many sv_directories sv_runsFrom sv_runs sv_read sv_wrong sv_isNamed sv_goes sv_goesSize sv_goesAt sv_targetParts sv_isRoot)), ((ma 16), .inl (cJ, 46080, .inr (.inl F)))])) (va_Qv (fun (u : (Nat → Int64)) => True) (fun (u : (Nat → Int64)) (t : State) => match u with | G => va_P D CL [(h0, .inr (11, MO ma sv_thrown sv_length sv_nodes sv_many sv_directories sv_runsFrom sv_runs sv_read sv_wrong sv_isNamed sv_goes sv_goesSize sv_goesAt sv_targetParts sv_isRoot)), ((ma 16), .inl (cJ, 46080, .inr (.inl G)))] t.heap ∧ va_D (va_A [(h0, .inr (11, MO ma sv_thrown sv_length sv_nodes sv_many sv_directories sv_runsFrom sv_runs sv_read sv_wrong sv_isNamed sv_goes sv_goesSize sv_goesAt sv_targetParts sv_isRoot)), ((ma 16), .inl (cJ, 46080, .inr (.inl F)))] sz) [(h0, .inr (11, MO ma sv_thrown sv_length sv_nodes sv_many sv_directories sv_runsFrom sv_runs sv_read sv_wrong sv_isNamed sv_goes sv_goesSize sv_goesAt sv_targetParts sv_isRoot)), ((ma 16), .inl (cJ, 46080, .inr (.inl G)))]) (va_A [(h0, .inr (11, MO ma sv_thrown sv_length sv_nodes sv_many sv_directories sv_runsFrom sv_runs sv_read sv_wrong sv_isNamed sv_goes sv_goesSize sv_goesAt sv_targetParts sv_isRoot)), ((ma 16), .inl (cJ, 46080, .inr (.inl F)))] sz)) 0 0 (va_A [(h0, .inr (11, MO ma sv_thrown sv_length sv_nodes sv_many sv_directories sv_runsFrom sv_runs sv_read sv_wrong sv_isNamed sv_goes sv_goesSize sv_goesAt sv_targetParts sv_isRoot)), ((ma 16), .inl (cJ, 46080, .inr (.inl F)))] sz) := by
  refine Met.ofW (cc := b_DiscMakerModel_stamp) (maxL := 2) (ret := none) (by decide) rfl ?_
  intro p e s m args below meth c s₁ B hml hv
  obtain ⟨rfl, hsz, hP, hK, hN, hD0⟩ := hv
  have hx := B.exec
  have hb := B.bytes
  have hr := B.returns
  have hts := atoms_spec (ws := w_DiscMakerModel_stamp) B.pre
  have ht9 := fun (w : Cond) (h : w ∈ lw_g) => hts w (List.mem_cons_of_mem _ h)
  have hown : s.vm.findClass "DiscMakerModel" = some m.cls := findClass_of_methodNamed B.named
  have hlocks := B.notSynchronized
  subst hsz
  have hD := hD0.self (sz := s.heap.size)
  generalize hAe : va_A [(h0, .inr (11, MO ma sv_thrown sv_length sv_nodes sv_many sv_directories sv_runsFrom sv_runs sv_read sv_wrong sv_isNamed sv_goes sv_goesSize sv_goesAt sv_targetParts sv_isRoot)), ((ma 16), .inl (cJ, 46080, .inr (.inl F)))] s.heap.size = A at hD ⊢
  have hA : ∀ q : Nat, s.heap.size ≤ q → A q := fun q h => by rw [← hAe]; exact Or.inr h
  have hS : va_S A s.heap s.heap [] := va_S.rf
  have hP : va_P D CL [(h0, .inr (11, MO ma sv_thrown sv_length sv_nodes sv_many sv_directories sv_runsFrom sv_runs sv_read sv_wrong sv_isNamed sv_goes sv_goesSize sv_goesAt sv_targetParts sv_isRoot)), ((ma 16), .inl (cJ, 46080, .inr (.inl F)))] s.heap := hP
  have hl := lv_entry [.ref h0, .int x] (n := 2) (Nat.le_of_ble_eq_true rfl)
  rw [lg_entry_eq]
  generalize (lg_sl [.ref h0, .int x] ++ List.replicate (2 - (lg_sl [.ref h0, .int x]).length) Slot.unset).toArray = ls at hl ⊢
  have hl : lv_has ls 2 [(0, .ref h0), (1, .int x)] := hl
  have L_m1 : ((-1) : Int32).toInt = (-1) := by decide
  have L_0 : (0 : Int32).toInt = 0 := by decide
  have L_1 : (1 : Int32).toInt = 1 := by decide
  have L_18 : (18 : Int32).toInt = 18 := by decide
  have L_19 : (19 : Int32).toInt = 19 := by decide
  have L_20 : (20 : Int32).toInt = 20 := by decide
  have L_100 : (100 : Int32).toInt = 100 := by decide
  refine lv_aload_n hx hb d_DiscMakerModel_stamp_0 rfl (lv_at hl 0 rfl) ?_
  refine lv_iload_n hx hb d_DiscMakerModel_stamp_1 rfl (lv_at hl 1 rfl) ?_
  refine lv_bipush (v := 18) hx hb d_DiscMakerModel_stamp_2 (by decide) ?_
  refine lv_iadd hx hb d_DiscMakerModel_stamp_4 ?_
  refine lv_topi (fun v1 e_v1 => ?_)
  have t_v1 : v1.toInt = x.toInt + 18 := by rw [e_v1]; exact i_add rfl (by decide) (by omega) (by omega)
  refine lv_bipush (v := 100) hx hb d_DiscMakerModel_stamp_5 (by decide) ?_
  have hPc := hP.sub (ws' := [(h0, .inr (11, MO ma sv_thrown sv_length sv_nodes sv_many sv_directories sv_runsFrom sv_runs sv_read sv_wrong sv_isNamed sv_goes sv_goesSize sv_goesAt sv_targetParts sv_isRoot)), ((ma 16), .inl (cJ, 46080, .inr (.inl F)))]) [0, 1] rfl
  have hDc := hD.sub (ws' := [(h0, .inr (11, MO ma sv_thrown sv_length sv_nodes sv_many sv_directories sv_runsFrom sv_runs sv_read sv_wrong sv_isNamed sv_goes sv_goesSize sv_goesAt sv_targetParts sv_isRoot)), ((ma 16), .inl (cJ, 46080, .inr (.inl F)))]) [0, 1] (by decide +kernel) rfl
  have hFc := va_free (wc := [(h0, .inr (11, MO ma sv_thrown sv_length sv_nodes sv_many sv_directories sv_runsFrom sv_runs sv_read sv_wrong sv_isNamed sv_goes sv_goesSize sv_goesAt sv_targetParts sv_isRoot)), ((ma 16), .inl (cJ, 46080, .inr (.inl F)))]) hD hS hA [0, 1] rfl
  have hkc : 0 ≤ 0 := by decide
  have hks : 0 ≤ 0 := by decide
  refine va_callv (va_runV (C := "DiscMakerModel") (As := [.int v1, .int 100]) (rest := []) ⟨hx, hb, hml, hown, hts⟩ (m_set l D cB cI cJ cZ cN cF s.heap.size h0 ma sv_thrown sv_length sv_nodes sv_many sv_directories sv_runsFrom sv_runs sv_read sv_wrong sv_isNamed sv_goes sv_goesSize sv_goesAt sv_targetParts sv_isRoot F v1 100 (by (try dsimp only); first | assumption | omega | trivial) (by (try dsimp only); first | assumption | omega | trivial)) (cwV 2 hts (lg_goodV k1727 k1729 k79 k125 kc_DiscMakerModel_set) rfl rfl rfl (by decide +kernel) ⟨Nat.le_of_ble_eq_true rfl, Nat.le_of_ble_eq_true rfl⟩) ⟨fun a U g mk q => by obtain ⟨q0, q1, qP, qK, qN, qD⟩ := q; exact ⟨q0, q1, qP, va_K.moved (u := U) (U := U.calling g mk a) (Vm.Alike.refl U.vm) qK, qN.calling, qD⟩, va_recv hK hP (ci := 11) (q0 := 0) rfl rfl, fun U hU hW => ⟨rfl, by rw [hU], by rw [hU]; exact hPc, va_K.moved hW.alike hK, NN.warm hW hN, hDc.weaken (fun _ _ _ _ => trivial)⟩⟩ rfl rfl hl.1 rfl (lv_room (Nat.le_of_ble_eq_true rfl)) d_DiscMakerModel_stamp_7 ⟨hkc, hks⟩) hS (fun q _ h => hFc q h) hFc (fun u t H1 locs ht hvm hp_r2 hB hz1 hk1 hS => ?_)
  obtain ⟨G_3, rfl⟩ : ∃ z, z = u := ⟨_, rfl⟩
  obtain ⟨hP1, hD1⟩ := hB
  rw [ht] at hP1
  obtain ⟨hP, hD⟩ := va_join (wr := []) (w1 := [(h0, .inr (11, MO ma sv_thrown sv_length sv_nodes sv_many sv_directories sv_runsFrom sv_runs sv_read sv_wrong sv_isNamed sv_goes sv_goesSize sv_goesAt sv_targetParts sv_isRoot)), ((ma 16), .inl (cJ, 46080, .inr (.inl G_3)))]) hP hD [0, 1] [] rfl rfl (by decide +kernel) (by decide +kernel) hk1 hFc hP1 hD1
  clear hPc hDc hFc hP1 hD1 hk1 hz1 hkc hks
  generalize H1 = H at hP hS ⊢
  have hP : va_P D CL [(h0, .inr (11, MO ma sv_thrown sv_length sv_nodes sv_many sv_directories sv_runsFrom sv_runs sv_read sv_wrong sv_isNamed sv_goes sv_goesSize sv_goesAt sv_targetParts sv_isRoot)), ((ma 16), .inl (cJ, 46080, .inr (.inl G_3)))] H := hP
  have hD : va_D A [(h0, .inr (11, MO ma sv_thrown sv_length sv_nodes sv_many sv_directories sv_runsFrom sv_runs sv_read sv_wrong sv_isNamed sv_goes sv_goesSize sv_goesAt sv_targetParts sv_isRoot)), ((ma 16), .inl (cJ, 46080, .inr (.inl G_3)))] := hD
  refine lv_aload_n hx hb d_DiscMakerModel_stamp_10 rfl (lv_at hl 0 rfl) ?_
  refine lv_iload_n hx hb d_DiscMakerModel_stamp_11 rfl (lv_at hl 1 rfl) ?_
  refine lv_bipush (v := 19) hx hb d_DiscMakerModel_stamp_12 (by decide) ?_
  refine lv_iadd hx hb d_DiscMakerModel_stamp_14 ?_
  refine lv_topi (fun v4 e_v4 => ?_)
  have t_v4 : v4.toInt = x.toInt + 19 := by rw [e_v4]; exact i_add rfl (by decide) (by omega) (by omega)
  refine lv_iconst (v := 1) hx hb d_DiscMakerModel_stamp_15 (by decide) ?_
  have hPc := hP.sub (ws' := [(h0, .inr (11, MO ma sv_thrown sv_length sv_nodes sv_many sv_directories sv_runsFrom sv_runs sv_read sv_wrong sv_isNamed sv_goes sv_goesSize sv_goesAt sv_targetParts sv_isRoot)), ((ma 16), .inl (cJ, 46080, .inr (.inl G_3)))]) [0, 1] rfl
  have hDc := hD.sub (ws' := [(h0, .inr (11, MO ma sv_thrown sv_length sv_nodes sv_many sv_directories sv_runsFrom sv_runs sv_read sv_wrong sv_isNamed sv_goes sv_goesSize sv_goesAt sv_targetParts sv_isRoot)), ((ma 16), .inl (cJ, 46080, .inr (.inl G_3)))]) [0, 1] (by decide +kernel) rfl
  have hFc := va_free (wc := [(h0, .inr (11, MO ma sv_thrown sv_length sv_nodes sv_many sv_directories sv_runsFrom sv_runs sv_read sv_wrong sv_isNamed sv_goes sv_goesSize sv_goesAt sv_targetParts sv_isRoot)), ((ma 16), .inl (cJ, 46080, .inr (.inl G_3)))]) hD hS hA [0, 1] rfl
  have hkc : 0 ≤ 0 := by decide
  have hks : 0 ≤ 0 := by decide
  refine va_callv (va_runV (C := "DiscMakerModel") (As := [.int v4, .int 1]) (rest := []) ⟨hx, hb, hml, hown, hts⟩ (m_set l D cB cI cJ cZ cN cF H.size h0 ma sv_thrown sv_length sv_nodes sv_many sv_directories sv_runsFrom sv_runs sv_read sv_wrong sv_isNamed sv_goes sv_goesSize sv_goesAt sv_targetParts sv_isRoot G_3 v4 1 (by (try dsimp only); first | assumption | omega | trivial) (by (try dsimp only); first | assumption | omega | trivial)) (cwV 2 hts (lg_goodV k1727 k1729 k79 k125 kc_DiscMakerModel_set) rfl rfl rfl (by decide +kernel) ⟨Nat.le_of_ble_eq_true rfl, Nat.le_of_ble_eq_true rfl⟩) ⟨fun a U g mk q => by obtain ⟨q0, q1, qP, qK, qN, qD⟩ := q; exact ⟨q0, q1, qP, va_K.moved (u := U) (U := U.calling g mk a) (Vm.Alike.refl U.vm) qK, qN.calling, qD⟩, va_recv hK hP (ci := 11) (q0 := 0) rfl rfl, fun U hU hW => ⟨rfl, by rw [hU], by rw [hU]; exact hPc, va_K.moved hW.alike hK, NN.warm hW hN, hDc.weaken (fun _ _ _ _ => trivial)⟩⟩ rfl rfl hl.1 rfl (lv_room (Nat.le_of_ble_eq_true rfl)) d_DiscMakerModel_stamp_16 ⟨hkc, hks⟩) hS (fun q _ h => hFc q h) hFc (fun u t H1 locs ht hvm hp_r5 hB hz1 hk1 hS => ?_)
  obtain ⟨G_6, rfl⟩ : ∃ z, z = u := ⟨_, rfl⟩
  obtain ⟨hP1, hD1⟩ := hB
  rw [ht] at hP1
  obtain ⟨hP, hD⟩ := va_join (wr := []) (w1 := [(h0, .inr (11, MO ma sv_thrown sv_length sv_nodes sv_many sv_directories sv_runsFrom sv_runs sv_read sv_wrong sv_isNamed sv_goes sv_goesSize sv_goesAt sv_targetParts sv_isRoot)), ((ma 16), .inl (cJ, 46080, .inr (.inl G_6)))]) hP hD [0, 1] [] rfl rfl (by decide +kernel) (by decide +kernel) hk1 hFc hP1 hD1
  clear hPc hDc hFc hP1 hD1 hk1 hz1 hkc hks
  generalize H1 = H at hP hS ⊢
  have hP : va_P D CL [(h0, .inr (11, MO ma sv_thrown sv_length sv_nodes sv_many sv_directories sv_runsFrom sv_runs sv_read sv_wrong sv_isNamed sv_goes sv_goesSize sv_goesAt sv_targetParts sv_isRoot)), ((ma 16), .inl (cJ, 46080, .inr (.inl G_6)))] H := hP
  have hD : va_D A [(h0, .inr (11, MO ma sv_thrown sv_length sv_nodes sv_many sv_directories sv_runsFrom sv_runs sv_read sv_wrong sv_isNamed sv_goes sv_goesSize sv_goesAt sv_targetParts sv_isRoot)), ((ma 16), .inl (cJ, 46080, .inr (.inl G_6)))] := hD
  refine lv_aload_n hx hb d_DiscMakerModel_stamp_19 rfl (lv_at hl 0 rfl) ?_
  refine lv_iload_n hx hb d_DiscMakerModel_stamp_20 rfl (lv_at hl 1 rfl) ?_
  refine lv_bipush (v := 20) hx hb d_DiscMakerModel_stamp_21 (by decide) ?_
  refine lv_iadd hx hb d_DiscMakerModel_stamp_23 ?_
  refine lv_topi (fun v7 e_v7 => ?_)
  have t_v7 : v7.toInt = x.toInt + 20 := by rw [e_v7]; exact i_add rfl (by decide) (by omega) (by omega)
  refine lv_iconst (v := 1) hx hb d_DiscMakerModel_stamp_24 (by decide) ?_
  have hPc := hP.sub (ws' := [(h0, .inr (11, MO ma sv_thrown sv_length sv_nodes sv_many sv_directories sv_runsFrom sv_runs sv_read sv_wrong sv_isNamed sv_goes sv_goesSize sv_goesAt sv_targetParts sv_isRoot)), ((ma 16), .inl (cJ, 46080, .inr (.inl G_6)))]) [0, 1] rfl
  have hDc := hD.sub (ws' := [(h0, .inr (11, MO ma sv_thrown sv_length sv_nodes sv_many sv_directories sv_runsFrom sv_runs sv_read sv_wrong sv_isNamed sv_goes sv_goesSize sv_goesAt sv_targetParts sv_isRoot)), ((ma 16), .inl (cJ, 46080, .inr (.inl G_6)))]) [0, 1] (by decide +kernel) rfl
  have hFc := va_free (wc := [(h0, .inr (11, MO ma sv_thrown sv_length sv_nodes sv_many sv_directories sv_runsFrom sv_runs sv_read sv_wrong sv_isNamed sv_goes sv_goesSize sv_goesAt sv_targetParts sv_isRoot)), ((ma 16), .inl (cJ, 46080, .inr (.inl G_6)))]) hD hS hA [0, 1] rfl
  have hkc : 0 ≤ 0 := by decide
  have hks : 0 ≤ 0 := by decide
  refine va_callv (va_runV (C := "DiscMakerModel") (As := [.int v7, .int 1]) (rest := []) ⟨hx, hb, hml, hown, hts⟩ (m_set l D cB cI cJ cZ cN cF H.size h0 ma sv_thrown sv_length sv_nodes sv_many sv_directories sv_runsFrom sv_runs sv_read sv_wrong sv_isNamed sv_goes sv_goesSize sv_goesAt sv_targetParts sv_isRoot G_6 v7 1 (by (try dsimp only); first | assumption | omega | trivial) (by (try dsimp only); first | assumption | omega | trivial)) (cwV 2 hts (lg_goodV k1727 k1729 k79 k125 kc_DiscMakerModel_set) rfl rfl rfl (by decide +kernel) ⟨Nat.le_of_ble_eq_true rfl, Nat.le_of_ble_eq_true rfl⟩) ⟨fun a U g mk q => by obtain ⟨q0, q1, qP, qK, qN, qD⟩ := q; exact ⟨q0, q1, qP, va_K.moved (u := U) (U := U.calling g mk a) (Vm.Alike.refl U.vm) qK, qN.calling, qD⟩, va_recv hK hP (ci := 11) (q0 := 0) rfl rfl, fun U hU hW => ⟨rfl, by rw [hU], by rw [hU]; exact hPc, va_K.moved hW.alike hK, NN.warm hW hN, hDc.weaken (fun _ _ _ _ => trivial)⟩⟩ rfl rfl hl.1 rfl (lv_room (Nat.le_of_ble_eq_true rfl)) d_DiscMakerModel_stamp_25 ⟨hkc, hks⟩) hS (fun q _ h => hFc q h) hFc (fun u t H1 locs ht hvm hp_r8 hB hz1 hk1 hS => ?_)
  obtain ⟨G_9, rfl⟩ : ∃ z, z = u := ⟨_, rfl⟩
  obtain ⟨hP1, hD1⟩ := hB
  rw [ht] at hP1
  obtain ⟨hP, hD⟩ := va_join (wr := []) (w1 := [(h0, .inr (11, MO ma sv_thrown sv_length sv_nodes sv_many sv_directories sv_runsFrom sv_runs sv_read sv_wrong sv_isNamed sv_goes sv_goesSize sv_goesAt sv_targetParts sv_isRoot)), ((ma 16), .inl (cJ, 46080, .inr (.inl G_9)))]) hP hD [0, 1] [] rfl rfl (by decide +kernel) (by decide +kernel) hk1 hFc hP1 hD1
  clear hPc hDc hFc hP1 hD1 hk1 hz1 hkc hks
  generalize H1 = H at hP hS ⊢
  have hP : va_P D CL [(h0, .inr (11, MO ma sv_thrown sv_length sv_nodes sv_many sv_directories sv_runsFrom sv_runs sv_read sv_wrong sv_isNamed sv_goes sv_goesSize sv_goesAt sv_targetParts sv_isRoot)), ((ma 16), .inl (cJ, 46080, .inr (.inl G_9)))] H := hP
  have hD : va_D A [(h0, .inr (11, MO ma sv_thrown sv_length sv_nodes sv_many sv_directories sv_runsFrom sv_runs sv_read sv_wrong sv_isNamed sv_goes sv_goesSize sv_goesAt sv_targetParts sv_isRoot)), ((ma 16), .inl (cJ, 46080, .inr (.inl G_9)))] := hD
  have hP9 := hP.sub (ws' := [(h0, .inr (11, MO ma sv_thrown sv_length sv_nodes sv_many sv_directories sv_runsFrom sv_runs sv_read sv_wrong sv_isNamed sv_goes sv_goesSize sv_goesAt sv_targetParts sv_isRoot)), ((ma 16), .inl (cJ, 46080, .inr (.inl G_9)))]) [0, 1] rfl
  have hD9 := hD.sub (ws' := [(h0, .inr (11, MO ma sv_thrown sv_length sv_nodes sv_many sv_directories sv_runsFrom sv_runs sv_read sv_wrong sv_isNamed sv_goes sv_goesSize sv_goesAt sv_targetParts sv_isRoot)), ((ma 16), .inl (cJ, 46080, .inr (.inl G_9)))]) [0, 1] (by decide +kernel) rfl
  exact W.vret hx hb hr (fun t ht hW => ⟨⟨G_9, rfl, trivial, by rw [ht]; exact hP9, hD9⟩, hS.F ht⟩) hS.2.2 d_DiscMakerModel_stamp_28

theorem d_DiscMakerModel_letters_0 : decode b_DiscMakerModel_letters 0 = .ok (.aload_n 0, 1) := by decide +kernel
theorem d_DiscMakerModel_letters_1 : decode b_DiscMakerModel_letters 1 = .ok (.iload_n 1, 1) := by decide +kernel
theorem d_DiscMakerModel_letters_2 : decode b_DiscMakerModel_letters 2 = .ok (.iload_n 2, 1) := by decide +kernel
theorem d_DiscMakerModel_letters_3 : decode b_DiscMakerModel_letters 3 = .ok (.invokevirtual 192, 3) := by decide +kernel
theorem d_DiscMakerModel_letters_6 : decode b_DiscMakerModel_letters 6 = .ok (.aload_n 0, 1) := by decide +kernel
theorem d_DiscMakerModel_letters_7 : decode b_DiscMakerModel_letters 7 = .ok (.iload_n 1, 1) := by decide +kernel
theorem d_DiscMakerModel_letters_8 : decode b_DiscMakerModel_letters 8 = .ok (.iconst 1, 1) := by decide +kernel
theorem d_DiscMakerModel_letters_9 : decode b_DiscMakerModel_letters 9 = .ok (.iadd, 1) := by decide +kernel
theorem d_DiscMakerModel_letters_10 : decode b_DiscMakerModel_letters 10 = .ok (.iload_n 3, 1) := by decide +kernel
theorem d_DiscMakerModel_letters_11 : decode b_DiscMakerModel_letters 11 = .ok (.invokevirtual 192, 3) := by decide +kernel
theorem d_DiscMakerModel_letters_14 : decode b_DiscMakerModel_letters 14 = .ok (.aload_n 0, 1) := by decide +kernel
theorem d_DiscMakerModel_letters_15 : decode b_DiscMakerModel_letters 15 = .ok (.iload_n 1, 1) := by decide +kernel
theorem d_DiscMakerModel_letters_16 : decode b_DiscMakerModel_letters 16 = .ok (.iconst 2, 1) := by decide +kernel
theorem d_DiscMakerModel_letters_17 : decode b_DiscMakerModel_letters 17 = .ok (.iadd, 1) := by decide +kernel
theorem d_DiscMakerModel_letters_18 : decode b_DiscMakerModel_letters 18 = .ok (.iload 4, 2) := by decide +kernel
theorem d_DiscMakerModel_letters_20 : decode b_DiscMakerModel_letters 20 = .ok (.invokevirtual 192, 3) := by decide +kernel
theorem d_DiscMakerModel_letters_23 : decode b_DiscMakerModel_letters 23 = .ok (.aload_n 0, 1) := by decide +kernel
theorem d_DiscMakerModel_letters_24 : decode b_DiscMakerModel_letters 24 = .ok (.iload_n 1, 1) := by decide +kernel
theorem d_DiscMakerModel_letters_25 : decode b_DiscMakerModel_letters 25 = .ok (.iconst 3, 1) := by decide +kernel
theorem d_DiscMakerModel_letters_26 : decode b_DiscMakerModel_letters 26 = .ok (.iadd, 1) := by decide +kernel
theorem d_DiscMakerModel_letters_27 : decode b_DiscMakerModel_letters 27 = .ok (.iconst 1, 1) := by decide +kernel
theorem d_DiscMakerModel_letters_28 : decode b_DiscMakerModel_letters 28 = .ok (.invokevirtual 192, 3) := by decide +kernel
theorem d_DiscMakerModel_letters_31 : decode b_DiscMakerModel_letters 31 = .ok (.return_, 1) := by decide +kernel
set_option maxHeartbeats 4000000 in
set_option maxRecDepth 100000 in
theorem m_letters (l : Launch) (D : va_G) (cB cI cJ cZ cN cF : ClassId) (sz : Nat) (h0 : Nat) (ma : Nat → Nat) (sv_thrown sv_length sv_nodes sv_many sv_directories sv_runsFrom sv_runs sv_read sv_wrong sv_isNamed sv_goes sv_goesSize sv_goesAt sv_targetParts sv_isRoot : Int32) (F : Nat → Int64) (x : Int32) (y : Int32) (z : Int32) (w : Int32) (hx0 : 0 ≤ x.toInt) (hx1 : x.toInt + 4 ≤ 368640) : Met l y_DiscMakerModel_letters w_DiscMakerModel_letters ({ frames := 1, cells := 0, slots := 0, locals := 23 }) (va_Pc [.ref h0, .int x, .int y, .int z, .int w] (fun U => U.heap.size = sz ∧ va_P D CL [(h0, .inr (11, MO ma sv_thrown sv_length sv_nodes sv_many sv_directories sv_runsFrom sv_runs sv_read sv_wrong sv_isNamed sv_goes sv_goesSize sv_goesAt sv_targetParts sv_isRoot)), ((ma 16), .inl (cJ, 46080, .inr (.inl F)))] U.heap ∧ va_K D CL (TY cB cI cJ cZ cN cF) U ∧ NN U ∧ va_D (fun _ => True) [(h0, .inr (11, MO ma sv_thrown sv_length sv_nodes sv_many sv_directories sv_runsFrom sv_runs sv_read sv_wrong sv_isNamed sv_goes sv_goesSize sv_goesAt sv_targetParts sv_isRoot)), ((ma 16), .inl (cJ, 46080, .inr (.inl F)))])) (va_Qv (fun (u : (Nat → Int64)) => True) (fun (u : (Nat → Int64)) (t : State) => match u with | G => va_P D CL [(h0, .inr (11, MO ma sv_thrown sv_length sv_nodes sv_many sv_directories sv_runsFrom sv_runs sv_read sv_wrong sv_isNamed sv_goes sv_goesSize sv_goesAt sv_targetParts sv_isRoot)), ((ma 16), .inl (cJ, 46080, .inr (.inl G)))] t.heap ∧ va_D (va_A [(h0, .inr (11, MO ma sv_thrown sv_length sv_nodes sv_many sv_directories sv_runsFrom sv_runs sv_read sv_wrong sv_isNamed sv_goes sv_goesSize sv_goesAt sv_targetParts sv_isRoot)), ((ma 16), .inl (cJ, 46080, .inr (.inl F)))] sz) [(h0, .inr (11, MO ma sv_thrown sv_length sv_nodes sv_many sv_directories sv_runsFrom sv_runs sv_read sv_wrong sv_isNamed sv_goes sv_goesSize sv_goesAt sv_targetParts sv_isRoot)), ((ma 16), .inl (cJ, 46080, .inr (.inl G)))]) (va_A [(h0, .inr (11, MO ma sv_thrown sv_length sv_nodes sv_many sv_directories sv_runsFrom sv_runs sv_read sv_wrong sv_isNamed sv_goes sv_goesSize sv_goesAt sv_targetParts sv_isRoot)), ((ma 16), .inl (cJ, 46080, .inr (.inl F)))] sz)) 0 0 (va_A [(h0, .inr (11, MO ma sv_thrown sv_length sv_nodes sv_many sv_directories sv_runsFrom sv_runs sv_read sv_wrong sv_isNamed sv_goes sv_goesSize sv_goesAt sv_targetParts sv_isRoot)), ((ma 16), .inl (cJ, 46080, .inr (.inl F)))] sz) := by
  refine Met.ofW (cc := b_DiscMakerModel_letters) (maxL := 5) (ret := none) (by decide) rfl ?_
  intro p e s m args below meth c s₁ B hml hv
  obtain ⟨rfl, hsz, hP, hK, hN, hD0⟩ := hv
  have hx := B.exec
  have hb := B.bytes
  have hr := B.returns
  have hts := atoms_spec (ws := w_DiscMakerModel_letters) B.pre
  have ht9 := fun (w : Cond) (h : w ∈ lw_g) => hts w (List.mem_cons_of_mem _ h)
  have hown : s.vm.findClass "DiscMakerModel" = some m.cls := findClass_of_methodNamed B.named
  have hlocks := B.notSynchronized
  subst hsz
  have hD := hD0.self (sz := s.heap.size)
  generalize hAe : va_A [(h0, .inr (11, MO ma sv_thrown sv_length sv_nodes sv_many sv_directories sv_runsFrom sv_runs sv_read sv_wrong sv_isNamed sv_goes sv_goesSize sv_goesAt sv_targetParts sv_isRoot)), ((ma 16), .inl (cJ, 46080, .inr (.inl F)))] s.heap.size = A at hD ⊢
  have hA : ∀ q : Nat, s.heap.size ≤ q → A q := fun q h => by rw [← hAe]; exact Or.inr h
  have hS : va_S A s.heap s.heap [] := va_S.rf
  have hP : va_P D CL [(h0, .inr (11, MO ma sv_thrown sv_length sv_nodes sv_many sv_directories sv_runsFrom sv_runs sv_read sv_wrong sv_isNamed sv_goes sv_goesSize sv_goesAt sv_targetParts sv_isRoot)), ((ma 16), .inl (cJ, 46080, .inr (.inl F)))] s.heap := hP
  have hl := lv_entry [.ref h0, .int x, .int y, .int z, .int w] (n := 5) (Nat.le_of_ble_eq_true rfl)
  rw [lg_entry_eq]
  generalize (lg_sl [.ref h0, .int x, .int y, .int z, .int w] ++ List.replicate (5 - (lg_sl [.ref h0, .int x, .int y, .int z, .int w]).length) Slot.unset).toArray = ls at hl ⊢
  have hl : lv_has ls 5 [(0, .ref h0), (1, .int x), (2, .int y), (3, .int z), (4, .int w)] := hl
  have L_m1 : ((-1) : Int32).toInt = (-1) := by decide
  have L_0 : (0 : Int32).toInt = 0 := by decide
  have L_1 : (1 : Int32).toInt = 1 := by decide
  have L_2 : (2 : Int32).toInt = 2 := by decide
  have L_3 : (3 : Int32).toInt = 3 := by decide
  refine lv_aload_n hx hb d_DiscMakerModel_letters_0 rfl (lv_at hl 0 rfl) ?_
  refine lv_iload_n hx hb d_DiscMakerModel_letters_1 rfl (lv_at hl 1 rfl) ?_
  refine lv_iload_n hx hb d_DiscMakerModel_letters_2 rfl (lv_at hl 2 rfl) ?_
  have hPc := hP.sub (ws' := [(h0, .inr (11, MO ma sv_thrown sv_length sv_nodes sv_many sv_directories sv_runsFrom sv_runs sv_read sv_wrong sv_isNamed sv_goes sv_goesSize sv_goesAt sv_targetParts sv_isRoot)), ((ma 16), .inl (cJ, 46080, .inr (.inl F)))]) [0, 1] rfl
  have hDc := hD.sub (ws' := [(h0, .inr (11, MO ma sv_thrown sv_length sv_nodes sv_many sv_directories sv_runsFrom sv_runs sv_read sv_wrong sv_isNamed sv_goes sv_goesSize sv_goesAt sv_targetParts sv_isRoot)), ((ma 16), .inl (cJ, 46080, .inr (.inl F)))]) [0, 1] (by decide +kernel) rfl
  have hFc := va_free (wc := [(h0, .inr (11, MO ma sv_thrown sv_length sv_nodes sv_many sv_directories sv_runsFrom sv_runs sv_read sv_wrong sv_isNamed sv_goes sv_goesSize sv_goesAt sv_targetParts sv_isRoot)), ((ma 16), .inl (cJ, 46080, .inr (.inl F)))]) hD hS hA [0, 1] rfl
  have hkc : 0 ≤ 0 := by decide
  have hks : 0 ≤ 0 := by decide
  refine va_callv (va_runV (C := "DiscMakerModel") (As := [.int x, .int y]) (rest := []) ⟨hx, hb, hml, hown, hts⟩ (m_set l D cB cI cJ cZ cN cF s.heap.size h0 ma sv_thrown sv_length sv_nodes sv_many sv_directories sv_runsFrom sv_runs sv_read sv_wrong sv_isNamed sv_goes sv_goesSize sv_goesAt sv_targetParts sv_isRoot F x y (by (try dsimp only); first | assumption | omega | trivial) (by (try dsimp only); first | assumption | omega | trivial)) (cwV 2 hts (lg_goodV k1727 k1729 k79 k125 kc_DiscMakerModel_set) rfl rfl rfl (by decide +kernel) ⟨Nat.le_of_ble_eq_true rfl, Nat.le_of_ble_eq_true rfl⟩) ⟨fun a U g mk q => by obtain ⟨q0, q1, qP, qK, qN, qD⟩ := q; exact ⟨q0, q1, qP, va_K.moved (u := U) (U := U.calling g mk a) (Vm.Alike.refl U.vm) qK, qN.calling, qD⟩, va_recv hK hP (ci := 11) (q0 := 0) rfl rfl, fun U hU hW => ⟨rfl, by rw [hU], by rw [hU]; exact hPc, va_K.moved hW.alike hK, NN.warm hW hN, hDc.weaken (fun _ _ _ _ => trivial)⟩⟩ rfl rfl hl.1 rfl (lv_room (Nat.le_of_ble_eq_true rfl)) d_DiscMakerModel_letters_3 ⟨hkc, hks⟩) hS (fun q _ h => hFc q h) hFc (fun u t H1 locs ht hvm hp_r1 hB hz1 hk1 hS => ?_)
  obtain ⟨G_2, rfl⟩ : ∃ z, z = u := ⟨_, rfl⟩
  obtain ⟨hP1, hD1⟩ := hB
  rw [ht] at hP1
  obtain ⟨hP, hD⟩ := va_join (wr := []) (w1 := [(h0, .inr (11, MO ma sv_thrown sv_length sv_nodes sv_many sv_directories sv_runsFrom sv_runs sv_read sv_wrong sv_isNamed sv_goes sv_goesSize sv_goesAt sv_targetParts sv_isRoot)), ((ma 16), .inl (cJ, 46080, .inr (.inl G_2)))]) hP hD [0, 1] [] rfl rfl (by decide +kernel) (by decide +kernel) hk1 hFc hP1 hD1
  clear hPc hDc hFc hP1 hD1 hk1 hz1 hkc hks
  generalize H1 = H at hP hS ⊢
  have hP : va_P D CL [(h0, .inr (11, MO ma sv_thrown sv_length sv_nodes sv_many sv_directories sv_runsFrom sv_runs sv_read sv_wrong sv_isNamed sv_goes sv_goesSize sv_goesAt sv_targetParts sv_isRoot)), ((ma 16), .inl (cJ, 46080, .inr (.inl G_2)))] H := hP
  have hD : va_D A [(h0, .inr (11, MO ma sv_thrown sv_length sv_nodes sv_many sv_directories sv_runsFrom sv_runs sv_read sv_wrong sv_isNamed sv_goes sv_goesSize sv_goesAt sv_targetParts sv_isRoot)), ((ma 16), .inl (cJ, 46080, .inr (.inl G_2)))] := hD
  refine lv_aload_n hx hb d_DiscMakerModel_letters_6 rfl (lv_at hl 0 rfl) ?_
  refine lv_iload_n hx hb d_DiscMakerModel_letters_7 rfl (lv_at hl 1 rfl) ?_
  refine lv_iconst (v := 1) hx hb d_DiscMakerModel_letters_8 (by decide) ?_
  refine lv_iadd hx hb d_DiscMakerModel_letters_9 ?_
  refine lv_topi (fun v3 e_v3 => ?_)
  have t_v3 : v3.toInt = x.toInt + 1 := by rw [e_v3]; exact i_add rfl (by decide) (by omega) (by omega)
  refine lv_iload_n hx hb d_DiscMakerModel_letters_10 rfl (lv_at hl 3 rfl) ?_
  have hPc := hP.sub (ws' := [(h0, .inr (11, MO ma sv_thrown sv_length sv_nodes sv_many sv_directories sv_runsFrom sv_runs sv_read sv_wrong sv_isNamed sv_goes sv_goesSize sv_goesAt sv_targetParts sv_isRoot)), ((ma 16), .inl (cJ, 46080, .inr (.inl G_2)))]) [0, 1] rfl
  have hDc := hD.sub (ws' := [(h0, .inr (11, MO ma sv_thrown sv_length sv_nodes sv_many sv_directories sv_runsFrom sv_runs sv_read sv_wrong sv_isNamed sv_goes sv_goesSize sv_goesAt sv_targetParts sv_isRoot)), ((ma 16), .inl (cJ, 46080, .inr (.inl G_2)))]) [0, 1] (by decide +kernel) rfl
  have hFc := va_free (wc := [(h0, .inr (11, MO ma sv_thrown sv_length sv_nodes sv_many sv_directories sv_runsFrom sv_runs sv_read sv_wrong sv_isNamed sv_goes sv_goesSize sv_goesAt sv_targetParts sv_isRoot)), ((ma 16), .inl (cJ, 46080, .inr (.inl G_2)))]) hD hS hA [0, 1] rfl
  have hkc : 0 ≤ 0 := by decide
  have hks : 0 ≤ 0 := by decide
  refine va_callv (va_runV (C := "DiscMakerModel") (As := [.int v3, .int z]) (rest := []) ⟨hx, hb, hml, hown, hts⟩ (m_set l D cB cI cJ cZ cN cF H.size h0 ma sv_thrown sv_length sv_nodes sv_many sv_directories sv_runsFrom sv_runs sv_read sv_wrong sv_isNamed sv_goes sv_goesSize sv_goesAt sv_targetParts sv_isRoot G_2 v3 z (by (try dsimp only); first | assumption | omega | trivial) (by (try dsimp only); first | assumption | omega | trivial)) (cwV 2 hts (lg_goodV k1727 k1729 k79 k125 kc_DiscMakerModel_set) rfl rfl rfl (by decide +kernel) ⟨Nat.le_of_ble_eq_true rfl, Nat.le_of_ble_eq_true rfl⟩) ⟨fun a U g mk q => by obtain ⟨q0, q1, qP, qK, qN, qD⟩ := q; exact ⟨q0, q1, qP, va_K.moved (u := U) (U := U.calling g mk a) (Vm.Alike.refl U.vm) qK, qN.calling, qD⟩, va_recv hK hP (ci := 11) (q0 := 0) rfl rfl, fun U hU hW => ⟨rfl, by rw [hU], by rw [hU]; exact hPc, va_K.moved hW.alike hK, NN.warm hW hN, hDc.weaken (fun _ _ _ _ => trivial)⟩⟩ rfl rfl hl.1 rfl (lv_room (Nat.le_of_ble_eq_true rfl)) d_DiscMakerModel_letters_11 ⟨hkc, hks⟩) hS (fun q _ h => hFc q h) hFc (fun u t H1 locs ht hvm hp_r4 hB hz1 hk1 hS => ?_)
  obtain ⟨G_5, rfl⟩ : ∃ z, z = u := ⟨_, rfl⟩
  obtain ⟨hP1, hD1⟩ := hB
  rw [ht] at hP1
  obtain ⟨hP, hD⟩ := va_join (wr := []) (w1 := [(h0, .inr (11, MO ma sv_thrown sv_length sv_nodes sv_many sv_directories sv_runsFrom sv_runs sv_read sv_wrong sv_isNamed sv_goes sv_goesSize sv_goesAt sv_targetParts sv_isRoot)), ((ma 16), .inl (cJ, 46080, .inr (.inl G_5)))]) hP hD [0, 1] [] rfl rfl (by decide +kernel) (by decide +kernel) hk1 hFc hP1 hD1
  clear hPc hDc hFc hP1 hD1 hk1 hz1 hkc hks
  generalize H1 = H at hP hS ⊢
  have hP : va_P D CL [(h0, .inr (11, MO ma sv_thrown sv_length sv_nodes sv_many sv_directories sv_runsFrom sv_runs sv_read sv_wrong sv_isNamed sv_goes sv_goesSize sv_goesAt sv_targetParts sv_isRoot)), ((ma 16), .inl (cJ, 46080, .inr (.inl G_5)))] H := hP
  have hD : va_D A [(h0, .inr (11, MO ma sv_thrown sv_length sv_nodes sv_many sv_directories sv_runsFrom sv_runs sv_read sv_wrong sv_isNamed sv_goes sv_goesSize sv_goesAt sv_targetParts sv_isRoot)), ((ma 16), .inl (cJ, 46080, .inr (.inl G_5)))] := hD
  refine lv_aload_n hx hb d_DiscMakerModel_letters_14 rfl (lv_at hl 0 rfl) ?_
  refine lv_iload_n hx hb d_DiscMakerModel_letters_15 rfl (lv_at hl 1 rfl) ?_
  refine lv_iconst (v := 2) hx hb d_DiscMakerModel_letters_16 (by decide) ?_
  refine lv_iadd hx hb d_DiscMakerModel_letters_17 ?_
  refine lv_topi (fun v6 e_v6 => ?_)
  have t_v6 : v6.toInt = x.toInt + 2 := by rw [e_v6]; exact i_add rfl (by decide) (by omega) (by omega)
  refine lv_iload hx hb d_DiscMakerModel_letters_18 (lv_at hl 4 rfl) ?_
  have hPc := hP.sub (ws' := [(h0, .inr (11, MO ma sv_thrown sv_length sv_nodes sv_many sv_directories sv_runsFrom sv_runs sv_read sv_wrong sv_isNamed sv_goes sv_goesSize sv_goesAt sv_targetParts sv_isRoot)), ((ma 16), .inl (cJ, 46080, .inr (.inl G_5)))]) [0, 1] rfl
  have hDc := hD.sub (ws' := [(h0, .inr (11, MO ma sv_thrown sv_length sv_nodes sv_many sv_directories sv_runsFrom sv_runs sv_read sv_wrong sv_isNamed sv_goes sv_goesSize sv_goesAt sv_targetParts sv_isRoot)), ((ma 16), .inl (cJ, 46080, .inr (.inl G_5)))]) [0, 1] (by decide +kernel) rfl
  have hFc := va_free (wc := [(h0, .inr (11, MO ma sv_thrown sv_length sv_nodes sv_many sv_directories sv_runsFrom sv_runs sv_read sv_wrong sv_isNamed sv_goes sv_goesSize sv_goesAt sv_targetParts sv_isRoot)), ((ma 16), .inl (cJ, 46080, .inr (.inl G_5)))]) hD hS hA [0, 1] rfl
  have hkc : 0 ≤ 0 := by decide
  have hks : 0 ≤ 0 := by decide
  refine va_callv (va_runV (C := "DiscMakerModel") (As := [.int v6, .int w]) (rest := []) ⟨hx, hb, hml, hown, hts⟩ (m_set l D cB cI cJ cZ cN cF H.size h0 ma sv_thrown sv_length sv_nodes sv_many sv_directories sv_runsFrom sv_runs sv_read sv_wrong sv_isNamed sv_goes sv_goesSize sv_goesAt sv_targetParts sv_isRoot G_5 v6 w (by (try dsimp only); first | assumption | omega | trivial) (by (try dsimp only); first | assumption | omega | trivial)) (cwV 2 hts (lg_goodV k1727 k1729 k79 k125 kc_DiscMakerModel_set) rfl rfl rfl (by decide +kernel) ⟨Nat.le_of_ble_eq_true rfl, Nat.le_of_ble_eq_true rfl⟩) ⟨fun a U g mk q => by obtain ⟨q0, q1, qP, qK, qN, qD⟩ := q; exact ⟨q0, q1, qP, va_K.moved (u := U) (U := U.calling g mk a) (Vm.Alike.refl U.vm) qK, qN.calling, qD⟩, va_recv hK hP (ci := 11) (q0 := 0) rfl rfl, fun U hU hW => ⟨rfl, by rw [hU], by rw [hU]; exact hPc, va_K.moved hW.alike hK, NN.warm hW hN, hDc.weaken (fun _ _ _ _ => trivial)⟩⟩ rfl rfl hl.1 rfl (lv_room (Nat.le_of_ble_eq_true rfl)) d_DiscMakerModel_letters_20 ⟨hkc, hks⟩) hS (fun q _ h => hFc q h) hFc (fun u t H1 locs ht hvm hp_r7 hB hz1 hk1 hS => ?_)
  obtain ⟨G_8, rfl⟩ : ∃ z, z = u := ⟨_, rfl⟩
  obtain ⟨hP1, hD1⟩ := hB
  rw [ht] at hP1
  obtain ⟨hP, hD⟩ := va_join (wr := []) (w1 := [(h0, .inr (11, MO ma sv_thrown sv_length sv_nodes sv_many sv_directories sv_runsFrom sv_runs sv_read sv_wrong sv_isNamed sv_goes sv_goesSize sv_goesAt sv_targetParts sv_isRoot)), ((ma 16), .inl (cJ, 46080, .inr (.inl G_8)))]) hP hD [0, 1] [] rfl rfl (by decide +kernel) (by decide +kernel) hk1 hFc hP1 hD1
  clear hPc hDc hFc hP1 hD1 hk1 hz1 hkc hks
  generalize H1 = H at hP hS ⊢
  have hP : va_P D CL [(h0, .inr (11, MO ma sv_thrown sv_length sv_nodes sv_many sv_directories sv_runsFrom sv_runs sv_read sv_wrong sv_isNamed sv_goes sv_goesSize sv_goesAt sv_targetParts sv_isRoot)), ((ma 16), .inl (cJ, 46080, .inr (.inl G_8)))] H := hP
  have hD : va_D A [(h0, .inr (11, MO ma sv_thrown sv_length sv_nodes sv_many sv_directories sv_runsFrom sv_runs sv_read sv_wrong sv_isNamed sv_goes sv_goesSize sv_goesAt sv_targetParts sv_isRoot)), ((ma 16), .inl (cJ, 46080, .inr (.inl G_8)))] := hD
  refine lv_aload_n hx hb d_DiscMakerModel_letters_23 rfl (lv_at hl 0 rfl) ?_
  refine lv_iload_n hx hb d_DiscMakerModel_letters_24 rfl (lv_at hl 1 rfl) ?_
  refine lv_iconst (v := 3) hx hb d_DiscMakerModel_letters_25 (by decide) ?_
  refine lv_iadd hx hb d_DiscMakerModel_letters_26 ?_
  refine lv_topi (fun v9 e_v9 => ?_)
  have t_v9 : v9.toInt = x.toInt + 3 := by rw [e_v9]; exact i_add rfl (by decide) (by omega) (by omega)
  refine lv_iconst (v := 1) hx hb d_DiscMakerModel_letters_27 (by decide) ?_
  have hPc := hP.sub (ws' := [(h0, .inr (11, MO ma sv_thrown sv_length sv_nodes sv_many sv_directories sv_runsFrom sv_runs sv_read sv_wrong sv_isNamed sv_goes sv_goesSize sv_goesAt sv_targetParts sv_isRoot)), ((ma 16), .inl (cJ, 46080, .inr (.inl G_8)))]) [0, 1] rfl
  have hDc := hD.sub (ws' := [(h0, .inr (11, MO ma sv_thrown sv_length sv_nodes sv_many sv_directories sv_runsFrom sv_runs sv_read sv_wrong sv_isNamed sv_goes sv_goesSize sv_goesAt sv_targetParts sv_isRoot)), ((ma 16), .inl (cJ, 46080, .inr (.inl G_8)))]) [0, 1] (by decide +kernel) rfl
  have hFc := va_free (wc := [(h0, .inr (11, MO ma sv_thrown sv_length sv_nodes sv_many sv_directories sv_runsFrom sv_runs sv_read sv_wrong sv_isNamed sv_goes sv_goesSize sv_goesAt sv_targetParts sv_isRoot)), ((ma 16), .inl (cJ, 46080, .inr (.inl G_8)))]) hD hS hA [0, 1] rfl
  have hkc : 0 ≤ 0 := by decide
  have hks : 0 ≤ 0 := by decide
  refine va_callv (va_runV (C := "DiscMakerModel") (As := [.int v9, .int 1]) (rest := []) ⟨hx, hb, hml, hown, hts⟩ (m_set l D cB cI cJ cZ cN cF H.size h0 ma sv_thrown sv_length sv_nodes sv_many sv_directories sv_runsFrom sv_runs sv_read sv_wrong sv_isNamed sv_goes sv_goesSize sv_goesAt sv_targetParts sv_isRoot G_8 v9 1 (by (try dsimp only); first | assumption | omega | trivial) (by (try dsimp only); first | assumption | omega | trivial)) (cwV 2 hts (lg_goodV k1727 k1729 k79 k125 kc_DiscMakerModel_set) rfl rfl rfl (by decide +kernel) ⟨Nat.le_of_ble_eq_true rfl, Nat.le_of_ble_eq_true rfl⟩) ⟨fun a U g mk q => by obtain ⟨q0, q1, qP, qK, qN, qD⟩ := q; exact ⟨q0, q1, qP, va_K.moved (u := U) (U := U.calling g mk a) (Vm.Alike.refl U.vm) qK, qN.calling, qD⟩, va_recv hK hP (ci := 11) (q0 := 0) rfl rfl, fun U hU hW => ⟨rfl, by rw [hU], by rw [hU]; exact hPc, va_K.moved hW.alike hK, NN.warm hW hN, hDc.weaken (fun _ _ _ _ => trivial)⟩⟩ rfl rfl hl.1 rfl (lv_room (Nat.le_of_ble_eq_true rfl)) d_DiscMakerModel_letters_28 ⟨hkc, hks⟩) hS (fun q _ h => hFc q h) hFc (fun u t H1 locs ht hvm hp_r10 hB hz1 hk1 hS => ?_)
  obtain ⟨G_11, rfl⟩ : ∃ z, z = u := ⟨_, rfl⟩
  obtain ⟨hP1, hD1⟩ := hB
  rw [ht] at hP1
  obtain ⟨hP, hD⟩ := va_join (wr := []) (w1 := [(h0, .inr (11, MO ma sv_thrown sv_length sv_nodes sv_many sv_directories sv_runsFrom sv_runs sv_read sv_wrong sv_isNamed sv_goes sv_goesSize sv_goesAt sv_targetParts sv_isRoot)), ((ma 16), .inl (cJ, 46080, .inr (.inl G_11)))]) hP hD [0, 1] [] rfl rfl (by decide +kernel) (by decide +kernel) hk1 hFc hP1 hD1
  clear hPc hDc hFc hP1 hD1 hk1 hz1 hkc hks
  generalize H1 = H at hP hS ⊢
  have hP : va_P D CL [(h0, .inr (11, MO ma sv_thrown sv_length sv_nodes sv_many sv_directories sv_runsFrom sv_runs sv_read sv_wrong sv_isNamed sv_goes sv_goesSize sv_goesAt sv_targetParts sv_isRoot)), ((ma 16), .inl (cJ, 46080, .inr (.inl G_11)))] H := hP
  have hD : va_D A [(h0, .inr (11, MO ma sv_thrown sv_length sv_nodes sv_many sv_directories sv_runsFrom sv_runs sv_read sv_wrong sv_isNamed sv_goes sv_goesSize sv_goesAt sv_targetParts sv_isRoot)), ((ma 16), .inl (cJ, 46080, .inr (.inl G_11)))] := hD
  have hP9 := hP.sub (ws' := [(h0, .inr (11, MO ma sv_thrown sv_length sv_nodes sv_many sv_directories sv_runsFrom sv_runs sv_read sv_wrong sv_isNamed sv_goes sv_goesSize sv_goesAt sv_targetParts sv_isRoot)), ((ma 16), .inl (cJ, 46080, .inr (.inl G_11)))]) [0, 1] rfl
  have hD9 := hD.sub (ws' := [(h0, .inr (11, MO ma sv_thrown sv_length sv_nodes sv_many sv_directories sv_runsFrom sv_runs sv_read sv_wrong sv_isNamed sv_goes sv_goesSize sv_goesAt sv_targetParts sv_isRoot)), ((ma 16), .inl (cJ, 46080, .inr (.inl G_11)))]) [0, 1] (by decide +kernel) rfl
  exact W.vret hx hb hr (fun t ht hW => ⟨⟨G_11, rfl, trivial, by rw [ht]; exact hP9, hD9⟩, hS.F ht⟩) hS.2.2 d_DiscMakerModel_letters_31

theorem d_DiscMakerModel_mark_0 : decode b_DiscMakerModel_mark 0 = .ok (.iload_n 1, 1) := by decide +kernel
theorem d_DiscMakerModel_mark_1 : decode b_DiscMakerModel_mark 1 = .ok (.ifCond .ge 4, 3) := by decide +kernel
theorem d_DiscMakerModel_mark_4 : decode b_DiscMakerModel_mark 4 = .ok (.return_, 1) := by decide +kernel
theorem d_DiscMakerModel_mark_5 : decode b_DiscMakerModel_mark 5 = .ok (.aload_n 0, 1) := by decide +kernel
theorem d_DiscMakerModel_mark_6 : decode b_DiscMakerModel_mark 6 = .ok (.iload_n 1, 1) := by decide +kernel
theorem d_DiscMakerModel_mark_7 : decode b_DiscMakerModel_mark 7 = .ok (.iload_n 2, 1) := by decide +kernel
theorem d_DiscMakerModel_mark_8 : decode b_DiscMakerModel_mark 8 = .ok (.iadd, 1) := by decide +kernel
theorem d_DiscMakerModel_mark_9 : decode b_DiscMakerModel_mark 9 = .ok (.iload_n 3, 1) := by decide +kernel
theorem d_DiscMakerModel_mark_10 : decode b_DiscMakerModel_mark 10 = .ok (.invokevirtual 192, 3) := by decide +kernel
theorem d_DiscMakerModel_mark_13 : decode b_DiscMakerModel_mark 13 = .ok (.aload_n 0, 1) := by decide +kernel
theorem d_DiscMakerModel_mark_14 : decode b_DiscMakerModel_mark 14 = .ok (.iload_n 1, 1) := by decide +kernel
theorem d_DiscMakerModel_mark_15 : decode b_DiscMakerModel_mark 15 = .ok (.iload_n 2, 1) := by decide +kernel
theorem d_DiscMakerModel_mark_16 : decode b_DiscMakerModel_mark 16 = .ok (.iadd, 1) := by decide +kernel
theorem d_DiscMakerModel_mark_17 : decode b_DiscMakerModel_mark 17 = .ok (.iconst 1, 1) := by decide +kernel
theorem d_DiscMakerModel_mark_18 : decode b_DiscMakerModel_mark 18 = .ok (.iadd, 1) := by decide +kernel
theorem d_DiscMakerModel_mark_19 : decode b_DiscMakerModel_mark 19 = .ok (.iload 4, 2) := by decide +kernel
theorem d_DiscMakerModel_mark_21 : decode b_DiscMakerModel_mark 21 = .ok (.invokevirtual 192, 3) := by decide +kernel
theorem d_DiscMakerModel_mark_24 : decode b_DiscMakerModel_mark 24 = .ok (.return_, 1) := by decide +kernel
set_option maxHeartbeats 4000000 in
set_option maxRecDepth 100000 in
theorem m_mark (l : Launch) (D : va_G) (cB cI cJ cZ cN cF : ClassId) (sz : Nat) (h0 : Nat) (ma : Nat → Nat) (sv_thrown sv_length sv_nodes sv_many sv_directories sv_runsFrom sv_runs sv_read sv_wrong sv_isNamed sv_goes sv_goesSize sv_goesAt sv_targetParts sv_isRoot : Int32) (F : Nat → Int64) (x : Int32) (y : Int32) (z : Int32) (w : Int32) (hx0 : x.toInt < 0 ∨ (0 ≤ y.toInt ∧ x.toInt + y.toInt + 2 ≤ 368640)) : Met l y_DiscMakerModel_mark w_DiscMakerModel_mark ({ frames := 1, cells := 0, slots := 0, locals := 23 }) (va_Pc [.ref h0, .int x, .int y, .int z, .int w] (fun U => U.heap.size = sz ∧ va_P D CL [(h0, .inr (11, MO ma sv_thrown sv_length sv_nodes sv_many sv_directories sv_runsFrom sv_runs sv_read sv_wrong sv_isNamed sv_goes sv_goesSize sv_goesAt sv_targetParts sv_isRoot)), ((ma 16), .inl (cJ, 46080, .inr (.inl F)))] U.heap ∧ va_K D CL (TY cB cI cJ cZ cN cF) U ∧ NN U ∧ va_D (fun _ => True) [(h0, .inr (11, MO ma sv_thrown sv_length sv_nodes sv_many sv_directories sv_runsFrom sv_runs sv_read sv_wrong sv_isNamed sv_goes sv_goesSize sv_goesAt sv_targetParts sv_isRoot)), ((ma 16), .inl (cJ, 46080, .inr (.inl F)))])) (va_Qv (fun (u : (Nat → Int64)) => True) (fun (u : (Nat → Int64)) (t : State) => match u with | G => va_P D CL [(h0, .inr (11, MO ma sv_thrown sv_length sv_nodes sv_many sv_directories sv_runsFrom sv_runs sv_read sv_wrong sv_isNamed sv_goes sv_goesSize sv_goesAt sv_targetParts sv_isRoot)), ((ma 16), .inl (cJ, 46080, .inr (.inl G)))] t.heap ∧ va_D (va_A [(h0, .inr (11, MO ma sv_thrown sv_length sv_nodes sv_many sv_directories sv_runsFrom sv_runs sv_read sv_wrong sv_isNamed sv_goes sv_goesSize sv_goesAt sv_targetParts sv_isRoot)), ((ma 16), .inl (cJ, 46080, .inr (.inl F)))] sz) [(h0, .inr (11, MO ma sv_thrown sv_length sv_nodes sv_many sv_directories sv_runsFrom sv_runs sv_read sv_wrong sv_isNamed sv_goes sv_goesSize sv_goesAt sv_targetParts sv_isRoot)), ((ma 16), .inl (cJ, 46080, .inr (.inl G)))]) (va_A [(h0, .inr (11, MO ma sv_thrown sv_length sv_nodes sv_many sv_directories sv_runsFrom sv_runs sv_read sv_wrong sv_isNamed sv_goes sv_goesSize sv_goesAt sv_targetParts sv_isRoot)), ((ma 16), .inl (cJ, 46080, .inr (.inl F)))] sz)) 0 0 (va_A [(h0, .inr (11, MO ma sv_thrown sv_length sv_nodes sv_many sv_directories sv_runsFrom sv_runs sv_read sv_wrong sv_isNamed sv_goes sv_goesSize sv_goesAt sv_targetParts sv_isRoot)), ((ma 16), .inl (cJ, 46080, .inr (.inl F)))] sz) := by
  refine Met.ofW (cc := b_DiscMakerModel_mark) (maxL := 5) (ret := none) (by decide) rfl ?_
  intro p e s m args below meth c s₁ B hml hv
  obtain ⟨rfl, hsz, hP, hK, hN, hD0⟩ := hv
  have hx := B.exec
  have hb := B.bytes
  have hr := B.returns
  have hts := atoms_spec (ws := w_DiscMakerModel_mark) B.pre
  have ht9 := fun (w : Cond) (h : w ∈ lw_g) => hts w (List.mem_cons_of_mem _ h)
  have hown : s.vm.findClass "DiscMakerModel" = some m.cls := findClass_of_methodNamed B.named
  have hlocks := B.notSynchronized
  subst hsz
  have hD := hD0.self (sz := s.heap.size)
  generalize hAe : va_A [(h0, .inr (11, MO ma sv_thrown sv_length sv_nodes sv_many sv_directories sv_runsFrom sv_runs sv_read sv_wrong sv_isNamed sv_goes sv_goesSize sv_goesAt sv_targetParts sv_isRoot)), ((ma 16), .inl (cJ, 46080, .inr (.inl F)))] s.heap.size = A at hD ⊢
  have hA : ∀ q : Nat, s.heap.size ≤ q → A q := fun q h => by rw [← hAe]; exact Or.inr h
  have hS : va_S A s.heap s.heap [] := va_S.rf
  have hP : va_P D CL [(h0, .inr (11, MO ma sv_thrown sv_length sv_nodes sv_many sv_directories sv_runsFrom sv_runs sv_read sv_wrong sv_isNamed sv_goes sv_goesSize sv_goesAt sv_targetParts sv_isRoot)), ((ma 16), .inl (cJ, 46080, .inr (.inl F)))] s.heap := hP
  have hl := lv_entry [.ref h0, .int x, .int y, .int z, .int w] (n := 5) (Nat.le_of_ble_eq_true rfl)
  rw [lg_entry_eq]
  generalize (lg_sl [.ref h0, .int x, .int y, .int z, .int w] ++ List.replicate (5 - (lg_sl [.ref h0, .int x, .int y, .int z, .int w]).length) Slot.unset).toArray = ls at hl ⊢
  have hl : lv_has ls 5 [(0, .ref h0), (1, .int x), (2, .int y), (3, .int z), (4, .int w)] := hl
  have L_m1 : ((-1) : Int32).toInt = (-1) := by decide
  have L_0 : (0 : Int32).toInt = 0 := by decide
  have L_1 : (1 : Int32).toInt = 1 := by decide
  refine lv_iload_n hx hb d_DiscMakerModel_mark_0 rfl (lv_at hl 1 rfl) ?_
  refine lv_if_ge (tgt := 5) hx hb d_DiscMakerModel_mark_1 (by decide) (fun h_9 => ?_) (fun h_9 => ?_)
  · skip
    have g1_2 : 0 ≤ x.toInt := (i_le (by decide) rfl).mp h_9
    refine lv_aload_n hx hb d_DiscMakerModel_mark_5 rfl (lv_at hl 0 rfl) ?_
    refine lv_iload_n hx hb d_DiscMakerModel_mark_6 rfl (lv_at hl 1 rfl) ?_
    refine lv_iload_n hx hb d_DiscMakerModel_mark_7 rfl (lv_at hl 2 rfl) ?_
    refine lv_iadd hx hb d_DiscMakerModel_mark_8 ?_
    refine lv_topi (fun v1 e_v1 => ?_)
    have t_v1 : v1.toInt = x.toInt + y.toInt := by rw [e_v1]; exact i_add rfl rfl (by omega) (by omega)
    refine lv_iload_n hx hb d_DiscMakerModel_mark_9 rfl (lv_at hl 3 rfl) ?_
    have hPc := hP.sub (ws' := [(h0, .inr (11, MO ma sv_thrown sv_length sv_nodes sv_many sv_directories sv_runsFrom sv_runs sv_read sv_wrong sv_isNamed sv_goes sv_goesSize sv_goesAt sv_targetParts sv_isRoot)), ((ma 16), .inl (cJ, 46080, .inr (.inl F)))]) [0, 1] rfl
    have hDc := hD.sub (ws' := [(h0, .inr (11, MO ma sv_thrown sv_length sv_nodes sv_many sv_directories sv_runsFrom sv_runs sv_read sv_wrong sv_isNamed sv_goes sv_goesSize sv_goesAt sv_targetParts sv_isRoot)), ((ma 16), .inl (cJ, 46080, .inr (.inl F)))]) [0, 1] (by decide +kernel) rfl
    have hFc := va_free (wc := [(h0, .inr (11, MO ma sv_thrown sv_length sv_nodes sv_many sv_directories sv_runsFrom sv_runs sv_read sv_wrong sv_isNamed sv_goes sv_goesSize sv_goesAt sv_targetParts sv_isRoot)), ((ma 16), .inl (cJ, 46080, .inr (.inl F)))]) hD hS hA [0, 1] rfl
    have hkc : 0 ≤ 0 := by decide
    have hks : 0 ≤ 0 := by decide
    refine va_callv (va_runV (C := "DiscMakerModel") (As := [.int v1, .int z]) (rest := []) ⟨hx, hb, hml, hown, hts⟩ (m_set l D cB cI cJ cZ cN cF s.heap.size h0 ma sv_thrown sv_length sv_nodes sv_many sv_directories sv_runsFrom sv_runs sv_read sv_wrong sv_isNamed sv_goes sv_goesSize sv_goesAt sv_targetParts sv_isRoot F v1 z (by (try dsimp only); first | assumption | omega | trivial) (by (try dsimp only); first | assumption | omega | trivial)) (cwV 2 hts (lg_goodV k1727 k1729 k79 k125 kc_DiscMakerModel_set) rfl rfl rfl (by decide +kernel) ⟨Nat.le_of_ble_eq_true rfl, Nat.le_of_ble_eq_true rfl⟩) ⟨fun a U g mk q => by obtain ⟨q0, q1, qP, qK, qN, qD⟩ := q; exact ⟨q0, q1, qP, va_K.moved (u := U) (U := U.calling g mk a) (Vm.Alike.refl U.vm) qK, qN.calling, qD⟩, va_recv hK hP (ci := 11) (q0 := 0) rfl rfl, fun U hU hW => ⟨rfl, by rw [hU], by rw [hU]; exact hPc, va_K.moved hW.alike hK, NN.warm hW hN, hDc.weaken (fun _ _ _ _ => trivial)⟩⟩ rfl rfl hl.1 rfl (lv_room (Nat.le_of_ble_eq_true rfl)) d_DiscMakerModel_mark_10 ⟨hkc, hks⟩) hS (fun q _ h => hFc q h) hFc (fun u t H1 locs ht hvm hp_r2 hB hz1 hk1 hS => ?_)
    obtain ⟨G_3, rfl⟩ : ∃ z, z = u := ⟨_, rfl⟩
    obtain ⟨hP1, hD1⟩ := hB
    rw [ht] at hP1
    obtain ⟨hP, hD⟩ := va_join (wr := []) (w1 := [(h0, .inr (11, MO ma sv_thrown sv_length sv_nodes sv_many sv_directories sv_runsFrom sv_runs sv_read sv_wrong sv_isNamed sv_goes sv_goesSize sv_goesAt sv_targetParts sv_isRoot)), ((ma 16), .inl (cJ, 46080, .inr (.inl G_3)))]) hP hD [0, 1] [] rfl rfl (by decide +kernel) (by decide +kernel) hk1 hFc hP1 hD1
    clear hPc hDc hFc hP1 hD1 hk1 hz1 hkc hks
    generalize H1 = H at hP hS ⊢
    have hP : va_P D CL [(h0, .inr (11, MO ma sv_thrown sv_length sv_nodes sv_many sv_directories sv_runsFrom sv_runs sv_read sv_wrong sv_isNamed sv_goes sv_goesSize sv_goesAt sv_targetParts sv_isRoot)), ((ma 16), .inl (cJ, 46080, .inr (.inl G_3)))] H := hP
    have hD : va_D A [(h0, .inr (11, MO ma sv_thrown sv_length sv_nodes sv_many sv_directories sv_runsFrom sv_runs sv_read sv_wrong sv_isNamed sv_goes sv_goesSize sv_goesAt sv_targetParts sv_isRoot)), ((ma 16), .inl (cJ, 46080, .inr (.inl G_3)))] := hD
    refine lv_aload_n hx hb d_DiscMakerModel_mark_13 rfl (lv_at hl 0 rfl) ?_
    refine lv_iload_n hx hb d_DiscMakerModel_mark_14 rfl (lv_at hl 1 rfl) ?_
    refine lv_iload_n hx hb d_DiscMakerModel_mark_15 rfl (lv_at hl 2 rfl) ?_
    refine lv_iadd hx hb d_DiscMakerModel_mark_16 ?_
    refine lv_topi (fun v4 e_v4 => ?_)
    have t_v4 : v4.toInt = x.toInt + y.toInt := by rw [e_v4]; exact i_add rfl rfl (by omega) (by omega)
    refine lv_iconst (v := 1) hx hb d_DiscMakerModel_mark_17 (by decide) ?_
    refine lv_iadd hx hb d_DiscMakerModel_mark_18 ?_
    refine lv_topi (fun v5 e_v5 => ?_)
    have t_v5 : v5.toInt = v4.toInt + 1 := by rw [e_v5]; exact i_add rfl (by decide) (by omega) (by omega)
    refine lv_iload hx hb d_DiscMakerModel_mark_19 (lv_at hl 4 rfl) ?_
    have hPc := hP.sub (ws' := [(h0, .inr (11, MO ma sv_thrown sv_length sv_nodes sv_many sv_directories sv_runsFrom sv_runs sv_read sv_wrong sv_isNamed sv_goes sv_goesSize sv_goesAt sv_targetParts sv_isRoot)), ((ma 16), .inl (cJ, 46080, .inr (.inl G_3)))]) [0, 1] rfl
    have hDc := hD.sub (ws' := [(h0, .inr (11, MO ma sv_thrown sv_length sv_nodes sv_many sv_directories sv_runsFrom sv_runs sv_read sv_wrong sv_isNamed sv_goes sv_goesSize sv_goesAt sv_targetParts sv_isRoot)), ((ma 16), .inl (cJ, 46080, .inr (.inl G_3)))]) [0, 1] (by decide +kernel) rfl
    have hFc := va_free (wc := [(h0, .inr (11, MO ma sv_thrown sv_length sv_nodes sv_many sv_directories sv_runsFrom sv_runs sv_read sv_wrong sv_isNamed sv_goes sv_goesSize sv_goesAt sv_targetParts sv_isRoot)), ((ma 16), .inl (cJ, 46080, .inr (.inl G_3)))]) hD hS hA [0, 1] rfl
    have hkc : 0 ≤ 0 := by decide
    have hks : 0 ≤ 0 := by decide
    refine va_callv (va_runV (C := "DiscMakerModel") (As := [.int v5, .int w]) (rest := []) ⟨hx, hb, hml, hown, hts⟩ (m_set l D cB cI cJ cZ cN cF H.size h0 ma sv_thrown sv_length sv_nodes sv_many sv_directories sv_runsFrom sv_runs sv_read sv_wrong sv_isNamed sv_goes sv_goesSize sv_goesAt sv_targetParts sv_isRoot G_3 v5 w (by (try dsimp only); first | assumption | omega | trivial) (by (try dsimp only); first | assumption | omega | trivial)) (cwV 2 hts (lg_goodV k1727 k1729 k79 k125 kc_DiscMakerModel_set) rfl rfl rfl (by decide +kernel) ⟨Nat.le_of_ble_eq_true rfl, Nat.le_of_ble_eq_true rfl⟩) ⟨fun a U g mk q => by obtain ⟨q0, q1, qP, qK, qN, qD⟩ := q; exact ⟨q0, q1, qP, va_K.moved (u := U) (U := U.calling g mk a) (Vm.Alike.refl U.vm) qK, qN.calling, qD⟩, va_recv hK hP (ci := 11) (q0 := 0) rfl rfl, fun U hU hW => ⟨rfl, by rw [hU], by rw [hU]; exact hPc, va_K.moved hW.alike hK, NN.warm hW hN, hDc.weaken (fun _ _ _ _ => trivial)⟩⟩ rfl rfl hl.1 rfl (lv_room (Nat.le_of_ble_eq_true rfl)) d_DiscMakerModel_mark_21 ⟨hkc, hks⟩) hS (fun q _ h => hFc q h) hFc (fun u t H1 locs ht hvm hp_r6 hB hz1 hk1 hS => ?_)
    obtain ⟨G_7, rfl⟩ : ∃ z, z = u := ⟨_, rfl⟩
    obtain ⟨hP1, hD1⟩ := hB
    rw [ht] at hP1
    obtain ⟨hP, hD⟩ := va_join (wr := []) (w1 := [(h0, .inr (11, MO ma sv_thrown sv_length sv_nodes sv_many sv_directories sv_runsFrom sv_runs sv_read sv_wrong sv_isNamed sv_goes sv_goesSize sv_goesAt sv_targetParts sv_isRoot)), ((ma 16), .inl (cJ, 46080, .inr (.inl G_7)))]) hP hD [0, 1] [] rfl rfl (by decide +kernel) (by decide +kernel) hk1 hFc hP1 hD1
    clear hPc hDc hFc hP1 hD1 hk1 hz1 hkc hks
    generalize H1 = H at hP hS ⊢
    have hP : va_P D CL [(h0, .inr (11, MO ma sv_thrown sv_length sv_nodes sv_many sv_directories sv_runsFrom sv_runs sv_read sv_wrong sv_isNamed sv_goes sv_goesSize sv_goesAt sv_targetParts sv_isRoot)), ((ma 16), .inl (cJ, 46080, .inr (.inl G_7)))] H := hP
    have hD : va_D A [(h0, .inr (11, MO ma sv_thrown sv_length sv_nodes sv_many sv_directories sv_runsFrom sv_runs sv_read sv_wrong sv_isNamed sv_goes sv_goesSize sv_goesAt sv_targetParts sv_isRoot)), ((ma 16), .inl (cJ, 46080, .inr (.inl G_7)))] := hD
    have hP9 := hP.sub (ws' := [(h0, .inr (11, MO ma sv_thrown sv_length sv_nodes sv_many sv_directories sv_runsFrom sv_runs sv_read sv_wrong sv_isNamed sv_goes sv_goesSize sv_goesAt sv_targetParts sv_isRoot)), ((ma 16), .inl (cJ, 46080, .inr (.inl G_7)))]) [0, 1] rfl
    have hD9 := hD.sub (ws' := [(h0, .inr (11, MO ma sv_thrown sv_length sv_nodes sv_many sv_directories sv_runsFrom sv_runs sv_read sv_wrong sv_isNamed sv_goes sv_goesSize sv_goesAt sv_targetParts sv_isRoot)), ((ma 16), .inl (cJ, 46080, .inr (.inl G_7)))]) [0, 1] (by decide +kernel) rfl
    exact W.vret hx hb hr (fun t ht hW => ⟨⟨G_7, rfl, trivial, by rw [ht]; exact hP9, hD9⟩, hS.F ht⟩) hS.2.2 d_DiscMakerModel_mark_24
  · skip
    have g1_2 : ¬ 0 ≤ x.toInt := fun h8 => h_9 ((i_le (by decide) rfl).mpr h8)
    have hP9 := hP.sub (ws' := [(h0, .inr (11, MO ma sv_thrown sv_length sv_nodes sv_many sv_directories sv_runsFrom sv_runs sv_read sv_wrong sv_isNamed sv_goes sv_goesSize sv_goesAt sv_targetParts sv_isRoot)), ((ma 16), .inl (cJ, 46080, .inr (.inl F)))]) [0, 1] rfl
    have hD9 := hD.sub (ws' := [(h0, .inr (11, MO ma sv_thrown sv_length sv_nodes sv_many sv_directories sv_runsFrom sv_runs sv_read sv_wrong sv_isNamed sv_goes sv_goesSize sv_goesAt sv_targetParts sv_isRoot)), ((ma 16), .inl (cJ, 46080, .inr (.inl F)))]) [0, 1] (by decide +kernel) rfl
    exact W.vret hx hb hr (fun t ht hW => ⟨⟨F, rfl, trivial, by rw [ht]; exact hP9, hD9⟩, hS.F ht⟩) hS.2.2 d_DiscMakerModel_mark_4

theorem d_DiscMakerModel_whole_0 : decode b_DiscMakerModel_whole 0 = .ok (.iload_n 0, 1) := by decide +kernel
theorem d_DiscMakerModel_whole_1 : decode b_DiscMakerModel_whole 1 = .ok (.sipush 2047, 3) := by decide +kernel
theorem d_DiscMakerModel_whole_4 : decode b_DiscMakerModel_whole 4 = .ok (.iadd, 1) := by decide +kernel
theorem d_DiscMakerModel_whole_5 : decode b_DiscMakerModel_whole 5 = .ok (.sipush 2048, 3) := by decide +kernel
theorem d_DiscMakerModel_whole_8 : decode b_DiscMakerModel_whole 8 = .ok (.idiv, 1) := by decide +kernel
theorem d_DiscMakerModel_whole_9 : decode b_DiscMakerModel_whole 9 = .ok (.ireturn, 1) := by decide +kernel
set_option maxHeartbeats 4000000 in
set_option maxRecDepth 100000 in
theorem m_whole (l : Launch) (D : va_G) (cB cI cJ cZ cN cF : ClassId) (sz : Nat) (x : Int32) (hx0 : 0 ≤ x.toInt ∧ x.toInt ≤ 1000000000) : Met l y_DiscMakerModel_whole w_DiscMakerModel_whole ({ frames := 0, cells := 0, slots := 0, locals := 0 }) (va_Pc [.int x] (fun U => U.heap.size = sz ∧ va_P D CL [] U.heap ∧ va_K D CL (TY cB cI cJ cZ cN cF) U ∧ NN U ∧ va_D (fun _ => True) [])) (va_Qi (fun (r : Int32) (u : Unit) => (r.toInt = (x.toInt + 2047) / 2048)) (fun (u : Unit) (t : State) => match u with | () => va_P D CL [] t.heap ∧ va_D (va_A [] sz) []) (va_A [] sz)) 0 0 (va_A [] sz) := by
  refine Met.ofW (cc := b_DiscMakerModel_whole) (maxL := 1) (ret := some .int) (by decide) rfl ?_
  intro p e s m args below meth c s₁ B hml hv
  obtain ⟨rfl, hsz, hP, hK, hN, hD0⟩ := hv
  have hx := B.exec
  have hb := B.bytes
  have hr := B.returns
  have hts := atoms_spec (ws := w_DiscMakerModel_whole) B.pre
  have ht9 := fun (w : Cond) (h : w ∈ lw_g) => hts w (List.mem_cons_of_mem _ h)
  have hown : s.vm.findClass "DiscMakerModel" = some m.cls := findClass_of_methodNamed B.named
  have hlocks := B.notSynchronized
  subst hsz
  have hD := hD0.self (sz := s.heap.size)
  generalize hAe : va_A [] s.heap.size = A at hD ⊢
  have hA : ∀ q : Nat, s.heap.size ≤ q → A q := fun q h => by rw [← hAe]; exact Or.inr h
  have hS : va_S A s.heap s.heap [] := va_S.rf
  have hP : va_P D CL [] s.heap := hP
  have hl := lv_entry [.int x] (n := 1) (Nat.le_of_ble_eq_true rfl)
  rw [lg_entry_eq]
  generalize (lg_sl [.int x] ++ List.replicate (1 - (lg_sl [.int x]).length) Slot.unset).toArray = ls at hl ⊢
  have hl : lv_has ls 1 [(0, .int x)] := hl
  have L_m1 : ((-1) : Int32).toInt = (-1) := by decide
  have L_0 : (0 : Int32).toInt = 0 := by decide
  have L_1 : (1 : Int32).toInt = 1 := by decide
  have L_2047 : (2047 : Int32).toInt = 2047 := by decide
  have L_2048 : (2048 : Int32).toInt = 2048 := by decide
  refine lv_iload_n hx hb d_DiscMakerModel_whole_0 rfl (lv_at hl 0 rfl) ?_
  refine lv_sipush (v := 2047) hx hb d_DiscMakerModel_whole_1 (by decide) ?_
  refine lv_iadd hx hb d_DiscMakerModel_whole_4 ?_
  refine lv_topi (fun v1 e_v1 => ?_)
  have t_v1 : v1.toInt = x.toInt + 2047 := by rw [e_v1]; exact i_add rfl (by decide) (by omega) (by omega)
  refine lv_sipush (v := 2048) hx hb d_DiscMakerModel_whole_5 (by decide) ?_
  refine lv_idiv hx hb d_DiscMakerModel_whole_8 (by decide) ?_
  refine lv_topi (fun v2 e_v2 => ?_)
  have t_v2 : v2.toInt = v1.toInt / 2048 := by rw [e_v2]; exact i_div rfl (by decide) (by omega) (by omega)
  have hP9 := hP.sub (ws' := []) [] rfl
  have hD9 := hD.sub (ws' := []) [] (by decide +kernel) rfl
  exact W.iret (v := v2) hx hb hr (fun t ht hW => ⟨⟨v2, (), rfl, (by (try dsimp only); first | assumption | omega | trivial), by rw [ht]; exact hP9, hD9⟩, hS.F ht⟩) hS.2.2 d_DiscMakerModel_whole_9

theorem d_DiscMakerModel_fitted_0 : decode b_DiscMakerModel_fitted 0 = .ok (.iload_n 0, 1) := by decide +kernel
theorem d_DiscMakerModel_fitted_1 : decode b_DiscMakerModel_fitted 1 = .ok (.sipush 2048, 3) := by decide +kernel
theorem d_DiscMakerModel_fitted_4 : decode b_DiscMakerModel_fitted 4 = .ok (.irem, 1) := by decide +kernel
theorem d_DiscMakerModel_fitted_5 : decode b_DiscMakerModel_fitted 5 = .ok (.iload_n 1, 1) := by decide +kernel
theorem d_DiscMakerModel_fitted_6 : decode b_DiscMakerModel_fitted 6 = .ok (.iadd, 1) := by decide +kernel
theorem d_DiscMakerModel_fitted_7 : decode b_DiscMakerModel_fitted 7 = .ok (.sipush 2048, 3) := by decide +kernel
theorem d_DiscMakerModel_fitted_10 : decode b_DiscMakerModel_fitted 10 = .ok (.if_icmp .le 17, 3) := by decide +kernel
theorem d_DiscMakerModel_fitted_13 : decode b_DiscMakerModel_fitted 13 = .ok (.iload_n 0, 1) := by decide +kernel
theorem d_DiscMakerModel_fitted_14 : decode b_DiscMakerModel_fitted 14 = .ok (.iload_n 0, 1) := by decide +kernel
theorem d_DiscMakerModel_fitted_15 : decode b_DiscMakerModel_fitted 15 = .ok (.sipush 2048, 3) := by decide +kernel
theorem d_DiscMakerModel_fitted_18 : decode b_DiscMakerModel_fitted 18 = .ok (.irem, 1) := by decide +kernel
theorem d_DiscMakerModel_fitted_19 : decode b_DiscMakerModel_fitted 19 = .ok (.isub, 1) := by decide +kernel
theorem d_DiscMakerModel_fitted_20 : decode b_DiscMakerModel_fitted 20 = .ok (.sipush 2048, 3) := by decide +kernel
theorem d_DiscMakerModel_fitted_23 : decode b_DiscMakerModel_fitted 23 = .ok (.iadd, 1) := by decide +kernel
theorem d_DiscMakerModel_fitted_24 : decode b_DiscMakerModel_fitted 24 = .ok (.goto 4, 3) := by decide +kernel
theorem d_DiscMakerModel_fitted_27 : decode b_DiscMakerModel_fitted 27 = .ok (.iload_n 0, 1) := by decide +kernel
theorem d_DiscMakerModel_fitted_28 : decode b_DiscMakerModel_fitted 28 = .ok (.ireturn, 1) := by decide +kernel
set_option maxHeartbeats 4000000 in
set_option maxRecDepth 100000 in
theorem m_fitted (l : Launch) (D : va_G) (cB cI cJ cZ cN cF : ClassId) (sz : Nat) (x : Int32) (y : Int32) (hx0 : 0 ≤ x.toInt ∧ x.toInt ≤ 1000000000) (hy0 : 0 ≤ y.toInt ∧ y.toInt ≤ 100000) : Met l y_DiscMakerModel_fitted w_DiscMakerModel_fitted ({ frames := 0, cells := 0, slots := 0, locals := 0 }) (va_Pc [.int x, .int y] (fun U => U.heap.size = sz ∧ va_P D CL [] U.heap ∧ va_K D CL (TY cB cI cJ cZ cN cF) U ∧ NN U ∧ va_D (fun _ => True) [])) (va_Qi (fun (r : Int32) (u : Unit) => (x.toInt ≤ r.toInt ∧ r.toInt ≤ x.toInt + y.toInt) ∧ (r.toInt % 2048 + y.toInt ≤ 2048 ∨ r.toInt % 2048 = 0)) (fun (u : Unit) (t : State) => match u with | () => va_P D CL [] t.heap ∧ va_D (va_A [] sz) []) (va_A [] sz)) 0 0 (va_A [] sz) := by
  refine Met.ofW (cc := b_DiscMakerModel_fitted) (maxL := 2) (ret := some .int) (by decide) rfl ?_
  intro p e s m args below meth c s₁ B hml hv
  obtain ⟨rfl, hsz, hP, hK, hN, hD0⟩ := hv
  have hx := B.exec
  have hb := B.bytes
  have hr := B.returns
  have hts := atoms_spec (ws := w_DiscMakerModel_fitted) B.pre
  have ht9 := fun (w : Cond) (h : w ∈ lw_g) => hts w (List.mem_cons_of_mem _ h)
  have hown : s.vm.findClass "DiscMakerModel" = some m.cls := findClass_of_methodNamed B.named
  have hlocks := B.notSynchronized
  subst hsz
  have hD := hD0.self (sz := s.heap.size)
  generalize hAe : va_A [] s.heap.size = A at hD ⊢
  have hA : ∀ q : Nat, s.heap.size ≤ q → A q := fun q h => by rw [← hAe]; exact Or.inr h
  have hS : va_S A s.heap s.heap [] := va_S.rf
  have hP : va_P D CL [] s.heap := hP
  have hl := lv_entry [.int x, .int y] (n := 2) (Nat.le_of_ble_eq_true rfl)
  rw [lg_entry_eq]
  generalize (lg_sl [.int x, .int y] ++ List.replicate (2 - (lg_sl [.int x, .int y]).length) Slot.unset).toArray = ls at hl ⊢
  have hl : lv_has ls 2 [(0, .int x), (1, .int y)] := hl
  have L_m1 : ((-1) : Int32).toInt = (-1) := by decide
  have L_0 : (0 : Int32).toInt = 0 := by decide
  have L_1 : (1 : Int32).toInt = 1 := by decide
  have L_2048 : (2048 : Int32).toInt = 2048 := by decide
  refine lv_iload_n hx hb d_DiscMakerModel_fitted_0 rfl (lv_at hl 0 rfl) ?_
  refine lv_sipush (v := 2048) hx hb d_DiscMakerModel_fitted_1 (by decide) ?_
  refine lv_irem hx hb d_DiscMakerModel_fitted_4 (by decide) ?_
  refine lv_topi (fun v1 e_v1 => ?_)
  have t_v1 : v1.toInt = x.toInt % 2048 := by rw [e_v1]; exact i_rem rfl (by decide) (by omega) (by omega)
  refine lv_iload_n hx hb d_DiscMakerModel_fitted_5 rfl (lv_at hl 1 rfl) ?_
  refine lv_iadd hx hb d_DiscMakerModel_fitted_6 ?_
  refine lv_topi (fun v2 e_v2 => ?_)
  have t_v2 : v2.toInt = v1.toInt + y.toInt := by rw [e_v2]; exact i_add rfl rfl (by omega) (by omega)
  refine lv_sipush (v := 2048) hx hb d_DiscMakerModel_fitted_7 (by decide) ?_
  refine lv_icmp_le (tgt := 27) hx hb d_DiscMakerModel_fitted_10 (by decide) (fun h_9 => ?_) (fun h_9 => ?_)
  · skip
    have g10_7 : v2.toInt ≤ 2048 := (i_le rfl (by decide)).mp h_9
    refine lv_iload_n hx hb d_DiscMakerModel_fitted_27 rfl (lv_at hl 0 rfl) ?_
    have hP9 := hP.sub (ws' := []) [] rfl
    have hD9 := hD.sub (ws' := []) [] (by decide +kernel) rfl
    exact W.iret (v := x) hx hb hr (fun t ht hW => ⟨⟨x, (), rfl, ⟨(by (try dsimp only); first | assumption | omega | trivial), (by (try dsimp only); first | assumption | omega | trivial)⟩, by rw [ht]; exact hP9, hD9⟩, hS.F ht⟩) hS.2.2 d_DiscMakerModel_fitted_28
  · skip
    have g10_7 : ¬ v2.toInt ≤ 2048 := fun h8 => h_9 ((i_le rfl (by decide)).mpr h8)
    refine lv_iload_n hx hb d_DiscMakerModel_fitted_13 rfl (lv_at hl 0 rfl) ?_
    refine lv_iload_n hx hb d_DiscMakerModel_fitted_14 rfl (lv_at hl 0 rfl) ?_
    refine lv_sipush (v := 2048) hx hb d_DiscMakerModel_fitted_15 (by decide) ?_
    refine lv_irem hx hb d_DiscMakerModel_fitted_18 (by decide) ?_
    refine lv_topi (fun v3 e_v3 => ?_)
    have t_v3 : v3.toInt = x.toInt % 2048 := by rw [e_v3]; exact i_rem rfl (by decide) (by omega) (by omega)
    refine lv_isub hx hb d_DiscMakerModel_fitted_19 ?_
    refine lv_topi (fun v4 e_v4 => ?_)
    have t_v4 : v4.toInt = x.toInt - v3.toInt := by rw [e_v4]; exact i_sub rfl rfl (by omega) (by omega)
    refine lv_sipush (v := 2048) hx hb d_DiscMakerModel_fitted_20 (by decide) ?_
    refine lv_iadd hx hb d_DiscMakerModel_fitted_23 ?_
    refine lv_topi (fun v5 e_v5 => ?_)
    have t_v5 : v5.toInt = v4.toInt + 2048 := by rw [e_v5]; exact i_add rfl (by decide) (by omega) (by omega)
    refine lv_goto (tgt := 28) hx hb d_DiscMakerModel_fitted_24 (by decide) ?_
    have hP9 := hP.sub (ws' := []) [] rfl
    have hD9 := hD.sub (ws' := []) [] (by decide +kernel) rfl
    exact W.iret (v := v5) hx hb hr (fun t ht hW => ⟨⟨v5, (), rfl, ⟨(by (try dsimp only); first | assumption | omega | trivial), (by (try dsimp only); first | assumption | omega | trivial)⟩, by rw [ht]; exact hP9, hD9⟩, hS.F ht⟩) hS.2.2 d_DiscMakerModel_fitted_28

theorem d_DiscMakerModel_links_0 : decode b_DiscMakerModel_links 0 = .ok (.aload_n 0, 1) := by decide +kernel
theorem d_DiscMakerModel_links_1 : decode b_DiscMakerModel_links 1 = .ok (.getfield 13, 3) := by decide +kernel
theorem d_DiscMakerModel_links_4 : decode b_DiscMakerModel_links 4 = .ok (.iload_n 1, 1) := by decide +kernel
theorem d_DiscMakerModel_links_5 : decode b_DiscMakerModel_links 5 = .ok (.iaload, 1) := by decide +kernel
theorem d_DiscMakerModel_links_6 : decode b_DiscMakerModel_links 6 = .ok (.ifCond .le 5, 3) := by decide +kernel
theorem d_DiscMakerModel_links_9 : decode b_DiscMakerModel_links 9 = .ok (.iconst 1, 1) := by decide +kernel
theorem d_DiscMakerModel_links_10 : decode b_DiscMakerModel_links 10 = .ok (.ireturn, 1) := by decide +kernel
theorem d_DiscMakerModel_links_11 : decode b_DiscMakerModel_links 11 = .ok (.iconst 2, 1) := by decide +kernel
theorem d_DiscMakerModel_links_12 : decode b_DiscMakerModel_links 12 = .ok (.istore_n 2, 1) := by decide +kernel
theorem d_DiscMakerModel_links_13 : decode b_DiscMakerModel_links 13 = .ok (.iconst 1, 1) := by decide +kernel
theorem d_DiscMakerModel_links_14 : decode b_DiscMakerModel_links 14 = .ok (.istore_n 3, 1) := by decide +kernel
theorem d_DiscMakerModel_links_15 : decode b_DiscMakerModel_links 15 = .ok (.iload_n 3, 1) := by decide +kernel
theorem d_DiscMakerModel_links_16 : decode b_DiscMakerModel_links 16 = .ok (.aload_n 0, 1) := by decide +kernel
theorem d_DiscMakerModel_links_17 : decode b_DiscMakerModel_links 17 = .ok (.getfield 114, 3) := by decide +kernel
theorem d_DiscMakerModel_links_20 : decode b_DiscMakerModel_links 20 = .ok (.if_icmp .ge 36, 3) := by decide +kernel
theorem d_DiscMakerModel_links_23 : decode b_DiscMakerModel_links 23 = .ok (.iload_n 2, 1) := by decide +kernel
theorem d_DiscMakerModel_links_24 : decode b_DiscMakerModel_links 24 = .ok (.aload_n 0, 1) := by decide +kernel
theorem d_DiscMakerModel_links_25 : decode b_DiscMakerModel_links 25 = .ok (.getfield 17, 3) := by decide +kernel
theorem d_DiscMakerModel_links_28 : decode b_DiscMakerModel_links 28 = .ok (.iload_n 3, 1) := by decide +kernel
theorem d_DiscMakerModel_links_29 : decode b_DiscMakerModel_links 29 = .ok (.iaload, 1) := by decide +kernel
theorem d_DiscMakerModel_links_30 : decode b_DiscMakerModel_links 30 = .ok (.iload_n 1, 1) := by decide +kernel
theorem d_DiscMakerModel_links_31 : decode b_DiscMakerModel_links 31 = .ok (.if_icmp .ne 16, 3) := by decide +kernel
theorem d_DiscMakerModel_links_34 : decode b_DiscMakerModel_links 34 = .ok (.aload_n 0, 1) := by decide +kernel
theorem d_DiscMakerModel_links_35 : decode b_DiscMakerModel_links 35 = .ok (.getfield 13, 3) := by decide +kernel
theorem d_DiscMakerModel_links_38 : decode b_DiscMakerModel_links 38 = .ok (.iload_n 3, 1) := by decide +kernel
theorem d_DiscMakerModel_links_39 : decode b_DiscMakerModel_links 39 = .ok (.iaload, 1) := by decide +kernel
theorem d_DiscMakerModel_links_40 : decode b_DiscMakerModel_links 40 = .ok (.ifCond .ne 7, 3) := by decide +kernel
theorem d_DiscMakerModel_links_43 : decode b_DiscMakerModel_links 43 = .ok (.iconst 1, 1) := by decide +kernel
theorem d_DiscMakerModel_links_44 : decode b_DiscMakerModel_links 44 = .ok (.goto 4, 3) := by decide +kernel
theorem d_DiscMakerModel_links_47 : decode b_DiscMakerModel_links 47 = .ok (.iconst 0, 1) := by decide +kernel
theorem d_DiscMakerModel_links_48 : decode b_DiscMakerModel_links 48 = .ok (.iadd, 1) := by decide +kernel
theorem d_DiscMakerModel_links_49 : decode b_DiscMakerModel_links 49 = .ok (.istore_n 2, 1) := by decide +kernel
theorem d_DiscMakerModel_links_50 : decode b_DiscMakerModel_links 50 = .ok (.iinc 3 1, 3) := by decide +kernel
theorem d_DiscMakerModel_links_53 : decode b_DiscMakerModel_links 53 = .ok (.goto (-38), 3) := by decide +kernel
theorem d_DiscMakerModel_links_56 : decode b_DiscMakerModel_links 56 = .ok (.iload_n 2, 1) := by decide +kernel
theorem d_DiscMakerModel_links_57 : decode b_DiscMakerModel_links 57 = .ok (.ireturn, 1) := by decide +kernel
set_option maxHeartbeats 4000000 in
set_option maxRecDepth 100000 in
theorem m_links (l : Launch) (D : va_G) (cB cI cJ cZ cN cF : ClassId) (sz : Nat) (h0 : Nat) (ma : Nat → Nat) (sv_thrown sv_length sv_nodes sv_many sv_directories sv_runsFrom sv_runs sv_read sv_wrong sv_isNamed sv_goes sv_goesSize sv_goesAt sv_targetParts sv_isRoot : Int32) (fK : Nat → Int32) (fP : Nat → Int32) (x : Int32) (hn : 1 ≤ sv_nodes.toInt ∧ sv_nodes.toInt ≤ 40) (hx0 : 0 ≤ x.toInt ∧ x.toInt < 40) : Met l y_DiscMakerModel_links w_DiscMakerModel_links ({ frames := 0, cells := 0, slots := 0, locals := 0 }) (va_Pc [.ref h0, .int x] (fun U => U.heap.size = sz ∧ va_P D CL [(h0, .inr (11, MO ma sv_thrown sv_length sv_nodes sv_many sv_directories sv_runsFrom sv_runs sv_read sv_wrong sv_isNamed sv_goes sv_goesSize sv_goesAt sv_targetParts sv_isRoot)), ((ma 1), .inl (cI, 40, .inl fK)), ((ma 2), .inl (cI, 40, .inl fP))] U.heap ∧ va_K D CL (TY cB cI cJ cZ cN cF) U ∧ NN U ∧ va_D (fun _ => True) [(h0, .inr (11, MO ma sv_thrown sv_length sv_nodes sv_many sv_directories sv_runsFrom sv_runs sv_read sv_wrong sv_isNamed sv_goes sv_goesSize sv_goesAt sv_targetParts sv_isRoot)), ((ma 1), .inl (cI, 40, .inl fK)), ((ma 2), .inl (cI, 40, .inl fP))])) (va_Qi (fun (r : Int32) (u : Unit) => True) (fun (u : Unit) (t : State) => match u with | () => va_P D CL [(h0, .inr (11, MO ma sv_thrown sv_length sv_nodes sv_many sv_directories sv_runsFrom sv_runs sv_read sv_wrong sv_isNamed sv_goes sv_goesSize sv_goesAt sv_targetParts sv_isRoot)), ((ma 1), .inl (cI, 40, .inl fK)), ((ma 2), .inl (cI, 40, .inl fP))] t.heap ∧ va_D (va_A [(h0, .inr (11, MO ma sv_thrown sv_length sv_nodes sv_many sv_directories sv_runsFrom sv_runs sv_read sv_wrong sv_isNamed sv_goes sv_goesSize sv_goesAt sv_targetParts sv_isRoot)), ((ma 1), .inl (cI, 40, .inl fK)), ((ma 2), .inl (cI, 40, .inl fP))] sz) [(h0, .inr (11, MO ma sv_thrown sv_length sv_nodes sv_many sv_directories sv_runsFrom sv_runs sv_read sv_wrong sv_isNamed sv_goes sv_goesSize sv_goesAt sv_targetParts sv_isRoot)), ((ma 1), .inl (cI, 40, .inl fK)), ((ma 2), .inl (cI, 40, .inl fP))]) (va_A [(h0, .inr (11, MO ma sv_thrown sv_length sv_nodes sv_many sv_directories sv_runsFrom sv_runs sv_read sv_wrong sv_isNamed sv_goes sv_goesSize sv_goesAt sv_targetParts sv_isRoot)), ((ma 1), .inl (cI, 40, .inl fK)), ((ma 2), .inl (cI, 40, .inl fP))] sz)) 0 0 (va_A [(h0, .inr (11, MO ma sv_thrown sv_length sv_nodes sv_many sv_directories sv_runsFrom sv_runs sv_read sv_wrong sv_isNamed sv_goes sv_goesSize sv_goesAt sv_targetParts sv_isRoot)), ((ma 1), .inl (cI, 40, .inl fK)), ((ma 2), .inl (cI, 40, .inl fP))] sz) := by
  refine Met.ofW (cc := b_DiscMakerModel_links) (maxL := 4) (ret := some .int) (by decide) rfl ?_
  intro p e s m args below meth c s₁ B hml hv
  obtain ⟨rfl, hsz, hP, hK, hN, hD0⟩ := hv
  have hx := B.exec
  have hb := B.bytes
  have hr := B.returns
  have hts := atoms_spec (ws := w_DiscMakerModel_links) B.pre
  have ht9 := fun (w : Cond) (h : w ∈ lw_g) => hts w (List.mem_cons_of_mem _ h)
  have hown : s.vm.findClass "DiscMakerModel" = some m.cls := findClass_of_methodNamed B.named
  have hlocks := B.notSynchronized
  subst hsz
  have hD := hD0.self (sz := s.heap.size)
  generalize hAe : va_A [(h0, .inr (11, MO ma sv_thrown sv_length sv_nodes sv_many sv_directories sv_runsFrom sv_runs sv_read sv_wrong sv_isNamed sv_goes sv_goesSize sv_goesAt sv_targetParts sv_isRoot)), ((ma 1), .inl (cI, 40, .inl fK)), ((ma 2), .inl (cI, 40, .inl fP))] s.heap.size = A at hD ⊢
  have hA : ∀ q : Nat, s.heap.size ≤ q → A q := fun q h => by rw [← hAe]; exact Or.inr h
  have hS : va_S A s.heap s.heap [] := va_S.rf
  have hP : va_P D CL [(h0, .inr (11, MO ma sv_thrown sv_length sv_nodes sv_many sv_directories sv_runsFrom sv_runs sv_read sv_wrong sv_isNamed sv_goes sv_goesSize sv_goesAt sv_targetParts sv_isRoot)), ((ma 1), .inl (cI, 40, .inl fK)), ((ma 2), .inl (cI, 40, .inl fP))] s.heap := hP
  have hl := lv_entry [.ref h0, .int x] (n := 4) (Nat.le_of_ble_eq_true rfl)
  rw [lg_entry_eq]
  generalize (lg_sl [.ref h0, .int x] ++ List.replicate (4 - (lg_sl [.ref h0, .int x]).length) Slot.unset).toArray = ls at hl ⊢
  have hl : lv_has ls 4 [(0, .ref h0), (1, .int x)] := hl
  have L_m1 : ((-1) : Int32).toInt = (-1) := by decide
  have L_0 : (0 : Int32).toInt = 0 := by decide
  have L_1 : (1 : Int32).toInt = 1 := by decide
  have L_2 : (2 : Int32).toInt = 2 := by decide
  refine lv_aload_n hx hb d_DiscMakerModel_links_0 rfl (lv_at hl 0 rfl) ?_
  refine va_get (D := D) (ci := 11) (v := .ref (ma 1)) (C := "DiscMakerModel") (T := F_DiscMakerModel) (N := 48) hx hb ht9 in_DiscMakerModel hown hK hP 0 rfl rfl 4 (by decide) (ht9 _ k1435) (fun _ h9 => h9) rfl d_DiscMakerModel_links_1 ?_
  refine lv_iload_n hx hb d_DiscMakerModel_links_4 rfl (lv_at hl 1 rfl) ?_
  refine va_iald hx hb hK hP 1 1 rfl rfl (vp_in_iff.mpr ⟨by omega, by omega⟩) d_DiscMakerModel_links_5 ?_
  refine lv_topi (fun v1 e_v1 => ?_)
  refine lv_if_le (tgt := 11) hx hb d_DiscMakerModel_links_6 (by decide) (fun h_9 => ?_) (fun h_9 => ?_)
  · skip
    have g6_5 : v1.toInt ≤ 0 := (i_le rfl (by decide)).mp h_9
    refine lv_iconst (v := 2) hx hb d_DiscMakerModel_links_11 (by decide) ?_
    refine lv_istore_n hx hb d_DiscMakerModel_links_12 rfl hl (by decide) rfl (fun ls hl => ?_)
    have hl : lv_has ls 4 [(2, .int 2), (0, .ref h0), (1, .int x)] := hl
    refine lv_iconst (v := 1) hx hb d_DiscMakerModel_links_13 (by decide) ?_
    refine lv_istore_n hx hb d_DiscMakerModel_links_14 rfl hl (by decide) rfl (fun ls hl => ?_)
    have hl : lv_has ls 4 [(3, .int 1), (2, .int 2), (0, .ref h0), (1, .int x)] := hl
    refine zz_labM (B := fun (lk : Nat) (K : Heap → List Loc → Array Slot → List Value → Prop) => ∀ (al : Int32) (kx : Int32) (H : Heap) (locs : List Loc) (ls : Array Slot), lk = (40 - kx.toInt).toNat → (1 ≤ kx.toInt ∧ kx.toInt ≤ 40) → (0 ≤ al.toInt ∧ al.toInt ≤ 2 + kx.toInt) → va_P D CL [(h0, .inr (11, MO ma sv_thrown sv_length sv_nodes sv_many sv_directories sv_runsFrom sv_runs sv_read sv_wrong sv_isNamed sv_goes sv_goesSize sv_goesAt sv_targetParts sv_isRoot)), ((ma 1), .inl (cI, 40, .inl fK)), ((ma 2), .inl (cI, 40, .inl fP))] H → va_D A [(h0, .inr (11, MO ma sv_thrown sv_length sv_nodes sv_many sv_directories sv_runsFrom sv_runs sv_read sv_wrong sv_isNamed sv_goes sv_goesSize sv_goesAt sv_targetParts sv_isRoot)), ((ma 1), .inl (cI, 40, .inl fK)), ((ma 2), .inl (cI, 40, .inl fP))] → va_S A s.heap H locs → lv_has ls 4 [(0, .ref h0), (1, .int x), (2, .int al), (3, .int kx)] → K H locs ls []) 15 ?_ ?_
    · skip
      intro lk ih15 al kx H locs ls hm15 f1 f2 hP hD hS hl
      refine lv_iload_n hx hb d_DiscMakerModel_links_15 rfl (lv_at hl 3 rfl) ?_
      refine lv_aload_n hx hb d_DiscMakerModel_links_16 rfl (lv_at hl 0 rfl) ?_
      refine va_get (D := D) (ci := 11) (v := .int sv_nodes) (C := "DiscMakerModel") (T := F_DiscMakerModel) (N := 48) hx hb ht9 in_DiscMakerModel hown hK hP 0 rfl rfl 3 (by decide) (ht9 _ k1434) (fun _ h9 => h9) rfl d_DiscMakerModel_links_17 ?_
      refine lv_icmp_ge (tgt := 56) hx hb d_DiscMakerModel_links_20 (by decide) (fun h_9 => ?_) (fun h_9 => ?_)
      · skip
        have g20_13 : sv_nodes.toInt ≤ kx.toInt := (i_le rfl rfl).mp h_9
        refine lv_iload_n hx hb d_DiscMakerModel_links_56 rfl (lv_at hl 2 rfl) ?_
        have hP9 := hP.sub (ws' := [(h0, .inr (11, MO ma sv_thrown sv_length sv_nodes sv_many sv_directories sv_runsFrom sv_runs sv_read sv_wrong sv_isNamed sv_goes sv_goesSize sv_goesAt sv_targetParts sv_isRoot)), ((ma 1), .inl (cI, 40, .inl fK)), ((ma 2), .inl (cI, 40, .inl fP))]) [0, 1, 2] rfl
        have hD9 := hD.sub (ws' := [(h0, .inr (11, MO ma sv_thrown sv_length sv_nodes sv_many sv_directories sv_runsFrom sv_runs sv_read sv_wrong sv_isNamed sv_goes sv_goesSize sv_goesAt sv_targetParts sv_isRoot)), ((ma 1), .inl (cI, 40, .inl fK)), ((ma 2), .inl (cI, 40, .inl fP))]) [0, 1, 2] (by decide +kernel) rfl
        exact W.iret (v := al) hx hb hr (fun t ht hW => ⟨⟨al, (), rfl, trivial, by rw [ht]; exact hP9, hD9⟩, hS.F ht⟩) hS.2.2 d_DiscMakerModel_links_57
      · skip
        have g20_13 : ¬ sv_nodes.toInt ≤ kx.toInt := fun h8 => h_9 ((i_le rfl rfl).mpr h8)
        refine lv_iload_n hx hb d_DiscMakerModel_links_23 rfl (lv_at hl 2 rfl) ?_
        refine lv_aload_n hx hb d_DiscMakerModel_links_24 rfl (lv_at hl 0 rfl) ?_
        refine va_get (D := D) (ci := 11) (v := .ref (ma 2)) (C := "DiscMakerModel") (T := F_DiscMakerModel) (N := 48) hx hb ht9 in_DiscMakerModel hown hK hP 0 rfl rfl 5 (by decide) (ht9 _ k1436) (fun _ h9 => h9) rfl d_DiscMakerModel_links_25 ?_
        refine lv_iload_n hx hb d_DiscMakerModel_links_28 rfl (lv_at hl 3 rfl) ?_
        refine va_iald hx hb hK hP 2 1 rfl rfl (vp_in_iff.mpr ⟨by omega, by omega⟩) d_DiscMakerModel_links_29 ?_
        refine lv_topi (fun v2 e_v2 => ?_)
        refine lv_iload_n hx hb d_DiscMakerModel_links_30 rfl (lv_at hl 1 rfl) ?_
        refine lv_icmp_ne (tgt := 47) hx hb d_DiscMakerModel_links_31 (by decide) (fun h_9 => ?_) (fun h_9 => ?_)
        · skip
          have g31_22 : ¬ v2.toInt = x.toInt := fun h8 => h_9 ((i_eq rfl rfl).mpr h8)
          refine lv_iconst (v := 0) hx hb d_DiscMakerModel_links_47 (by decide) ?_
          refine lv_iadd hx hb d_DiscMakerModel_links_48 ?_
          refine lv_topi (fun v3 e_v3 => ?_)
          have t_v3 : v3.toInt = al.toInt + 0 := by rw [e_v3]; exact i_add rfl (by decide) (by omega) (by omega)
          refine lv_istore_n hx hb d_DiscMakerModel_links_49 rfl hl (by decide) rfl (fun ls hl => ?_)
          have hl : lv_has ls 4 [(2, .int v3), (0, .ref h0), (1, .int x), (3, .int kx)] := hl
          obtain ⟨v4, e_v4⟩ : ∃ z : Int32, z = kx + 1 := ⟨_, rfl⟩
          refine lv_iinc (v := v4) hx hb d_DiscMakerModel_links_50 hl (k := 3) rfl e_v4.symm (by decide +kernel) rfl (fun ls hl => ?_)
          have t_v4 : v4.toInt = kx.toInt + 1 := by rw [e_v4]; exact i_add rfl (by decide) (by omega) (by omega)
          have hl : lv_has ls 4 [(3, .int v4), (2, .int v3), (0, .ref h0), (1, .int x)] := hl
          refine lv_goto (tgt := 15) hx hb d_DiscMakerModel_links_53 (by decide) ?_
          have hP := hP.sub (ws' := [(h0, .inr (11, MO ma sv_thrown sv_length sv_nodes sv_many sv_directories sv_runsFrom sv_runs sv_read sv_wrong sv_isNamed sv_goes sv_goesSize sv_goesAt sv_targetParts sv_isRoot)), ((ma 1), .inl (cI, 40, .inl fK)), ((ma 2), .inl (cI, 40, .inl fP))]) [0, 1, 2] rfl
          have hD := hD.sub (ws' := [(h0, .inr (11, MO ma sv_thrown sv_length sv_nodes sv_many sv_directories sv_runsFrom sv_runs sv_read sv_wrong sv_isNamed sv_goes sv_goesSize sv_goesAt sv_targetParts sv_isRoot)), ((ma 1), .inl (cI, 40, .inl fK)), ((ma 2), .inl (cI, 40, .inl fP))]) [0, 1, 2] (by decide +kernel) rfl
          have hl := lv_sub hl [2, 3, 1, 0] rfl
          exact ih15 _ (by first | omega | (dsimp only; omega)) v3 v4 _ _ _ rfl ((by (try dsimp only); first | assumption | omega | trivial)) ((by (try dsimp only); first | assumption | omega | trivial)) hP hD hS hl
        · skip
          have g31_22 : v2.toInt = x.toInt := (i_eq rfl rfl).mp h_9
          refine lv_aload_n hx hb d_DiscMakerModel_links_34 rfl (lv_at hl 0 rfl) ?_
          refine va_get (D := D) (ci := 11) (v := .ref (ma 1)) (C := "DiscMakerModel") (T := F_DiscMakerModel) (N := 48) hx hb ht9 in_DiscMakerModel hown hK hP 0 rfl rfl 4 (by decide) (ht9 _ k1435) (fun _ h9 => h9) rfl d_DiscMakerModel_links_35 ?_
          refine lv_iload_n hx hb d_DiscMakerModel_links_38 rfl (lv_at hl 3 rfl) ?_
          refine va_iald hx hb hK hP 1 1 rfl rfl (vp_in_iff.mpr ⟨by omega, by omega⟩) d_DiscMakerModel_links_39 ?_
          refine lv_topi (fun v5 e_v5 => ?_)
          refine lv_if_ne (tgt := 47) hx hb d_DiscMakerModel_links_40 (by decide) (fun h_9 => ?_) (fun h_9 => ?_)
          · skip
            have g40_33 : ¬ v5.toInt = 0 := fun h8 => h_9 ((i_eq rfl (by decide)).mpr h8)
            refine lv_iconst (v := 0) hx hb d_DiscMakerModel_links_47 (by decide) ?_
            refine lv_iadd hx hb d_DiscMakerModel_links_48 ?_
            refine lv_topi (fun v6 e_v6 => ?_)
            have t_v6 : v6.toInt = al.toInt + 0 := by rw [e_v6]; exact i_add rfl (by decide) (by omega) (by omega)
            refine lv_istore_n hx hb d_DiscMakerModel_links_49 rfl hl (by decide) rfl (fun ls hl => ?_)
            have hl : lv_has ls 4 [(2, .int v6), (0, .ref h0), (1, .int x), (3, .int kx)] := hl
            obtain ⟨v7, e_v7⟩ : ∃ z : Int32, z = kx + 1 := ⟨_, rfl⟩
            refine lv_iinc (v := v7) hx hb d_DiscMakerModel_links_50 hl (k := 3) rfl e_v7.symm (by decide +kernel) rfl (fun ls hl => ?_)
            have t_v7 : v7.toInt = kx.toInt + 1 := by rw [e_v7]; exact i_add rfl (by decide) (by omega) (by omega)
            have hl : lv_has ls 4 [(3, .int v7), (2, .int v6), (0, .ref h0), (1, .int x)] := hl
            refine lv_goto (tgt := 15) hx hb d_DiscMakerModel_links_53 (by decide) ?_
            have hP := hP.sub (ws' := [(h0, .inr (11, MO ma sv_thrown sv_length sv_nodes sv_many sv_directories sv_runsFrom sv_runs sv_read sv_wrong sv_isNamed sv_goes sv_goesSize sv_goesAt sv_targetParts sv_isRoot)), ((ma 1), .inl (cI, 40, .inl fK)), ((ma 2), .inl (cI, 40, .inl fP))]) [0, 1, 2] rfl
            have hD := hD.sub (ws' := [(h0, .inr (11, MO ma sv_thrown sv_length sv_nodes sv_many sv_directories sv_runsFrom sv_runs sv_read sv_wrong sv_isNamed sv_goes sv_goesSize sv_goesAt sv_targetParts sv_isRoot)), ((ma 1), .inl (cI, 40, .inl fK)), ((ma 2), .inl (cI, 40, .inl fP))]) [0, 1, 2] (by decide +kernel) rfl
            have hl := lv_sub hl [2, 3, 1, 0] rfl
            exact ih15 _ (by first | omega | (dsimp only; omega)) v6 v7 _ _ _ rfl ((by (try dsimp only); first | assumption | omega | trivial)) ((by (try dsimp only); first | assumption | omega | trivial)) hP hD hS hl
          · skip
            have g40_33 : v5.toInt = 0 := (i_eq rfl (by decide)).mp h_9
            refine lv_iconst (v := 1) hx hb d_DiscMakerModel_links_43 (by decide) ?_
            refine lv_goto (tgt := 48) hx hb d_DiscMakerModel_links_44 (by decide) ?_
            refine lv_iadd hx hb d_DiscMakerModel_links_48 ?_
            refine lv_topi (fun v8 e_v8 => ?_)
            have t_v8 : v8.toInt = al.toInt + 1 := by rw [e_v8]; exact i_add rfl (by decide) (by omega) (by omega)
            refine lv_istore_n hx hb d_DiscMakerModel_links_49 rfl hl (by decide) rfl (fun ls hl => ?_)
            have hl : lv_has ls 4 [(2, .int v8), (0, .ref h0), (1, .int x), (3, .int kx)] := hl
            obtain ⟨v9, e_v9⟩ : ∃ z : Int32, z = kx + 1 := ⟨_, rfl⟩
            refine lv_iinc (v := v9) hx hb d_DiscMakerModel_links_50 hl (k := 3) rfl e_v9.symm (by decide +kernel) rfl (fun ls hl => ?_)
            have t_v9 : v9.toInt = kx.toInt + 1 := by rw [e_v9]; exact i_add rfl (by decide) (by omega) (by omega)
            have hl : lv_has ls 4 [(3, .int v9), (2, .int v8), (0, .ref h0), (1, .int x)] := hl
            refine lv_goto (tgt := 15) hx hb d_DiscMakerModel_links_53 (by decide) ?_
            have hP := hP.sub (ws' := [(h0, .inr (11, MO ma sv_thrown sv_length sv_nodes sv_many sv_directories sv_runsFrom sv_runs sv_read sv_wrong sv_isNamed sv_goes sv_goesSize sv_goesAt sv_targetParts sv_isRoot)), ((ma 1), .inl (cI, 40, .inl fK)), ((ma 2), .inl (cI, 40, .inl fP))]) [0, 1, 2] rfl
            have hD := hD.sub (ws' := [(h0, .inr (11, MO ma sv_thrown sv_length sv_nodes sv_many sv_directories sv_runsFrom sv_runs sv_read sv_wrong sv_isNamed sv_goes sv_goesSize sv_goesAt sv_targetParts sv_isRoot)), ((ma 1), .inl (cI, 40, .inl fK)), ((ma 2), .inl (cI, 40, .inl fP))]) [0, 1, 2] (by decide +kernel) rfl
            have hl := lv_sub hl [2, 3, 1, 0] rfl
            exact ih15 _ (by first | omega | (dsimp only; omega)) v8 v9 _ _ _ rfl ((by (try dsimp only); first | assumption | omega | trivial)) ((by (try dsimp only); first | assumption | omega | trivial)) hP hD hS hl
    · skip
      intro kk15
      have hP := hP.sub (ws' := [(h0, .inr (11, MO ma sv_thrown sv_length sv_nodes sv_many sv_directories sv_runsFrom sv_runs sv_read sv_wrong sv_isNamed sv_goes sv_goesSize sv_goesAt sv_targetParts sv_isRoot)), ((ma 1), .inl (cI, 40, .inl fK)), ((ma 2), .inl (cI, 40, .inl fP))]) [0, 1, 2] rfl
      have hD := hD.sub (ws' := [(h0, .inr (11, MO ma sv_thrown sv_length sv_nodes sv_many sv_directories sv_runsFrom sv_runs sv_read sv_wrong sv_isNamed sv_goes sv_goesSize sv_goesAt sv_targetParts sv_isRoot)), ((ma 1), .inl (cI, 40, .inl fK)), ((ma 2), .inl (cI, 40, .inl fP))]) [0, 1, 2] (by decide +kernel) rfl
      have hl := lv_sub hl [2, 3, 1, 0] rfl
      exact kk15 _ 2 1 _ _ _ rfl ((by (try dsimp only); first | assumption | omega | trivial)) ((by (try dsimp only); first | assumption | omega | trivial)) hP hD hS hl
  · skip
    have g6_5 : ¬ v1.toInt ≤ 0 := fun h8 => h_9 ((i_le rfl (by decide)).mpr h8)
    refine lv_iconst (v := 1) hx hb d_DiscMakerModel_links_9 (by decide) ?_
    have hP9 := hP.sub (ws' := [(h0, .inr (11, MO ma sv_thrown sv_length sv_nodes sv_many sv_directories sv_runsFrom sv_runs sv_read sv_wrong sv_isNamed sv_goes sv_goesSize sv_goesAt sv_targetParts sv_isRoot)), ((ma 1), .inl (cI, 40, .inl fK)), ((ma 2), .inl (cI, 40, .inl fP))]) [0, 1, 2] rfl
    have hD9 := hD.sub (ws' := [(h0, .inr (11, MO ma sv_thrown sv_length sv_nodes sv_many sv_directories sv_runsFrom sv_runs sv_read sv_wrong sv_isNamed sv_goes sv_goesSize sv_goesAt sv_targetParts sv_isRoot)), ((ma 1), .inl (cI, 40, .inl fK)), ((ma 2), .inl (cI, 40, .inl fP))]) [0, 1, 2] (by decide +kernel) rfl
    exact W.iret (v := 1) hx hb hr (fun t ht hW => ⟨⟨1, (), rfl, trivial, by rw [ht]; exact hP9, hD9⟩, hS.F ht⟩) hS.2.2 d_DiscMakerModel_links_10

theorem d_DiscMakerModel_nodeOf_0 : decode b_DiscMakerModel_nodeOf 0 = .ok (.iload_n 1, 1) := by decide +kernel
theorem d_DiscMakerModel_nodeOf_1 : decode b_DiscMakerModel_nodeOf 1 = .ok (.ifCond .ne 7, 3) := by decide +kernel
theorem d_DiscMakerModel_nodeOf_4 : decode b_DiscMakerModel_nodeOf 4 = .ok (.iload_n 2, 1) := by decide +kernel
theorem d_DiscMakerModel_nodeOf_5 : decode b_DiscMakerModel_nodeOf 5 = .ok (.goto 26, 3) := by decide +kernel
theorem d_DiscMakerModel_nodeOf_8 : decode b_DiscMakerModel_nodeOf 8 = .ok (.iload_n 1, 1) := by decide +kernel
theorem d_DiscMakerModel_nodeOf_9 : decode b_DiscMakerModel_nodeOf 9 = .ok (.iconst 1, 1) := by decide +kernel
theorem d_DiscMakerModel_nodeOf_10 : decode b_DiscMakerModel_nodeOf 10 = .ok (.if_icmp .ne 20, 3) := by decide +kernel
theorem d_DiscMakerModel_nodeOf_13 : decode b_DiscMakerModel_nodeOf 13 = .ok (.iload_n 2, 1) := by decide +kernel
theorem d_DiscMakerModel_nodeOf_14 : decode b_DiscMakerModel_nodeOf 14 = .ok (.ifCond .ne 7, 3) := by decide +kernel
theorem d_DiscMakerModel_nodeOf_17 : decode b_DiscMakerModel_nodeOf 17 = .ok (.iconst 0, 1) := by decide +kernel
theorem d_DiscMakerModel_nodeOf_18 : decode b_DiscMakerModel_nodeOf 18 = .ok (.goto 13, 3) := by decide +kernel
theorem d_DiscMakerModel_nodeOf_21 : decode b_DiscMakerModel_nodeOf 21 = .ok (.aload_n 0, 1) := by decide +kernel
theorem d_DiscMakerModel_nodeOf_22 : decode b_DiscMakerModel_nodeOf 22 = .ok (.getfield 17, 3) := by decide +kernel
theorem d_DiscMakerModel_nodeOf_25 : decode b_DiscMakerModel_nodeOf 25 = .ok (.iload_n 2, 1) := by decide +kernel
theorem d_DiscMakerModel_nodeOf_26 : decode b_DiscMakerModel_nodeOf 26 = .ok (.iaload, 1) := by decide +kernel
theorem d_DiscMakerModel_nodeOf_27 : decode b_DiscMakerModel_nodeOf 27 = .ok (.goto 4, 3) := by decide +kernel
theorem d_DiscMakerModel_nodeOf_30 : decode b_DiscMakerModel_nodeOf 30 = .ok (.iload_n 3, 1) := by decide +kernel
theorem d_DiscMakerModel_nodeOf_31 : decode b_DiscMakerModel_nodeOf 31 = .ok (.ireturn, 1) := by decide +kernel
set_option maxHeartbeats 4000000 in
set_option maxRecDepth 100000 in
theorem m_nodeOf (l : Launch) (D : va_G) (cB cI cJ cZ cN cF : ClassId) (sz : Nat) (h0 : Nat) (ma : Nat → Nat) (sv_thrown sv_length sv_nodes sv_many sv_directories sv_runsFrom sv_runs sv_read sv_wrong sv_isNamed sv_goes sv_goesSize sv_goesAt sv_targetParts sv_isRoot : Int32) (fP : Nat → Int32) (x : Int32) (y : Int32) (z : Int32) (hn : 1 ≤ sv_nodes.toInt ∧ sv_nodes.toInt ≤ 40) (hy0 : 0 ≤ y.toInt ∧ y.toInt < sv_nodes.toInt) (hz0 : x.toInt = 0 ∨ x.toInt = 1 ∨ (0 ≤ z.toInt ∧ z.toInt < sv_nodes.toInt)) (hpp : ∀ k : Nat, 1 ≤ k → (k : Int) < sv_nodes.toInt → 0 ≤ (fP k).toInt ∧ (fP k).toInt < k) : Met l y_DiscMakerModel_nodeOf w_DiscMakerModel_nodeOf ({ frames := 0, cells := 0, slots := 0, locals := 0 }) (va_Pc [.ref h0, .int x, .int y, .int z] (fun U => U.heap.size = sz ∧ va_P D CL [(h0, .inr (11, MO ma sv_thrown sv_length sv_nodes sv_many sv_directories sv_runsFrom sv_runs sv_read sv_wrong sv_isNamed sv_goes sv_goesSize sv_goesAt sv_targetParts sv_isRoot)), ((ma 2), .inl (cI, 40, .inl fP))] U.heap ∧ va_K D CL (TY cB cI cJ cZ cN cF) U ∧ NN U ∧ va_D (fun _ => True) [(h0, .inr (11, MO ma sv_thrown sv_length sv_nodes sv_many sv_directories sv_runsFrom sv_runs sv_read sv_wrong sv_isNamed sv_goes sv_goesSize sv_goesAt sv_targetParts sv_isRoot)), ((ma 2), .inl (cI, 40, .inl fP))])) (va_Qi (fun (r : Int32) (u : Unit) => (0 ≤ r.toInt ∧ r.toInt < sv_nodes.toInt)) (fun (u : Unit) (t : State) => match u with | () => va_P D CL [(h0, .inr (11, MO ma sv_thrown sv_length sv_nodes sv_many sv_directories sv_runsFrom sv_runs sv_read sv_wrong sv_isNamed sv_goes sv_goesSize sv_goesAt sv_targetParts sv_isRoot)), ((ma 2), .inl (cI, 40, .inl fP))] t.heap ∧ va_D (va_A [(h0, .inr (11, MO ma sv_thrown sv_length sv_nodes sv_many sv_directories sv_runsFrom sv_runs sv_read sv_wrong sv_isNamed sv_goes sv_goesSize sv_goesAt sv_targetParts sv_isRoot)), ((ma 2), .inl (cI, 40, .inl fP))] sz) [(h0, .inr (11, MO ma sv_thrown sv_length sv_nodes sv_many sv_directories sv_runsFrom sv_runs sv_read sv_wrong sv_isNamed sv_goes sv_goesSize sv_goesAt sv_targetParts sv_isRoot)), ((ma 2), .inl (cI, 40, .inl fP))]) (va_A [(h0, .inr (11, MO ma sv_thrown sv_length sv_nodes sv_many sv_directories sv_runsFrom sv_runs sv_read sv_wrong sv_isNamed sv_goes sv_goesSize sv_goesAt sv_targetParts sv_isRoot)), ((ma 2), .inl (cI, 40, .inl fP))] sz)) 0 0 (va_A [(h0, .inr (11, MO ma sv_thrown sv_length sv_nodes sv_many sv_directories sv_runsFrom sv_runs sv_read sv_wrong sv_isNamed sv_goes sv_goesSize sv_goesAt sv_targetParts sv_isRoot)), ((ma 2), .inl (cI, 40, .inl fP))] sz) := by
  refine Met.ofW (cc := b_DiscMakerModel_nodeOf) (maxL := 4) (ret := some .int) (by decide) rfl ?_
  intro p e s m args below meth c s₁ B hml hv
  obtain ⟨rfl, hsz, hP, hK, hN, hD0⟩ := hv
  have hx := B.exec
  have hb := B.bytes
  have hr := B.returns
  have hts := atoms_spec (ws := w_DiscMakerModel_nodeOf) B.pre
  have ht9 := fun (w : Cond) (h : w ∈ lw_g) => hts w (List.mem_cons_of_mem _ h)
  have hown : s.vm.findClass "DiscMakerModel" = some m.cls := findClass_of_methodNamed B.named
  have hlocks := B.notSynchronized
  subst hsz
  have hD := hD0.self (sz := s.heap.size)
  generalize hAe : va_A [(h0, .inr (11, MO ma sv_thrown sv_length sv_nodes sv_many sv_directories sv_runsFrom sv_runs sv_read sv_wrong sv_isNamed sv_goes sv_goesSize sv_goesAt sv_targetParts sv_isRoot)), ((ma 2), .inl (cI, 40, .inl fP))] s.heap.size = A at hD ⊢
  have hA : ∀ q : Nat, s.heap.size ≤ q → A q := fun q h => by rw [← hAe]; exact Or.inr h
  have hS : va_S A s.heap s.heap [] := va_S.rf
  have hP : va_P D CL [(h0, .inr (11, MO ma sv_thrown sv_length sv_nodes sv_many sv_directories sv_runsFrom sv_runs sv_read sv_wrong sv_isNamed sv_goes sv_goesSize sv_goesAt sv_targetParts sv_isRoot)), ((ma 2), .inl (cI, 40, .inl fP))] s.heap := hP
  have hl := lv_entry [.ref h0, .int x, .int y, .int z] (n := 4) (Nat.le_of_ble_eq_true rfl)
  rw [lg_entry_eq]
  generalize (lg_sl [.ref h0, .int x, .int y, .int z] ++ List.replicate (4 - (lg_sl [.ref h0, .int x, .int y, .int z]).length) Slot.unset).toArray = ls at hl ⊢
  have hl : lv_has ls 4 [(0, .ref h0), (1, .int x), (2, .int y), (3, .int z)] := hl
  have L_m1 : ((-1) : Int32).toInt = (-1) := by decide
  have L_0 : (0 : Int32).toInt = 0 := by decide
  have L_1 : (1 : Int32).toInt = 1 := by decide
  refine lv_iload_n hx hb d_DiscMakerModel_nodeOf_0 rfl (lv_at hl 1 rfl) ?_
  refine lv_if_ne (tgt := 8) hx hb d_DiscMakerModel_nodeOf_1 (by decide) (fun h_9 => ?_) (fun h_9 => ?_)
  · skip
    have g1_2 : ¬ x.toInt = 0 := fun h8 => h_9 ((i_eq rfl (by decide)).mpr h8)
    refine lv_iload_n hx hb d_DiscMakerModel_nodeOf_8 rfl (lv_at hl 1 rfl) ?_
    refine lv_iconst (v := 1) hx hb d_DiscMakerModel_nodeOf_9 (by decide) ?_
    refine lv_icmp_ne (tgt := 30) hx hb d_DiscMakerModel_nodeOf_10 (by decide) (fun h_9 => ?_) (fun h_9 => ?_)
    · skip
      have g10_5 : ¬ x.toInt = 1 := fun h8 => h_9 ((i_eq rfl (by decide)).mpr h8)
      refine lv_iload_n hx hb d_DiscMakerModel_nodeOf_30 rfl (lv_at hl 3 rfl) ?_
      have hP9 := hP.sub (ws' := [(h0, .inr (11, MO ma sv_thrown sv_length sv_nodes sv_many sv_directories sv_runsFrom sv_runs sv_read sv_wrong sv_isNamed sv_goes sv_goesSize sv_goesAt sv_targetParts sv_isRoot)), ((ma 2), .inl (cI, 40, .inl fP))]) [0, 1] rfl
      have hD9 := hD.sub (ws' := [(h0, .inr (11, MO ma sv_thrown sv_length sv_nodes sv_many sv_directories sv_runsFrom sv_runs sv_read sv_wrong sv_isNamed sv_goes sv_goesSize sv_goesAt sv_targetParts sv_isRoot)), ((ma 2), .inl (cI, 40, .inl fP))]) [0, 1] (by decide +kernel) rfl
      exact W.iret (v := z) hx hb hr (fun t ht hW => ⟨⟨z, (), rfl, (by (try dsimp only); first | assumption | omega | trivial), by rw [ht]; exact hP9, hD9⟩, hS.F ht⟩) hS.2.2 d_DiscMakerModel_nodeOf_31
    · skip
      have g10_5 : x.toInt = 1 := (i_eq rfl (by decide)).mp h_9
      refine lv_iload_n hx hb d_DiscMakerModel_nodeOf_13 rfl (lv_at hl 2 rfl) ?_
      refine lv_if_ne (tgt := 21) hx hb d_DiscMakerModel_nodeOf_14 (by decide) (fun h_9 => ?_) (fun h_9 => ?_)
      · skip
        have g14_9 : ¬ y.toInt = 0 := fun h8 => h_9 ((i_eq rfl (by decide)).mpr h8)
        refine lv_aload_n hx hb d_DiscMakerModel_nodeOf_21 rfl (lv_at hl 0 rfl) ?_
        refine va_get (D := D) (ci := 11) (v := .ref (ma 2)) (C := "DiscMakerModel") (T := F_DiscMakerModel) (N := 48) hx hb ht9 in_DiscMakerModel hown hK hP 0 rfl rfl 5 (by decide) (ht9 _ k1436) (fun _ h9 => h9) rfl d_DiscMakerModel_nodeOf_22 ?_
        refine lv_iload_n hx hb d_DiscMakerModel_nodeOf_25 rfl (lv_at hl 2 rfl) ?_
        refine va_iald hx hb hK hP 1 1 rfl rfl (vp_in_iff.mpr ⟨by omega, by omega⟩) d_DiscMakerModel_nodeOf_26 ?_
        refine lv_topi (fun v1 e_v1 => ?_)
        have qy := i_cl (a := y) (by omega)
        have qv1 := hpp y.toNatClampNeg (by omega) (by omega)
        rw [← e_v1] at qv1
        refine lv_goto (tgt := 31) hx hb d_DiscMakerModel_nodeOf_27 (by decide) ?_
        have hP9 := hP.sub (ws' := [(h0, .inr (11, MO ma sv_thrown sv_length sv_nodes sv_many sv_directories sv_runsFrom sv_runs sv_read sv_wrong sv_isNamed sv_goes sv_goesSize sv_goesAt sv_targetParts sv_isRoot)), ((ma 2), .inl (cI, 40, .inl fP))]) [0, 1] rfl
        have hD9 := hD.sub (ws' := [(h0, .inr (11, MO ma sv_thrown sv_length sv_nodes sv_many sv_directories sv_runsFrom sv_runs sv_read sv_wrong sv_isNamed sv_goes sv_goesSize sv_goesAt sv_targetParts sv_isRoot)), ((ma 2), .inl (cI, 40, .inl fP))]) [0, 1] (by decide +kernel) rfl
        exact W.iret (v := v1) hx hb hr (fun t ht hW => ⟨⟨v1, (), rfl, (by (try dsimp only); first | assumption | omega | trivial), by rw [ht]; exact hP9, hD9⟩, hS.F ht⟩) hS.2.2 d_DiscMakerModel_nodeOf_31
      · skip
        have g14_9 : y.toInt = 0 := (i_eq rfl (by decide)).mp h_9
        refine lv_iconst (v := 0) hx hb d_DiscMakerModel_nodeOf_17 (by decide) ?_
        refine lv_goto (tgt := 31) hx hb d_DiscMakerModel_nodeOf_18 (by decide) ?_
        have hP9 := hP.sub (ws' := [(h0, .inr (11, MO ma sv_thrown sv_length sv_nodes sv_many sv_directories sv_runsFrom sv_runs sv_read sv_wrong sv_isNamed sv_goes sv_goesSize sv_goesAt sv_targetParts sv_isRoot)), ((ma 2), .inl (cI, 40, .inl fP))]) [0, 1] rfl
        have hD9 := hD.sub (ws' := [(h0, .inr (11, MO ma sv_thrown sv_length sv_nodes sv_many sv_directories sv_runsFrom sv_runs sv_read sv_wrong sv_isNamed sv_goes sv_goesSize sv_goesAt sv_targetParts sv_isRoot)), ((ma 2), .inl (cI, 40, .inl fP))]) [0, 1] (by decide +kernel) rfl
        exact W.iret (v := 0) hx hb hr (fun t ht hW => ⟨⟨0, (), rfl, (by (try dsimp only); first | assumption | omega | trivial), by rw [ht]; exact hP9, hD9⟩, hS.F ht⟩) hS.2.2 d_DiscMakerModel_nodeOf_31
  · skip
    have g1_2 : x.toInt = 0 := (i_eq rfl (by decide)).mp h_9
    refine lv_iload_n hx hb d_DiscMakerModel_nodeOf_4 rfl (lv_at hl 2 rfl) ?_
    refine lv_goto (tgt := 31) hx hb d_DiscMakerModel_nodeOf_5 (by decide) ?_
    have hP9 := hP.sub (ws' := [(h0, .inr (11, MO ma sv_thrown sv_length sv_nodes sv_many sv_directories sv_runsFrom sv_runs sv_read sv_wrong sv_isNamed sv_goes sv_goesSize sv_goesAt sv_targetParts sv_isRoot)), ((ma 2), .inl (cI, 40, .inl fP))]) [0, 1] rfl
    have hD9 := hD.sub (ws' := [(h0, .inr (11, MO ma sv_thrown sv_length sv_nodes sv_many sv_directories sv_runsFrom sv_runs sv_read sv_wrong sv_isNamed sv_goes sv_goesSize sv_goesAt sv_targetParts sv_isRoot)), ((ma 2), .inl (cI, 40, .inl fP))]) [0, 1] (by decide +kernel) rfl
    exact W.iret (v := y) hx hb hr (fun t ht hW => ⟨⟨y, (), rfl, (by (try dsimp only); first | assumption | omega | trivial), by rw [ht]; exact hP9, hD9⟩, hS.F ht⟩) hS.2.2 d_DiscMakerModel_nodeOf_31
