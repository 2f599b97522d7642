theorem d_DiscMakerModel_letterOf_0 : decode b_DiscMakerModel_letterOf 0 = .ok (.aload_n 0, 1) := by decide +kernel
theorem d_DiscMakerModel_letterOf_1 : decode b_DiscMakerModel_letterOf 1 = .ok (.getfield 108, 3) := by decide +kernel
theorem d_DiscMakerModel_letterOf_4 : decode b_DiscMakerModel_letterOf 4 = .ok (.iload_n 1, 1) := by decide +kernel
theorem d_DiscMakerModel_letterOf_5 : decode b_DiscMakerModel_letterOf 5 = .ok (.iaload, 1) := by decide +kernel
theorem d_DiscMakerModel_letterOf_6 : decode b_DiscMakerModel_letterOf 6 = .ok (.sipush 400, 3) := by decide +kernel
theorem d_DiscMakerModel_letterOf_9 : decode b_DiscMakerModel_letterOf 9 = .ok (.if_icmp .ne 5, 3) := by decide +kernel
theorem d_DiscMakerModel_letterOf_12 : decode b_DiscMakerModel_letterOf 12 = .ok (.iconst 0, 1) := by decide +kernel
theorem d_DiscMakerModel_letterOf_13 : decode b_DiscMakerModel_letterOf 13 = .ok (.ireturn, 1) := by decide +kernel
theorem d_DiscMakerModel_letterOf_14 : decode b_DiscMakerModel_letterOf 14 = .ok (.aload_n 0, 1) := by decide +kernel
theorem d_DiscMakerModel_letterOf_15 : decode b_DiscMakerModel_letterOf 15 = .ok (.getfield 105, 3) := by decide +kernel
theorem d_DiscMakerModel_letterOf_18 : decode b_DiscMakerModel_letterOf 18 = .ok (.sipush 400, 3) := by decide +kernel
theorem d_DiscMakerModel_letterOf_21 : decode b_DiscMakerModel_letterOf 21 = .ok (.iload_n 1, 1) := by decide +kernel
theorem d_DiscMakerModel_letterOf_22 : decode b_DiscMakerModel_letterOf 22 = .ok (.imul, 1) := by decide +kernel
theorem d_DiscMakerModel_letterOf_23 : decode b_DiscMakerModel_letterOf 23 = .ok (.aload_n 0, 1) := by decide +kernel
theorem d_DiscMakerModel_letterOf_24 : decode b_DiscMakerModel_letterOf 24 = .ok (.getfield 108, 3) := by decide +kernel
theorem d_DiscMakerModel_letterOf_27 : decode b_DiscMakerModel_letterOf 27 = .ok (.iload_n 1, 1) := by decide +kernel
theorem d_DiscMakerModel_letterOf_28 : decode b_DiscMakerModel_letterOf 28 = .ok (.iaload, 1) := by decide +kernel
theorem d_DiscMakerModel_letterOf_29 : decode b_DiscMakerModel_letterOf 29 = .ok (.iadd, 1) := by decide +kernel
theorem d_DiscMakerModel_letterOf_30 : decode b_DiscMakerModel_letterOf 30 = .ok (.iload_n 2, 1) := by decide +kernel
theorem d_DiscMakerModel_letterOf_31 : decode b_DiscMakerModel_letterOf 31 = .ok (.i2b, 1) := by decide +kernel
theorem d_DiscMakerModel_letterOf_32 : decode b_DiscMakerModel_letterOf 32 = .ok (.bastore, 1) := by decide +kernel
theorem d_DiscMakerModel_letterOf_33 : decode b_DiscMakerModel_letterOf 33 = .ok (.aload_n 0, 1) := by decide +kernel
theorem d_DiscMakerModel_letterOf_34 : decode b_DiscMakerModel_letterOf 34 = .ok (.getfield 108, 3) := by decide +kernel
theorem d_DiscMakerModel_letterOf_37 : decode b_DiscMakerModel_letterOf 37 = .ok (.iload_n 1, 1) := by decide +kernel
theorem d_DiscMakerModel_letterOf_38 : decode b_DiscMakerModel_letterOf 38 = .ok (.dup2, 1) := by decide +kernel
theorem d_DiscMakerModel_letterOf_39 : decode b_DiscMakerModel_letterOf 39 = .ok (.iaload, 1) := by decide +kernel
theorem d_DiscMakerModel_letterOf_40 : decode b_DiscMakerModel_letterOf 40 = .ok (.iconst 1, 1) := by decide +kernel
theorem d_DiscMakerModel_letterOf_41 : decode b_DiscMakerModel_letterOf 41 = .ok (.iadd, 1) := by decide +kernel
theorem d_DiscMakerModel_letterOf_42 : decode b_DiscMakerModel_letterOf 42 = .ok (.iastore, 1) := by decide +kernel
theorem d_DiscMakerModel_letterOf_43 : decode b_DiscMakerModel_letterOf 43 = .ok (.iconst 1, 1) := by decide +kernel
theorem d_DiscMakerModel_letterOf_44 : decode b_DiscMakerModel_letterOf 44 = .ok (.ireturn, 1) := by decide +kernel
set_option maxHeartbeats 4000000 in
set_option maxRecDepth 100000 in
theorem m_letterOf (l : Launch) (D : va_G) (cB cI cJ cZ cN cF : ClassId) (sz : Nat) (h0 : Nat) (ma : Nat → Nat) (sv_thrown sv_length sv_nodes sv_many sv_directories sv_runsFrom sv_runs sv_read sv_wrong sv_isNamed sv_goes sv_goesSize sv_goesAt sv_targetParts sv_isRoot : Int32) (fT : Nat → Int32) (fTS : Nat → Int32) (x : Int32) (y : Int32) (hk0 : 0 ≤ x.toInt ∧ x.toInt < 100) (hfTS : Rg 0 400 100 fTS) : Met l y_DiscMakerModel_letterOf w_DiscMakerModel_letterOf ({ frames := 0, cells := 0, slots := 0, locals := 0 }) (va_Pc [.ref h0, .int x, .int y] (fun U => U.heap.size = sz ∧ va_P D CL [(h0, .inr (11, MO ma sv_thrown sv_length sv_nodes sv_many sv_directories sv_runsFrom sv_runs sv_read sv_wrong sv_isNamed sv_goes sv_goesSize sv_goesAt sv_targetParts sv_isRoot)), ((ma 30), .inl (cB, 40000, .inl fT)), ((ma 31), .inl (cI, 100, .inl fTS))] U.heap ∧ va_K D CL (TY cB cI cJ cZ cN cF) U ∧ NN U ∧ va_D (fun _ => True) [(h0, .inr (11, MO ma sv_thrown sv_length sv_nodes sv_many sv_directories sv_runsFrom sv_runs sv_read sv_wrong sv_isNamed sv_goes sv_goesSize sv_goesAt sv_targetParts sv_isRoot)), ((ma 30), .inl (cB, 40000, .inl fT)), ((ma 31), .inl (cI, 100, .inl fTS))])) (va_Qi (fun (r : Int32) (u : (Nat → Int32) × (Nat → Int32)) => match u with | (gT, gTS) => (0 ≤ r.toInt ∧ r.toInt ≤ 1) ∧ (Rg 0 400 100 gTS)) (fun (u : (Nat → Int32) × (Nat → Int32)) (t : State) => match u with | (gT, gTS) => va_P D CL [(h0, .inr (11, MO ma sv_thrown sv_length sv_nodes sv_many sv_directories sv_runsFrom sv_runs sv_read sv_wrong sv_isNamed sv_goes sv_goesSize sv_goesAt sv_targetParts sv_isRoot)), ((ma 30), .inl (cB, 40000, .inl gT)), ((ma 31), .inl (cI, 100, .inl gTS))] t.heap ∧ va_D (va_A [(h0, .inr (11, MO ma sv_thrown sv_length sv_nodes sv_many sv_directories sv_runsFrom sv_runs sv_read sv_wrong sv_isNamed sv_goes sv_goesSize sv_goesAt sv_targetParts sv_isRoot)), ((ma 30), .inl (cB, 40000, .inl fT)), ((ma 31), .inl (cI, 100, .inl fTS))] sz) [(h0, .inr (11, MO ma sv_thrown sv_length sv_nodes sv_many sv_directories sv_runsFrom sv_runs sv_read sv_wrong sv_isNamed sv_goes sv_goesSize sv_goesAt sv_targetParts sv_isRoot)), ((ma 30), .inl (cB, 40000, .inl gT)), ((ma 31), .inl (cI, 100, .inl gTS))]) (va_A [(h0, .inr (11, MO ma sv_thrown sv_length sv_nodes sv_many sv_directories sv_runsFrom sv_runs sv_read sv_wrong sv_isNamed sv_goes sv_goesSize sv_goesAt sv_targetParts sv_isRoot)), ((ma 30), .inl (cB, 40000, .inl fT)), ((ma 31), .inl (cI, 100, .inl fTS))] sz)) 0 0 (va_A [(h0, .inr (11, MO ma sv_thrown sv_length sv_nodes sv_many sv_directories sv_runsFrom sv_runs sv_read sv_wrong sv_isNamed sv_goes sv_goesSize sv_goesAt sv_targetParts sv_isRoot)), ((ma 30), .inl (cB, 40000, .inl fT)), ((ma 31), .inl (cI, 100, .inl fTS))] sz) := by
  refine Met.ofW (cc := b_DiscMakerModel_letterOf) (maxL := 3) (ret := some .boolean) (by decide) rfl ?_
  intro p e s m args below meth c s₁ B hml hv
  obtain ⟨rfl, hsz, hP, hK, hN, hD0⟩ := hv
  have hx := B.exec
  have hb := B.bytes
  have hr := B.returns
  have hts := atoms_spec (ws := w_DiscMakerModel_letterOf) B.pre
  have ht9 := fun (w : Cond) (h : w ∈ lw_g) => hts w (List.mem_cons_of_mem _ h)
  have hown : s.vm.findClass "DiscMakerModel" = some m.cls := findClass_of_methodNamed B.named
  have hlocks := B.notSynchronized
  subst hsz
  have hD := hD0.self (sz := s.heap.size)
  generalize hAe : va_A [(h0, .inr (11, MO ma sv_thrown sv_length sv_nodes sv_many sv_directories sv_runsFrom sv_runs sv_read sv_wrong sv_isNamed sv_goes sv_goesSize sv_goesAt sv_targetParts sv_isRoot)), ((ma 30), .inl (cB, 40000, .inl fT)), ((ma 31), .inl (cI, 100, .inl fTS))] s.heap.size = A at hD ⊢
  have hA : ∀ q : Nat, s.heap.size ≤ q → A q := fun q h => by rw [← hAe]; exact Or.inr h
  have hS : va_S A s.heap s.heap [] := va_S.rf
  have hP : va_P D CL [(h0, .inr (11, MO ma sv_thrown sv_length sv_nodes sv_many sv_directories sv_runsFrom sv_runs sv_read sv_wrong sv_isNamed sv_goes sv_goesSize sv_goesAt sv_targetParts sv_isRoot)), ((ma 30), .inl (cB, 40000, .inl fT)), ((ma 31), .inl (cI, 100, .inl fTS))] s.heap := hP
  have hl := lv_entry [.ref h0, .int x, .int y] (n := 3) (Nat.le_of_ble_eq_true rfl)
  rw [lg_entry_eq]
  generalize (lg_sl [.ref h0, .int x, .int y] ++ List.replicate (3 - (lg_sl [.ref h0, .int x, .int y]).length) Slot.unset).toArray = ls at hl ⊢
  have hl : lv_has ls 3 [(0, .ref h0), (1, .int x), (2, .int y)] := hl
  have L_m1 : ((-1) : Int32).toInt = (-1) := by decide
  have L_0 : (0 : Int32).toInt = 0 := by decide
  have L_1 : (1 : Int32).toInt = 1 := by decide
  have L_400 : (400 : Int32).toInt = 400 := by decide
  refine lv_aload_n hx hb d_DiscMakerModel_letterOf_0 rfl (lv_at hl 0 rfl) ?_
  refine va_get (D := D) (ci := 11) (v := .ref (ma 31)) (C := "DiscMakerModel") (T := F_DiscMakerModel) (N := 48) hx hb ht9 in_DiscMakerModel hown hK hP 0 rfl rfl 39 (by decide) (ht9 _ k1470) (fun _ h9 => h9) rfl d_DiscMakerModel_letterOf_1 ?_
  refine lv_iload_n hx hb d_DiscMakerModel_letterOf_4 rfl (lv_at hl 1 rfl) ?_
  refine va_iald hx hb hK hP 2 1 rfl rfl (vp_in_iff.mpr ⟨by omega, by omega⟩) d_DiscMakerModel_letterOf_5 ?_
  refine lv_topi (fun v1 e_v1 => ?_)
  have t_v1 : 0 ≤ v1.toInt ∧ v1.toInt ≤ 400 := by
    rw [e_v1]; exact hfTS _ (by have := i_cl (a := x) (by omega); omega)
  refine lv_sipush (v := 400) hx hb d_DiscMakerModel_letterOf_6 (by decide) ?_
  refine lv_icmp_ne (tgt := 14) hx hb d_DiscMakerModel_letterOf_9 (by decide) (fun h_9 => ?_) (fun h_9 => ?_)
  · skip
    have g9_6 : ¬ v1.toInt = 400 := fun h8 => h_9 ((i_eq rfl (by decide)).mpr h8)
    refine lv_aload_n hx hb d_DiscMakerModel_letterOf_14 rfl (lv_at hl 0 rfl) ?_
    refine va_get (D := D) (ci := 11) (v := .ref (ma 30)) (C := "DiscMakerModel") (T := F_DiscMakerModel) (N := 48) hx hb ht9 in_DiscMakerModel hown hK hP 0 rfl rfl 38 (by decide) (ht9 _ k1469) (fun _ h9 => h9) rfl d_DiscMakerModel_letterOf_15 ?_
    refine lv_sipush (v := 400) hx hb d_DiscMakerModel_letterOf_18 (by decide) ?_
    refine lv_iload_n hx hb d_DiscMakerModel_letterOf_21 rfl (lv_at hl 1 rfl) ?_
    refine lv_imul hx hb d_DiscMakerModel_letterOf_22 ?_
    refine lv_topi (fun v2 e_v2 => ?_)
    have t_v2 : v2.toInt = 400 * x.toInt := by rw [e_v2]; exact i_mul (by decide) rfl (by omega) (by omega)
    refine lv_aload_n hx hb d_DiscMakerModel_letterOf_23 rfl (lv_at hl 0 rfl) ?_
    refine va_get (D := D) (ci := 11) (v := .ref (ma 31)) (C := "DiscMakerModel") (T := F_DiscMakerModel) (N := 48) hx hb ht9 in_DiscMakerModel hown hK hP 0 rfl rfl 39 (by decide) (ht9 _ k1470) (fun _ h9 => h9) rfl d_DiscMakerModel_letterOf_24 ?_
    refine lv_iload_n hx hb d_DiscMakerModel_letterOf_27 rfl (lv_at hl 1 rfl) ?_
    refine va_iald hx hb hK hP 2 1 rfl rfl (vp_in_iff.mpr ⟨by omega, by omega⟩) d_DiscMakerModel_letterOf_28 ?_
    refine lv_topi (fun v3 e_v3 => ?_)
    have t_v3 : 0 ≤ v3.toInt ∧ v3.toInt ≤ 400 := by
      rw [e_v3]; exact hfTS _ (by have := i_cl (a := x) (by omega); omega)
    have q_v3 : v3.toInt = v1.toInt := by rw [e_v3, e_v1]
    refine lv_iadd hx hb d_DiscMakerModel_letterOf_29 ?_
    refine lv_topi (fun v4 e_v4 => ?_)
    have t_v4 : v4.toInt = v2.toInt + v3.toInt := by rw [e_v4]; exact i_add rfl rfl (by omega) (by omega)
    refine lv_iload_n hx hb d_DiscMakerModel_letterOf_30 rfl (lv_at hl 2 rfl) ?_
    refine lv_i2b hx hb d_DiscMakerModel_letterOf_31 rfl ?_
    refine lv_topi (fun v5 e_v5 => ?_)
    have t_v5 : (-128) ≤ v5.toInt ∧ v5.toInt ≤ 127 := by rw [e_v5]; exact i_b _
    refine zq_bast hx hb hK hP hD hS 1 0 rfl rfl (vp_in_iff.mpr ⟨by omega, by omega⟩) d_DiscMakerModel_letterOf_32 (fun f6 e_f6 H locs hP hD hS => ?_)
    have hP : va_P D CL [(h0, .inr (11, MO ma sv_thrown sv_length sv_nodes sv_many sv_directories sv_runsFrom sv_runs sv_read sv_wrong sv_isNamed sv_goes sv_goesSize sv_goesAt sv_targetParts sv_isRoot)), ((ma 30), .inl (cB, 40000, .inl f6)), ((ma 31), .inl (cI, 100, .inl fTS))] H := hP
    have hD : va_D A [(h0, .inr (11, MO ma sv_thrown sv_length sv_nodes sv_many sv_directories sv_runsFrom sv_runs sv_read sv_wrong sv_isNamed sv_goes sv_goesSize sv_goesAt sv_targetParts sv_isRoot)), ((ma 30), .inl (cB, 40000, .inl f6)), ((ma 31), .inl (cI, 100, .inl fTS))] := hD
    refine lv_aload_n hx hb d_DiscMakerModel_letterOf_33 rfl (lv_at hl 0 rfl) ?_
    refine va_get (D := D) (ci := 11) (v := .ref (ma 31)) (C := "DiscMakerModel") (T := F_DiscMakerModel) (N := 48) hx hb ht9 in_DiscMakerModel hown hK hP 0 rfl rfl 39 (by decide) (ht9 _ k1470) (fun _ h9 => h9) rfl d_DiscMakerModel_letterOf_34 ?_
    refine lv_iload_n hx hb d_DiscMakerModel_letterOf_37 rfl (lv_at hl 1 rfl) ?_
    refine lv_dup2_11 hx hb d_DiscMakerModel_letterOf_38 rfl rfl ?_
    refine va_iald hx hb hK hP 2 1 rfl rfl (vp_in_iff.mpr ⟨by omega, by omega⟩) d_DiscMakerModel_letterOf_39 ?_
    refine lv_topi (fun v7 e_v7 => ?_)
    have t_v7 : 0 ≤ v7.toInt ∧ v7.toInt ≤ 400 := by
      rw [e_v7]; exact hfTS _ (by have := i_cl (a := x) (by omega); omega)
    have q_v7 : v7.toInt = v1.toInt := by rw [e_v7, e_v1]
    refine lv_iconst (v := 1) hx hb d_DiscMakerModel_letterOf_40 (by decide) ?_
    refine lv_iadd hx hb d_DiscMakerModel_letterOf_41 ?_
    refine lv_topi (fun v8 e_v8 => ?_)
    have t_v8 : v8.toInt = v7.toInt + 1 := by rw [e_v8]; exact i_add rfl (by decide) (by omega) (by omega)
    refine zq_iast hx hb hK hP hD hS 2 1 rfl rfl (vp_in_iff.mpr ⟨by omega, by omega⟩) d_DiscMakerModel_letterOf_42 (fun f9 e_f9 H locs hP hD hS => ?_)
    have hP : va_P D CL [(h0, .inr (11, MO ma sv_thrown sv_length sv_nodes sv_many sv_directories sv_runsFrom sv_runs sv_read sv_wrong sv_isNamed sv_goes sv_goesSize sv_goesAt sv_targetParts sv_isRoot)), ((ma 30), .inl (cB, 40000, .inl f6)), ((ma 31), .inl (cI, 100, .inl f9))] H := hP
    have hD : va_D A [(h0, .inr (11, MO ma sv_thrown sv_length sv_nodes sv_many sv_directories sv_runsFrom sv_runs sv_read sv_wrong sv_isNamed sv_goes sv_goesSize sv_goesAt sv_targetParts sv_isRoot)), ((ma 30), .inl (cB, 40000, .inl f6)), ((ma 31), .inl (cI, 100, .inl f9))] := hD
    have R_f9 : Rg 0 400 100 f9 := Rg_upd e_f9 hfTS (by omega) (by omega)
    have s_f9 : f9 x.toNatClampNeg = v8 := by rw [e_f9]; unfold upd; rw [if_pos (by first | rfl | decide)]
    refine lv_iconst (v := 1) hx hb d_DiscMakerModel_letterOf_43 (by decide) ?_
    have hP9 := hP.sub (ws' := [(h0, .inr (11, MO ma sv_thrown sv_length sv_nodes sv_many sv_directories sv_runsFrom sv_runs sv_read sv_wrong sv_isNamed sv_goes sv_goesSize sv_goesAt sv_targetParts sv_isRoot)), ((ma 30), .inl (cB, 40000, .inl f6)), ((ma 31), .inl (cI, 100, .inl f9))]) [0, 1, 2] rfl
    have hD9 := hD.sub (ws' := [(h0, .inr (11, MO ma sv_thrown sv_length sv_nodes sv_many sv_directories sv_runsFrom sv_runs sv_read sv_wrong sv_isNamed sv_goes sv_goesSize sv_goesAt sv_targetParts sv_isRoot)), ((ma 30), .inl (cB, 40000, .inl f6)), ((ma 31), .inl (cI, 100, .inl f9))]) [0, 1, 2] (by decide +kernel) rfl
    exact W.zret (v := 1) hx hb hr (by first | rfl | decide | exact i_narZ (by omega)) (fun t ht hW => ⟨⟨1, (f6, f9), rfl, ⟨(by (try dsimp only); first | assumption | omega | trivial), (by (try dsimp only); first | assumption | omega | trivial)⟩, by rw [ht]; exact hP9, hD9⟩, hS.F ht⟩) hS.2.2 d_DiscMakerModel_letterOf_44
  · skip
    have g9_6 : v1.toInt = 400 := (i_eq rfl (by decide)).mp h_9
    refine lv_iconst (v := 0) hx hb d_DiscMakerModel_letterOf_12 (by decide) ?_
    have hP9 := hP.sub (ws' := [(h0, .inr (11, MO ma sv_thrown sv_length sv_nodes sv_many sv_directories sv_runsFrom sv_runs sv_read sv_wrong sv_isNamed sv_goes sv_goesSize sv_goesAt sv_targetParts sv_isRoot)), ((ma 30), .inl (cB, 40000, .inl fT)), ((ma 31), .inl (cI, 100, .inl fTS))]) [0, 1, 2] rfl
    have hD9 := hD.sub (ws' := [(h0, .inr (11, MO ma sv_thrown sv_length sv_nodes sv_many sv_directories sv_runsFrom sv_runs sv_read sv_wrong sv_isNamed sv_goes sv_goesSize sv_goesAt sv_targetParts sv_isRoot)), ((ma 30), .inl (cB, 40000, .inl fT)), ((ma 31), .inl (cI, 100, .inl fTS))]) [0, 1, 2] (by decide +kernel) rfl
    exact W.zret (v := 0) hx hb hr (by first | rfl | decide | exact i_narZ (by omega)) (fun t ht hW => ⟨⟨0, (fT, fTS), rfl, ⟨(by (try dsimp only); first | assumption | omega | trivial), (by (try dsimp only); first | assumption | omega | trivial)⟩, by rw [ht]; exact hP9, hD9⟩, hS.F ht⟩) hS.2.2 d_DiscMakerModel_letterOf_13

theorem d_DiscMakerModel_nameGoesOn_0 : decode b_DiscMakerModel_nameGoesOn 0 = .ok (.iload_n 3, 1) := by decide +kernel
theorem d_DiscMakerModel_nameGoesOn_1 : decode b_DiscMakerModel_nameGoesOn 1 = .ok (.iconst 5, 1) := by decide +kernel
theorem d_DiscMakerModel_nameGoesOn_2 : decode b_DiscMakerModel_nameGoesOn 2 = .ok (.if_icmp .lt 28, 3) := by decide +kernel
theorem d_DiscMakerModel_nameGoesOn_5 : decode b_DiscMakerModel_nameGoesOn 5 = .ok (.aload_n 0, 1) := by decide +kernel
theorem d_DiscMakerModel_nameGoesOn_6 : decode b_DiscMakerModel_nameGoesOn 6 = .ok (.iload_n 2, 1) := by decide +kernel
theorem d_DiscMakerModel_nameGoesOn_7 : decode b_DiscMakerModel_nameGoesOn 7 = .ok (.iconst 4, 1) := by decide +kernel
theorem d_DiscMakerModel_nameGoesOn_8 : decode b_DiscMakerModel_nameGoesOn 8 = .ok (.iadd, 1) := by decide +kernel
theorem d_DiscMakerModel_nameGoesOn_9 : decode b_DiscMakerModel_nameGoesOn 9 = .ok (.invokevirtual 303, 3) := by decide +kernel
theorem d_DiscMakerModel_nameGoesOn_12 : decode b_DiscMakerModel_nameGoesOn 12 = .ok (.ifCond .ne 18, 3) := by decide +kernel
theorem d_DiscMakerModel_nameGoesOn_15 : decode b_DiscMakerModel_nameGoesOn 15 = .ok (.aload_n 0, 1) := by decide +kernel
theorem d_DiscMakerModel_nameGoesOn_16 : decode b_DiscMakerModel_nameGoesOn 16 = .ok (.getfield 101, 3) := by decide +kernel
theorem d_DiscMakerModel_nameGoesOn_19 : decode b_DiscMakerModel_nameGoesOn 19 = .ok (.iload_n 1, 1) := by decide +kernel
theorem d_DiscMakerModel_nameGoesOn_20 : decode b_DiscMakerModel_nameGoesOn 20 = .ok (.iaload, 1) := by decide +kernel
theorem d_DiscMakerModel_nameGoesOn_21 : decode b_DiscMakerModel_nameGoesOn 21 = .ok (.iload_n 3, 1) := by decide +kernel
theorem d_DiscMakerModel_nameGoesOn_22 : decode b_DiscMakerModel_nameGoesOn 22 = .ok (.iadd, 1) := by decide +kernel
theorem d_DiscMakerModel_nameGoesOn_23 : decode b_DiscMakerModel_nameGoesOn 23 = .ok (.iconst 5, 1) := by decide +kernel
theorem d_DiscMakerModel_nameGoesOn_24 : decode b_DiscMakerModel_nameGoesOn 24 = .ok (.isub, 1) := by decide +kernel
theorem d_DiscMakerModel_nameGoesOn_25 : decode b_DiscMakerModel_nameGoesOn 25 = .ok (.bipush 60, 2) := by decide +kernel
theorem d_DiscMakerModel_nameGoesOn_27 : decode b_DiscMakerModel_nameGoesOn 27 = .ok (.if_icmp .le 5, 3) := by decide +kernel
theorem d_DiscMakerModel_nameGoesOn_30 : decode b_DiscMakerModel_nameGoesOn 30 = .ok (.iconst 0, 1) := by decide +kernel
theorem d_DiscMakerModel_nameGoesOn_31 : decode b_DiscMakerModel_nameGoesOn 31 = .ok (.ireturn, 1) := by decide +kernel
theorem d_DiscMakerModel_nameGoesOn_32 : decode b_DiscMakerModel_nameGoesOn 32 = .ok (.aload_n 0, 1) := by decide +kernel
theorem d_DiscMakerModel_nameGoesOn_33 : decode b_DiscMakerModel_nameGoesOn 33 = .ok (.iconst 1, 1) := by decide +kernel
theorem d_DiscMakerModel_nameGoesOn_34 : decode b_DiscMakerModel_nameGoesOn 34 = .ok (.putfield 348, 3) := by decide +kernel
theorem d_DiscMakerModel_nameGoesOn_37 : decode b_DiscMakerModel_nameGoesOn 37 = .ok (.iconst 0, 1) := by decide +kernel
theorem d_DiscMakerModel_nameGoesOn_38 : decode b_DiscMakerModel_nameGoesOn 38 = .ok (.istore 4, 2) := by decide +kernel
theorem d_DiscMakerModel_nameGoesOn_40 : decode b_DiscMakerModel_nameGoesOn 40 = .ok (.iload 4, 2) := by decide +kernel
theorem d_DiscMakerModel_nameGoesOn_42 : decode b_DiscMakerModel_nameGoesOn 42 = .ok (.iload_n 3, 1) := by decide +kernel
theorem d_DiscMakerModel_nameGoesOn_43 : decode b_DiscMakerModel_nameGoesOn 43 = .ok (.iconst 5, 1) := by decide +kernel
theorem d_DiscMakerModel_nameGoesOn_44 : decode b_DiscMakerModel_nameGoesOn 44 = .ok (.isub, 1) := by decide +kernel
theorem d_DiscMakerModel_nameGoesOn_45 : decode b_DiscMakerModel_nameGoesOn 45 = .ok (.if_icmp .ge 39, 3) := by decide +kernel
theorem d_DiscMakerModel_nameGoesOn_48 : decode b_DiscMakerModel_nameGoesOn 48 = .ok (.aload_n 0, 1) := by decide +kernel
theorem d_DiscMakerModel_nameGoesOn_49 : decode b_DiscMakerModel_nameGoesOn 49 = .ok (.getfield 98, 3) := by decide +kernel
theorem d_DiscMakerModel_nameGoesOn_52 : decode b_DiscMakerModel_nameGoesOn 52 = .ok (.bipush 60, 2) := by decide +kernel
theorem d_DiscMakerModel_nameGoesOn_54 : decode b_DiscMakerModel_nameGoesOn 54 = .ok (.iload_n 1, 1) := by decide +kernel
theorem d_DiscMakerModel_nameGoesOn_55 : decode b_DiscMakerModel_nameGoesOn 55 = .ok (.imul, 1) := by decide +kernel
theorem d_DiscMakerModel_nameGoesOn_56 : decode b_DiscMakerModel_nameGoesOn 56 = .ok (.aload_n 0, 1) := by decide +kernel
theorem d_DiscMakerModel_nameGoesOn_57 : decode b_DiscMakerModel_nameGoesOn 57 = .ok (.getfield 101, 3) := by decide +kernel
theorem d_DiscMakerModel_nameGoesOn_60 : decode b_DiscMakerModel_nameGoesOn 60 = .ok (.iload_n 1, 1) := by decide +kernel
theorem d_DiscMakerModel_nameGoesOn_61 : decode b_DiscMakerModel_nameGoesOn 61 = .ok (.iaload, 1) := by decide +kernel
theorem d_DiscMakerModel_nameGoesOn_62 : decode b_DiscMakerModel_nameGoesOn 62 = .ok (.iadd, 1) := by decide +kernel
theorem d_DiscMakerModel_nameGoesOn_63 : decode b_DiscMakerModel_nameGoesOn 63 = .ok (.iload 4, 2) := by decide +kernel
theorem d_DiscMakerModel_nameGoesOn_65 : decode b_DiscMakerModel_nameGoesOn 65 = .ok (.iadd, 1) := by decide +kernel
theorem d_DiscMakerModel_nameGoesOn_66 : decode b_DiscMakerModel_nameGoesOn 66 = .ok (.aload_n 0, 1) := by decide +kernel
theorem d_DiscMakerModel_nameGoesOn_67 : decode b_DiscMakerModel_nameGoesOn 67 = .ok (.iload_n 2, 1) := by decide +kernel
theorem d_DiscMakerModel_nameGoesOn_68 : decode b_DiscMakerModel_nameGoesOn 68 = .ok (.iconst 5, 1) := by decide +kernel
theorem d_DiscMakerModel_nameGoesOn_69 : decode b_DiscMakerModel_nameGoesOn 69 = .ok (.iadd, 1) := by decide +kernel
theorem d_DiscMakerModel_nameGoesOn_70 : decode b_DiscMakerModel_nameGoesOn 70 = .ok (.iload 4, 2) := by decide +kernel
theorem d_DiscMakerModel_nameGoesOn_72 : decode b_DiscMakerModel_nameGoesOn 72 = .ok (.iadd, 1) := by decide +kernel
theorem d_DiscMakerModel_nameGoesOn_73 : decode b_DiscMakerModel_nameGoesOn 73 = .ok (.invokevirtual 303, 3) := by decide +kernel
theorem d_DiscMakerModel_nameGoesOn_76 : decode b_DiscMakerModel_nameGoesOn 76 = .ok (.i2b, 1) := by decide +kernel
theorem d_DiscMakerModel_nameGoesOn_77 : decode b_DiscMakerModel_nameGoesOn 77 = .ok (.bastore, 1) := by decide +kernel
theorem d_DiscMakerModel_nameGoesOn_78 : decode b_DiscMakerModel_nameGoesOn 78 = .ok (.iinc 4 1, 3) := by decide +kernel
theorem d_DiscMakerModel_nameGoesOn_81 : decode b_DiscMakerModel_nameGoesOn 81 = .ok (.goto (-41), 3) := by decide +kernel
theorem d_DiscMakerModel_nameGoesOn_84 : decode b_DiscMakerModel_nameGoesOn 84 = .ok (.aload_n 0, 1) := by decide +kernel
theorem d_DiscMakerModel_nameGoesOn_85 : decode b_DiscMakerModel_nameGoesOn 85 = .ok (.getfield 101, 3) := by decide +kernel
theorem d_DiscMakerModel_nameGoesOn_88 : decode b_DiscMakerModel_nameGoesOn 88 = .ok (.iload_n 1, 1) := by decide +kernel
theorem d_DiscMakerModel_nameGoesOn_89 : decode b_DiscMakerModel_nameGoesOn 89 = .ok (.dup2, 1) := by decide +kernel
theorem d_DiscMakerModel_nameGoesOn_90 : decode b_DiscMakerModel_nameGoesOn 90 = .ok (.iaload, 1) := by decide +kernel
theorem d_DiscMakerModel_nameGoesOn_91 : decode b_DiscMakerModel_nameGoesOn 91 = .ok (.iload_n 3, 1) := by decide +kernel
theorem d_DiscMakerModel_nameGoesOn_92 : decode b_DiscMakerModel_nameGoesOn 92 = .ok (.iconst 5, 1) := by decide +kernel
theorem d_DiscMakerModel_nameGoesOn_93 : decode b_DiscMakerModel_nameGoesOn 93 = .ok (.isub, 1) := by decide +kernel
theorem d_DiscMakerModel_nameGoesOn_94 : decode b_DiscMakerModel_nameGoesOn 94 = .ok (.iadd, 1) := by decide +kernel
theorem d_DiscMakerModel_nameGoesOn_95 : decode b_DiscMakerModel_nameGoesOn 95 = .ok (.iastore, 1) := by decide +kernel
theorem d_DiscMakerModel_nameGoesOn_96 : decode b_DiscMakerModel_nameGoesOn 96 = .ok (.iconst 1, 1) := by decide +kernel
theorem d_DiscMakerModel_nameGoesOn_97 : decode b_DiscMakerModel_nameGoesOn 97 = .ok (.ireturn, 1) := by decide +kernel
set_option maxHeartbeats 4000000 in
set_option maxRecDepth 100000 in
theorem m_nameGoesOn (l : Launch) (D : va_G) (cB cI cJ cZ cN cF : ClassId) (sz : Nat) (h0 : Nat) (ma : Nat → Nat) (sv_thrown sv_length sv_nodes sv_many sv_directories sv_runsFrom sv_runs sv_read sv_wrong sv_isNamed sv_goes sv_goesSize sv_goesAt sv_targetParts sv_isRoot : Int32) (F : Nat → Int64) (fN : Nat → Int32) (fNS : Nat → Int32) (x : Int32) (y : Int32) (z : Int32) (hk0 : 0 ≤ x.toInt ∧ x.toInt < 100) (hy0 : 0 ≤ y.toInt) (hz0 : 0 ≤ z.toInt ∧ z.toInt ≤ 255) (hyz : y.toInt + z.toInt ≤ 368640) (hfNS : Rg 0 60 100 fNS) : Met l y_DiscMakerModel_nameGoesOn w_DiscMakerModel_nameGoesOn ({ frames := 1, cells := 0, slots := 0, locals := 21 }) (va_Pc [.ref h0, .int x, .int y, .int z] (fun U => U.heap.size = sz ∧ va_P D CL [(h0, .inr (11, MO ma sv_thrown sv_length sv_nodes sv_many sv_directories sv_runsFrom sv_runs sv_read sv_wrong sv_isNamed sv_goes sv_goesSize sv_goesAt sv_targetParts sv_isRoot)), ((ma 16), .inl (cJ, 46080, .inr (.inl F))), ((ma 28), .inl (cB, 6000, .inl fN)), ((ma 29), .inl (cI, 100, .inl fNS))] U.heap ∧ va_K D CL (TY cB cI cJ cZ cN cF) U ∧ NN U ∧ va_D (fun _ => True) [(h0, .inr (11, MO ma sv_thrown sv_length sv_nodes sv_many sv_directories sv_runsFrom sv_runs sv_read sv_wrong sv_isNamed sv_goes sv_goesSize sv_goesAt sv_targetParts sv_isRoot)), ((ma 16), .inl (cJ, 46080, .inr (.inl F))), ((ma 28), .inl (cB, 6000, .inl fN)), ((ma 29), .inl (cI, 100, .inl fNS))])) (va_Qi (fun (r : Int32) (u : Int32 × (Nat → Int32) × (Nat → Int32)) => match u with | (nm, gN, gNS) => (0 ≤ r.toInt ∧ r.toInt ≤ 1) ∧ (Rg 0 60 100 gNS)) (fun (u : Int32 × (Nat → Int32) × (Nat → Int32)) (t : State) => match u with | (nm, gN, gNS) => va_P D CL [(h0, .inr (11, MO ma sv_thrown sv_length sv_nodes sv_many sv_directories sv_runsFrom sv_runs sv_read sv_wrong nm sv_goes sv_goesSize sv_goesAt sv_targetParts sv_isRoot)), ((ma 16), .inl (cJ, 46080, .inr (.inl F))), ((ma 28), .inl (cB, 6000, .inl gN)), ((ma 29), .inl (cI, 100, .inl gNS))] t.heap ∧ va_D (va_A [(h0, .inr (11, MO ma sv_thrown sv_length sv_nodes sv_many sv_directories sv_runsFrom sv_runs sv_read sv_wrong sv_isNamed sv_goes sv_goesSize sv_goesAt sv_targetParts sv_isRoot)), ((ma 16), .inl (cJ, 46080, .inr (.inl F))), ((ma 28), .inl (cB, 6000, .inl fN)), ((ma 29), .inl (cI, 100, .inl fNS))] sz) [(h0, .inr (11, MO ma sv_thrown sv_length sv_nodes sv_many sv_directories sv_runsFrom sv_runs sv_read sv_wrong nm sv_goes sv_goesSize sv_goesAt sv_targetParts sv_isRoot)), ((ma 16), .inl (cJ, 46080, .inr (.inl F))), ((ma 28), .inl (cB, 6000, .inl gN)), ((ma 29), .inl (cI, 100, .inl gNS))]) (va_A [(h0, .inr (11, MO ma sv_thrown sv_length sv_nodes sv_many sv_directories sv_runsFrom sv_runs sv_read sv_wrong sv_isNamed sv_goes sv_goesSize sv_goesAt sv_targetParts sv_isRoot)), ((ma 16), .inl (cJ, 46080, .inr (.inl F))), ((ma 28), .inl (cB, 6000, .inl fN)), ((ma 29), .inl (cI, 100, .inl fNS))] sz)) 0 0 (va_A [(h0, .inr (11, MO ma sv_thrown sv_length sv_nodes sv_many sv_directories sv_runsFrom sv_runs sv_read sv_wrong sv_isNamed sv_goes sv_goesSize sv_goesAt sv_targetParts sv_isRoot)), ((ma 16), .inl (cJ, 46080, .inr (.inl F))), ((ma 28), .inl (cB, 6000, .inl fN)), ((ma 29), .inl (cI, 100, .inl fNS))] sz) := by
  refine Met.ofW (cc := b_DiscMakerModel_nameGoesOn) (maxL := 5) (ret := some .boolean) (by decide) rfl ?_
  intro p e s m args below meth c s₁ B hml hv
  obtain ⟨rfl, hsz, hP, hK, hN, hD0⟩ := hv
  have hx := B.exec
  have hb := B.bytes
  have hr := B.returns
  have hts := atoms_spec (ws := w_DiscMakerModel_nameGoesOn) B.pre
  have ht9 := fun (w : Cond) (h : w ∈ lw_g) => hts w (List.mem_cons_of_mem _ h)
  have hown : s.vm.findClass "DiscMakerModel" = some m.cls := findClass_of_methodNamed B.named
  have hlocks := B.notSynchronized
  subst hsz
  have hD := hD0.self (sz := s.heap.size)
  generalize hAe : va_A [(h0, .inr (11, MO ma sv_thrown sv_length sv_nodes sv_many sv_directories sv_runsFrom sv_runs sv_read sv_wrong sv_isNamed sv_goes sv_goesSize sv_goesAt sv_targetParts sv_isRoot)), ((ma 16), .inl (cJ, 46080, .inr (.inl F))), ((ma 28), .inl (cB, 6000, .inl fN)), ((ma 29), .inl (cI, 100, .inl fNS))] s.heap.size = A at hD ⊢
  have hA : ∀ q : Nat, s.heap.size ≤ q → A q := fun q h => by rw [← hAe]; exact Or.inr h
  have hS : va_S A s.heap s.heap [] := va_S.rf
  have hP : va_P D CL [(h0, .inr (11, MO ma sv_thrown sv_length sv_nodes sv_many sv_directories sv_runsFrom sv_runs sv_read sv_wrong sv_isNamed sv_goes sv_goesSize sv_goesAt sv_targetParts sv_isRoot)), ((ma 16), .inl (cJ, 46080, .inr (.inl F))), ((ma 28), .inl (cB, 6000, .inl fN)), ((ma 29), .inl (cI, 100, .inl fNS))] s.heap := hP
  have hl := lv_entry [.ref h0, .int x, .int y, .int z] (n := 5) (Nat.le_of_ble_eq_true rfl)
  rw [lg_entry_eq]
  generalize (lg_sl [.ref h0, .int x, .int y, .int z] ++ List.replicate (5 - (lg_sl [.ref h0, .int x, .int y, .int z]).length) Slot.unset).toArray = ls at hl ⊢
  have hl : lv_has ls 5 [(0, .ref h0), (1, .int x), (2, .int y), (3, .int z)] := hl
  have L_m1 : ((-1) : Int32).toInt = (-1) := by decide
  have L_0 : (0 : Int32).toInt = 0 := by decide
  have L_1 : (1 : Int32).toInt = 1 := by decide
  have L_4 : (4 : Int32).toInt = 4 := by decide
  have L_5 : (5 : Int32).toInt = 5 := by decide
  have L_60 : (60 : Int32).toInt = 60 := by decide
  refine lv_iload_n hx hb d_DiscMakerModel_nameGoesOn_0 rfl (lv_at hl 3 rfl) ?_
  refine lv_iconst (v := 5) hx hb d_DiscMakerModel_nameGoesOn_1 (by decide) ?_
  refine lv_icmp_lt (tgt := 30) hx hb d_DiscMakerModel_nameGoesOn_2 (by decide) (fun h_9 => ?_) (fun h_9 => ?_)
  · skip
    have g2_3 : z.toInt < 5 := (i_lt rfl (by decide)).mp h_9
    refine lv_iconst (v := 0) hx hb d_DiscMakerModel_nameGoesOn_30 (by decide) ?_
    have hP9 := hP.sub (ws' := [(h0, .inr (11, MO ma sv_thrown sv_length sv_nodes sv_many sv_directories sv_runsFrom sv_runs sv_read sv_wrong sv_isNamed sv_goes sv_goesSize sv_goesAt sv_targetParts sv_isRoot)), ((ma 16), .inl (cJ, 46080, .inr (.inl F))), ((ma 28), .inl (cB, 6000, .inl fN)), ((ma 29), .inl (cI, 100, .inl fNS))]) [0, 1, 2, 3] rfl
    have hD9 := hD.sub (ws' := [(h0, .inr (11, MO ma sv_thrown sv_length sv_nodes sv_many sv_directories sv_runsFrom sv_runs sv_read sv_wrong sv_isNamed sv_goes sv_goesSize sv_goesAt sv_targetParts sv_isRoot)), ((ma 16), .inl (cJ, 46080, .inr (.inl F))), ((ma 28), .inl (cB, 6000, .inl fN)), ((ma 29), .inl (cI, 100, .inl fNS))]) [0, 1, 2, 3] (by decide +kernel) rfl
    exact W.zret (v := 0) hx hb hr (by first | rfl | decide | exact i_narZ (by omega)) (fun t ht hW => ⟨⟨0, (sv_isNamed, fN, fNS), rfl, ⟨(by (try dsimp only); first | assumption | omega | trivial), (by (try dsimp only); first | assumption | omega | trivial)⟩, by rw [ht]; exact hP9, hD9⟩, hS.F ht⟩) hS.2.2 d_DiscMakerModel_nameGoesOn_31
  · skip
    have g2_3 : ¬ z.toInt < 5 := fun h8 => h_9 ((i_lt rfl (by decide)).mpr h8)
    refine lv_aload_n hx hb d_DiscMakerModel_nameGoesOn_5 rfl (lv_at hl 0 rfl) ?_
    refine lv_iload_n hx hb d_DiscMakerModel_nameGoesOn_6 rfl (lv_at hl 2 rfl) ?_
    refine lv_iconst (v := 4) hx hb d_DiscMakerModel_nameGoesOn_7 (by decide) ?_
    refine lv_iadd hx hb d_DiscMakerModel_nameGoesOn_8 ?_
    refine lv_topi (fun v1 e_v1 => ?_)
    have t_v1 : v1.toInt = y.toInt + 4 := by rw [e_v1]; exact i_add rfl (by decide) (by omega) (by omega)
    have hPc := hP.sub (ws' := [(h0, .inr (11, MO ma sv_thrown sv_length sv_nodes sv_many sv_directories sv_runsFrom sv_runs sv_read sv_wrong sv_isNamed sv_goes sv_goesSize sv_goesAt sv_targetParts sv_isRoot)), ((ma 16), .inl (cJ, 46080, .inr (.inl F)))]) [0, 1] rfl
    have hDc := hD.sub (ws' := [(h0, .inr (11, MO ma sv_thrown sv_length sv_nodes sv_many sv_directories sv_runsFrom sv_runs sv_read sv_wrong sv_isNamed sv_goes sv_goesSize sv_goesAt sv_targetParts sv_isRoot)), ((ma 16), .inl (cJ, 46080, .inr (.inl F)))]) [0, 1] (by decide +kernel) rfl
    have hFc := va_free (wc := [(h0, .inr (11, MO ma sv_thrown sv_length sv_nodes sv_many sv_directories sv_runsFrom sv_runs sv_read sv_wrong sv_isNamed sv_goes sv_goesSize sv_goesAt sv_targetParts sv_isRoot)), ((ma 16), .inl (cJ, 46080, .inr (.inl F)))]) hD hS hA [0, 1] rfl
    have hkc : 0 ≤ 0 := by decide
    have hks : 0 ≤ 0 := by decide
    refine va_calli (va_runV (C := "DiscMakerModel") (As := [.int v1]) (rest := []) ⟨hx, hb, hml, hown, hts⟩ (m_at l D cB cI cJ cZ cN cF s.heap.size h0 ma sv_thrown sv_length sv_nodes sv_many sv_directories sv_runsFrom sv_runs sv_read sv_wrong sv_isNamed sv_goes sv_goesSize sv_goesAt sv_targetParts sv_isRoot F v1 (by (try dsimp only); first | assumption | omega | trivial) (by (try dsimp only); first | assumption | omega | trivial)) (cwV 1 hts (lg_goodV k1809 k1811 k95 k125 kc_DiscMakerModel_at) rfl rfl rfl (by decide +kernel) ⟨Nat.le_of_ble_eq_true rfl, Nat.le_of_ble_eq_true rfl⟩) ⟨fun a U g mk q => by obtain ⟨q0, q1, qP, qK, qN, qD⟩ := q; exact ⟨q0, q1, qP, va_K.moved (u := U) (U := U.calling g mk a) (Vm.Alike.refl U.vm) qK, qN.calling, qD⟩, va_recv hK hP (ci := 11) (q0 := 0) rfl rfl, fun U hU hW => ⟨rfl, by rw [hU], by rw [hU]; exact hPc, va_K.moved hW.alike hK, NN.warm hW hN, hDc.weaken (fun _ _ _ _ => trivial)⟩⟩ rfl rfl hl.1 rfl (lv_room (Nat.le_of_ble_eq_true rfl)) d_DiscMakerModel_nameGoesOn_9 ⟨hkc, hks⟩) hS (fun q _ h => hFc q h) hFc (fun r2 u t H1 locs ht hvm hp_r2 hB hz1 hk1 hS => ?_)
    obtain ⟨hP1, hD1⟩ := hB
    rw [ht] at hP1
    obtain ⟨hP, hD⟩ := va_join (wr := [((ma 28), .inl (cB, 6000, .inl fN)), ((ma 29), .inl (cI, 100, .inl fNS))]) (w1 := [(h0, .inr (11, MO ma sv_thrown sv_length sv_nodes sv_many sv_directories sv_runsFrom sv_runs sv_read sv_wrong sv_isNamed sv_goes sv_goesSize sv_goesAt sv_targetParts sv_isRoot)), ((ma 16), .inl (cJ, 46080, .inr (.inl F)))]) hP hD [0, 1] [2, 3] rfl rfl (by decide +kernel) (by decide +kernel) hk1 hFc hP1 hD1
    clear hPc hDc hFc hP1 hD1 hk1 hz1 hkc hks
    generalize H1 = H at hP hS ⊢
    have hP : va_P D CL [((ma 28), .inl (cB, 6000, .inl fN)), ((ma 29), .inl (cI, 100, .inl fNS)), (h0, .inr (11, MO ma sv_thrown sv_length sv_nodes sv_many sv_directories sv_runsFrom sv_runs sv_read sv_wrong sv_isNamed sv_goes sv_goesSize sv_goesAt sv_targetParts sv_isRoot)), ((ma 16), .inl (cJ, 46080, .inr (.inl F)))] H := hP
    have hD : va_D A [((ma 28), .inl (cB, 6000, .inl fN)), ((ma 29), .inl (cI, 100, .inl fNS)), (h0, .inr (11, MO ma sv_thrown sv_length sv_nodes sv_many sv_directories sv_runsFrom sv_runs sv_read sv_wrong sv_isNamed sv_goes sv_goesSize sv_goesAt sv_targetParts sv_isRoot)), ((ma 16), .inl (cJ, 46080, .inr (.inl F)))] := hD
    try dsimp only at hp_r2
    obtain ⟨hr_3, hv_4, hw_5⟩ := hp_r2
    refine lv_if_ne (tgt := 30) hx hb d_DiscMakerModel_nameGoesOn_12 (by decide) (fun h_9 => ?_) (fun h_9 => ?_)
    · skip
      have g12_11 : ¬ r2.toInt = 0 := fun h8 => h_9 ((i_eq rfl (by decide)).mpr h8)
      refine lv_iconst (v := 0) hx hb d_DiscMakerModel_nameGoesOn_30 (by decide) ?_
      have hP9 := hP.sub (ws' := [(h0, .inr (11, MO ma sv_thrown sv_length sv_nodes sv_many sv_directories sv_runsFrom sv_runs sv_read sv_wrong sv_isNamed sv_goes sv_goesSize sv_goesAt sv_targetParts sv_isRoot)), ((ma 16), .inl (cJ, 46080, .inr (.inl F))), ((ma 28), .inl (cB, 6000, .inl fN)), ((ma 29), .inl (cI, 100, .inl fNS))]) [2, 3, 0, 1] rfl
      have hD9 := hD.sub (ws' := [(h0, .inr (11, MO ma sv_thrown sv_length sv_nodes sv_many sv_directories sv_runsFrom sv_runs sv_read sv_wrong sv_isNamed sv_goes sv_goesSize sv_goesAt sv_targetParts sv_isRoot)), ((ma 16), .inl (cJ, 46080, .inr (.inl F))), ((ma 28), .inl (cB, 6000, .inl fN)), ((ma 29), .inl (cI, 100, .inl fNS))]) [2, 3, 0, 1] (by decide +kernel) rfl
      exact W.zret (v := 0) hx hb hr (by first | rfl | decide | exact i_narZ (by omega)) (fun t ht hW => ⟨⟨0, (sv_isNamed, fN, fNS), rfl, ⟨(by (try dsimp only); first | assumption | omega | trivial), (by (try dsimp only); first | assumption | omega | trivial)⟩, by rw [ht]; exact hP9, hD9⟩, hS.F ht⟩) hS.2.2 d_DiscMakerModel_nameGoesOn_31
    · skip
      have g12_11 : r2.toInt = 0 := (i_eq rfl (by decide)).mp h_9
      refine lv_aload_n hx hb d_DiscMakerModel_nameGoesOn_15 rfl (lv_at hl 0 rfl) ?_
      refine va_get (D := D) (ci := 11) (v := .ref (ma 29)) (C := "DiscMakerModel") (T := F_DiscMakerModel) (N := 48) hx hb ht9 in_DiscMakerModel hown hK hP 2 rfl rfl 37 (by decide) (ht9 _ k1468) (fun _ h9 => h9) rfl d_DiscMakerModel_nameGoesOn_16 ?_
      refine lv_iload_n hx hb d_DiscMakerModel_nameGoesOn_19 rfl (lv_at hl 1 rfl) ?_
      refine va_iald hx hb hK hP 1 1 rfl rfl (vp_in_iff.mpr ⟨by omega, by omega⟩) d_DiscMakerModel_nameGoesOn_20 ?_
      refine lv_topi (fun v6 e_v6 => ?_)
      have t_v6 : 0 ≤ v6.toInt ∧ v6.toInt ≤ 60 := by
        rw [e_v6]; exact hfNS _ (by have := i_cl (a := x) (by omega); omega)
      refine lv_iload_n hx hb d_DiscMakerModel_nameGoesOn_21 rfl (lv_at hl 3 rfl) ?_
      refine lv_iadd hx hb d_DiscMakerModel_nameGoesOn_22 ?_
      refine lv_topi (fun v7 e_v7 => ?_)
      have t_v7 : v7.toInt = v6.toInt + z.toInt := by rw [e_v7]; exact i_add rfl rfl (by omega) (by omega)
      refine lv_iconst (v := 5) hx hb d_DiscMakerModel_nameGoesOn_23 (by decide) ?_
      refine lv_isub hx hb d_DiscMakerModel_nameGoesOn_24 ?_
      refine lv_topi (fun v8 e_v8 => ?_)
      have t_v8 : v8.toInt = v7.toInt - 5 := by rw [e_v8]; exact i_sub rfl (by decide) (by omega) (by omega)
      refine lv_bipush (v := 60) hx hb d_DiscMakerModel_nameGoesOn_25 (by decide) ?_
      refine lv_icmp_le (tgt := 32) hx hb d_DiscMakerModel_nameGoesOn_27 (by decide) (fun h_9 => ?_) (fun h_9 => ?_)
      · skip
        have g27_23 : v8.toInt ≤ 60 := (i_le rfl (by decide)).mp h_9
        refine lv_aload_n hx hb d_DiscMakerModel_nameGoesOn_32 rfl (lv_at hl 0 rfl) ?_
        refine lv_iconst (v := 1) hx hb d_DiscMakerModel_nameGoesOn_33 (by decide) ?_
        refine va_put (D := D) (ci := 11) (v := .int 1) (ty := .boolean) (C := "DiscMakerModel") (T := F_DiscMakerModel) (N := 48) hx hb ht9 in_DiscMakerModel t_DiscMakerModel t_DiscMakerModel_ok n_DiscMakerModel hown hK hP hD hS 2 rfl rfl 42 (by decide) (ht9 _ k1473) (fun _ h9 => h9) rfl (by decide +kernel) rfl rfl (Nat.le_of_ble_eq_true rfl) d_DiscMakerModel_nameGoesOn_34 (fun H locs hP hD hS => ?_)
        have hP : va_P D CL [((ma 28), .inl (cB, 6000, .inl fN)), ((ma 29), .inl (cI, 100, .inl fNS)), (h0, .inr (11, MO ma sv_thrown sv_length sv_nodes sv_many sv_directories sv_runsFrom sv_runs sv_read sv_wrong 1 sv_goes sv_goesSize sv_goesAt sv_targetParts sv_isRoot)), ((ma 16), .inl (cJ, 46080, .inr (.inl F)))] H := hP
        have hD : va_D A [((ma 28), .inl (cB, 6000, .inl fN)), ((ma 29), .inl (cI, 100, .inl fNS)), (h0, .inr (11, MO ma sv_thrown sv_length sv_nodes sv_many sv_directories sv_runsFrom sv_runs sv_read sv_wrong 1 sv_goes sv_goesSize sv_goesAt sv_targetParts sv_isRoot)), ((ma 16), .inl (cJ, 46080, .inr (.inl F)))] := hD
        refine lv_iconst (v := 0) hx hb d_DiscMakerModel_nameGoesOn_37 (by decide) ?_
        refine lv_istore hx hb d_DiscMakerModel_nameGoesOn_38 hl (by decide) rfl (fun ls hl => ?_)
        have hl : lv_has ls 5 [(4, .int 0), (0, .ref h0), (1, .int x), (2, .int y), (3, .int z)] := hl
        refine zz_labM (B := fun (lk : Nat) (K : Heap → List Loc → Array Slot → List Value → Prop) => ∀ (kx : Int32) (lN : Nat → Int32) (H : Heap) (locs : List Loc) (ls : Array Slot), lk = (z.toInt - kx.toInt).toNat → (0 ≤ kx.toInt ∧ kx.toInt ≤ z.toInt) → va_P D CL [((ma 28), .inl (cB, 6000, .inl lN)), ((ma 29), .inl (cI, 100, .inl fNS)), (h0, .inr (11, MO ma sv_thrown sv_length sv_nodes sv_many sv_directories sv_runsFrom sv_runs sv_read sv_wrong 1 sv_goes sv_goesSize sv_goesAt sv_targetParts sv_isRoot)), ((ma 16), .inl (cJ, 46080, .inr (.inl F)))] H → va_D A [((ma 28), .inl (cB, 6000, .inl lN)), ((ma 29), .inl (cI, 100, .inl fNS)), (h0, .inr (11, MO ma sv_thrown sv_length sv_nodes sv_many sv_directories sv_runsFrom sv_runs sv_read sv_wrong 1 sv_goes sv_goesSize sv_goesAt sv_targetParts sv_isRoot)), ((ma 16), .inl (cJ, 46080, .inr (.inl F)))] → va_S A s.heap H locs → lv_has ls 5 [(0, .ref h0), (1, .int x), (2, .int y), (3, .int z), (4, .int kx)] → K H locs ls []) 40 ?_ ?_
        · skip
          intro lk ih40 kx lN H locs ls hm40 f1 hP hD hS hl
          refine lv_iload hx hb d_DiscMakerModel_nameGoesOn_40 (lv_at hl 4 rfl) ?_
          refine lv_iload_n hx hb d_DiscMakerModel_nameGoesOn_42 rfl (lv_at hl 3 rfl) ?_
          refine lv_iconst (v := 5) hx hb d_DiscMakerModel_nameGoesOn_43 (by decide) ?_
          refine lv_isub hx hb d_DiscMakerModel_nameGoesOn_44 ?_
          refine lv_topi (fun v9 e_v9 => ?_)
          have t_v9 : v9.toInt = z.toInt - 5 := by rw [e_v9]; exact i_sub rfl (by decide) (by omega) (by omega)
          refine lv_icmp_ge (tgt := 84) hx hb d_DiscMakerModel_nameGoesOn_45 (by decide) (fun h_9 => ?_) (fun h_9 => ?_)
          · skip
            have g45_33 : v9.toInt ≤ kx.toInt := (i_le rfl rfl).mp h_9
            refine lv_aload_n hx hb d_DiscMakerModel_nameGoesOn_84 rfl (lv_at hl 0 rfl) ?_
            refine va_get (D := D) (ci := 11) (v := .ref (ma 29)) (C := "DiscMakerModel") (T := F_DiscMakerModel) (N := 48) hx hb ht9 in_DiscMakerModel hown hK hP 2 rfl rfl 37 (by decide) (ht9 _ k1468) (fun _ h9 => h9) rfl d_DiscMakerModel_nameGoesOn_85 ?_
            refine lv_iload_n hx hb d_DiscMakerModel_nameGoesOn_88 rfl (lv_at hl 1 rfl) ?_
            refine lv_dup2_11 hx hb d_DiscMakerModel_nameGoesOn_89 rfl rfl ?_
            refine va_iald hx hb hK hP 1 1 rfl rfl (vp_in_iff.mpr ⟨by omega, by omega⟩) d_DiscMakerModel_nameGoesOn_90 ?_
            refine lv_topi (fun v10 e_v10 => ?_)
            have t_v10 : 0 ≤ v10.toInt ∧ v10.toInt ≤ 60 := by
              rw [e_v10]; exact hfNS _ (by have := i_cl (a := x) (by omega); omega)
            have q_v10 : v10.toInt = v6.toInt := by rw [e_v10, e_v6]
            refine lv_iload_n hx hb d_DiscMakerModel_nameGoesOn_91 rfl (lv_at hl 3 rfl) ?_
            refine lv_iconst (v := 5) hx hb d_DiscMakerModel_nameGoesOn_92 (by decide) ?_
            refine lv_isub hx hb d_DiscMakerModel_nameGoesOn_93 ?_
            refine lv_topi (fun v11 e_v11 => ?_)
            have t_v11 : v11.toInt = z.toInt - 5 := by rw [e_v11]; exact i_sub rfl (by decide) (by omega) (by omega)
            refine lv_iadd hx hb d_DiscMakerModel_nameGoesOn_94 ?_
            refine lv_topi (fun v12 e_v12 => ?_)
            have t_v12 : v12.toInt = v10.toInt + v11.toInt := by rw [e_v12]; exact i_add rfl rfl (by omega) (by omega)
            refine zq_iast hx hb hK hP hD hS 1 1 rfl rfl (vp_in_iff.mpr ⟨by omega, by omega⟩) d_DiscMakerModel_nameGoesOn_95 (fun f13 e_f13 H locs hP hD hS => ?_)
            have hP : va_P D CL [((ma 28), .inl (cB, 6000, .inl lN)), ((ma 29), .inl (cI, 100, .inl f13)), (h0, .inr (11, MO ma sv_thrown sv_length sv_nodes sv_many sv_directories sv_runsFrom sv_runs sv_read sv_wrong 1 sv_goes sv_goesSize sv_goesAt sv_targetParts sv_isRoot)), ((ma 16), .inl (cJ, 46080, .inr (.inl F)))] H := hP
            have hD : va_D A [((ma 28), .inl (cB, 6000, .inl lN)), ((ma 29), .inl (cI, 100, .inl f13)), (h0, .inr (11, MO ma sv_thrown sv_length sv_nodes sv_many sv_directories sv_runsFrom sv_runs sv_read sv_wrong 1 sv_goes sv_goesSize sv_goesAt sv_targetParts sv_isRoot)), ((ma 16), .inl (cJ, 46080, .inr (.inl F)))] := hD
            have R_f13 : Rg 0 60 100 f13 := Rg_upd e_f13 hfNS (by omega) (by omega)
            have s_f13 : f13 x.toNatClampNeg = v12 := by rw [e_f13]; unfold upd; rw [if_pos (by first | rfl | decide)]
            refine lv_iconst (v := 1) hx hb d_DiscMakerModel_nameGoesOn_96 (by decide) ?_
            have hP9 := hP.sub (ws' := [(h0, .inr (11, MO ma sv_thrown sv_length sv_nodes sv_many sv_directories sv_runsFrom sv_runs sv_read sv_wrong 1 sv_goes sv_goesSize sv_goesAt sv_targetParts sv_isRoot)), ((ma 16), .inl (cJ, 46080, .inr (.inl F))), ((ma 28), .inl (cB, 6000, .inl lN)), ((ma 29), .inl (cI, 100, .inl f13))]) [2, 3, 0, 1] rfl
            have hD9 := hD.sub (ws' := [(h0, .inr (11, MO ma sv_thrown sv_length sv_nodes sv_many sv_directories sv_runsFrom sv_runs sv_read sv_wrong 1 sv_goes sv_goesSize sv_goesAt sv_targetParts sv_isRoot)), ((ma 16), .inl (cJ, 46080, .inr (.inl F))), ((ma 28), .inl (cB, 6000, .inl lN)), ((ma 29), .inl (cI, 100, .inl f13))]) [2, 3, 0, 1] (by decide +kernel) rfl
            exact W.zret (v := 1) hx hb hr (by first | rfl | decide | exact i_narZ (by omega)) (fun t ht hW => ⟨⟨1, (1, lN, f13), rfl, ⟨(by (try dsimp only); first | assumption | omega | trivial), (by (try dsimp only); first | assumption | omega | trivial)⟩, by rw [ht]; exact hP9, hD9⟩, hS.F ht⟩) hS.2.2 d_DiscMakerModel_nameGoesOn_97
          · skip
            have g45_33 : ¬ v9.toInt ≤ kx.toInt := fun h8 => h_9 ((i_le rfl rfl).mpr h8)
            refine lv_aload_n hx hb d_DiscMakerModel_nameGoesOn_48 rfl (lv_at hl 0 rfl) ?_
            refine va_get (D := D) (ci := 11) (v := .ref (ma 28)) (C := "DiscMakerModel") (T := F_DiscMakerModel) (N := 48) hx hb ht9 in_DiscMakerModel hown hK hP 2 rfl rfl 36 (by decide) (ht9 _ k1467) (fun _ h9 => h9) rfl d_DiscMakerModel_nameGoesOn_49 ?_
            refine lv_bipush (v := 60) hx hb d_DiscMakerModel_nameGoesOn_52 (by decide) ?_
            refine lv_iload_n hx hb d_DiscMakerModel_nameGoesOn_54 rfl (lv_at hl 1 rfl) ?_
            refine lv_imul hx hb d_DiscMakerModel_nameGoesOn_55 ?_
            refine lv_topi (fun v14 e_v14 => ?_)
            have t_v14 : v14.toInt = 60 * x.toInt := by rw [e_v14]; exact i_mul (by decide) rfl (by omega) (by omega)
            refine lv_aload_n hx hb d_DiscMakerModel_nameGoesOn_56 rfl (lv_at hl 0 rfl) ?_
            refine va_get (D := D) (ci := 11) (v := .ref (ma 29)) (C := "DiscMakerModel") (T := F_DiscMakerModel) (N := 48) hx hb ht9 in_DiscMakerModel hown hK hP 2 rfl rfl 37 (by decide) (ht9 _ k1468) (fun _ h9 => h9) rfl d_DiscMakerModel_nameGoesOn_57 ?_
            refine lv_iload_n hx hb d_DiscMakerModel_nameGoesOn_60 rfl (lv_at hl 1 rfl) ?_
            refine va_iald hx hb hK hP 1 1 rfl rfl (vp_in_iff.mpr ⟨by omega, by omega⟩) d_DiscMakerModel_nameGoesOn_61 ?_
            refine lv_topi (fun v15 e_v15 => ?_)
            have t_v15 : 0 ≤ v15.toInt ∧ v15.toInt ≤ 60 := by
              rw [e_v15]; exact hfNS _ (by have := i_cl (a := x) (by omega); omega)
            have q_v15 : v15.toInt = v6.toInt := by rw [e_v15, e_v6]
            refine lv_iadd hx hb d_DiscMakerModel_nameGoesOn_62 ?_
            refine lv_topi (fun v16 e_v16 => ?_)
            have t_v16 : v16.toInt = v14.toInt + v15.toInt := by rw [e_v16]; exact i_add rfl rfl (by omega) (by omega)
            refine lv_iload hx hb d_DiscMakerModel_nameGoesOn_63 (lv_at hl 4 rfl) ?_
            refine lv_iadd hx hb d_DiscMakerModel_nameGoesOn_65 ?_
            refine lv_topi (fun v17 e_v17 => ?_)
            have t_v17 : v17.toInt = v16.toInt + kx.toInt := by rw [e_v17]; exact i_add rfl rfl (by omega) (by omega)
            refine lv_aload_n hx hb d_DiscMakerModel_nameGoesOn_66 rfl (lv_at hl 0 rfl) ?_
            refine lv_iload_n hx hb d_DiscMakerModel_nameGoesOn_67 rfl (lv_at hl 2 rfl) ?_
            refine lv_iconst (v := 5) hx hb d_DiscMakerModel_nameGoesOn_68 (by decide) ?_
            refine lv_iadd hx hb d_DiscMakerModel_nameGoesOn_69 ?_
            refine lv_topi (fun v18 e_v18 => ?_)
            have t_v18 : v18.toInt = y.toInt + 5 := by rw [e_v18]; exact i_add rfl (by decide) (by omega) (by omega)
            refine lv_iload hx hb d_DiscMakerModel_nameGoesOn_70 (lv_at hl 4 rfl) ?_
            refine lv_iadd hx hb d_DiscMakerModel_nameGoesOn_72 ?_
            refine lv_topi (fun v19 e_v19 => ?_)
            have t_v19 : v19.toInt = v18.toInt + kx.toInt := by rw [e_v19]; exact i_add rfl rfl (by omega) (by omega)
            have hPc := hP.sub (ws' := [(h0, .inr (11, MO ma sv_thrown sv_length sv_nodes sv_many sv_directories sv_runsFrom sv_runs sv_read sv_wrong 1 sv_goes sv_goesSize sv_goesAt sv_targetParts sv_isRoot)), ((ma 16), .inl (cJ, 46080, .inr (.inl F)))]) [2, 3] rfl
            have hDc := hD.sub (ws' := [(h0, .inr (11, MO ma sv_thrown sv_length sv_nodes sv_many sv_directories sv_runsFrom sv_runs sv_read sv_wrong 1 sv_goes sv_goesSize sv_goesAt sv_targetParts sv_isRoot)), ((ma 16), .inl (cJ, 46080, .inr (.inl F)))]) [2, 3] (by decide +kernel) rfl
            have hFc := va_free (wc := [(h0, .inr (11, MO ma sv_thrown sv_length sv_nodes sv_many sv_directories sv_runsFrom sv_runs sv_read sv_wrong 1 sv_goes sv_goesSize sv_goesAt sv_targetParts sv_isRoot)), ((ma 16), .inl (cJ, 46080, .inr (.inl F)))]) hD hS hA [2, 3] rfl
            have hkc : 0 ≤ 0 := by decide
            have hks : 0 ≤ 0 := by decide
            refine va_calli (va_runV (C := "DiscMakerModel") (As := [.int v19]) (rest := [.int v17, .ref (ma 28)]) ⟨hx, hb, hml, hown, hts⟩ (m_at l D cB cI cJ cZ cN cF H.size h0 ma sv_thrown sv_length sv_nodes sv_many sv_directories sv_runsFrom sv_runs sv_read sv_wrong 1 sv_goes sv_goesSize sv_goesAt sv_targetParts sv_isRoot F v19 (by (try dsimp only); first | assumption | omega | trivial) (by (try dsimp only); first | assumption | omega | trivial)) (cwV 1 hts (lg_goodV k1809 k1811 k95 k125 kc_DiscMakerModel_at) rfl rfl rfl (by decide +kernel) ⟨Nat.le_of_ble_eq_true rfl, Nat.le_of_ble_eq_true rfl⟩) ⟨fun a U g mk q => by obtain ⟨q0, q1, qP, qK, qN, qD⟩ := q; exact ⟨q0, q1, qP, va_K.moved (u := U) (U := U.calling g mk a) (Vm.Alike.refl U.vm) qK, qN.calling, qD⟩, va_recv hK hP (ci := 11) (q0 := 2) rfl rfl, fun U hU hW => ⟨rfl, by rw [hU], by rw [hU]; exact hPc, va_K.moved hW.alike hK, NN.warm hW hN, hDc.weaken (fun _ _ _ _ => trivial)⟩⟩ rfl rfl hl.1 rfl (lv_room (Nat.le_of_ble_eq_true rfl)) d_DiscMakerModel_nameGoesOn_73 ⟨hkc, hks⟩) hS (fun q _ h => hFc q h) hFc (fun r20 u t H1 locs ht hvm hp_r20 hB hz1 hk1 hS => ?_)
            obtain ⟨hP1, hD1⟩ := hB
            rw [ht] at hP1
            obtain ⟨hP, hD⟩ := va_join (wr := [((ma 28), .inl (cB, 6000, .inl lN)), ((ma 29), .inl (cI, 100, .inl fNS))]) (w1 := [(h0, .inr (11, MO ma sv_thrown sv_length sv_nodes sv_many sv_directories sv_runsFrom sv_runs sv_read sv_wrong 1 sv_goes sv_goesSize sv_goesAt sv_targetParts sv_isRoot)), ((ma 16), .inl (cJ, 46080, .inr (.inl F)))]) hP hD [2, 3] [0, 1] rfl rfl (by decide +kernel) (by decide +kernel) hk1 hFc hP1 hD1
            clear hPc hDc hFc hP1 hD1 hk1 hz1 hkc hks
            generalize H1 = H at hP hS ⊢
            have hP : va_P D CL [((ma 28), .inl (cB, 6000, .inl lN)), ((ma 29), .inl (cI, 100, .inl fNS)), (h0, .inr (11, MO ma sv_thrown sv_length sv_nodes sv_many sv_directories sv_runsFrom sv_runs sv_read sv_wrong 1 sv_goes sv_goesSize sv_goesAt sv_targetParts sv_isRoot)), ((ma 16), .inl (cJ, 46080, .inr (.inl F)))] H := hP
            have hD : va_D A [((ma 28), .inl (cB, 6000, .inl lN)), ((ma 29), .inl (cI, 100, .inl fNS)), (h0, .inr (11, MO ma sv_thrown sv_length sv_nodes sv_many sv_directories sv_runsFrom sv_runs sv_read sv_wrong 1 sv_goes sv_goesSize sv_goesAt sv_targetParts sv_isRoot)), ((ma 16), .inl (cJ, 46080, .inr (.inl F)))] := hD
            try dsimp only at hp_r20
            obtain ⟨hr_21, hv_22, hw_23⟩ := hp_r20
            refine lv_i2b hx hb d_DiscMakerModel_nameGoesOn_76 rfl ?_
            refine lv_topi (fun v24 e_v24 => ?_)
            have t_v24 : (-128) ≤ v24.toInt ∧ v24.toInt ≤ 127 := by rw [e_v24]; exact i_b _
            refine zq_bast hx hb hK hP hD hS 0 0 rfl rfl (vp_in_iff.mpr ⟨by omega, by omega⟩) d_DiscMakerModel_nameGoesOn_77 (fun f25 e_f25 H locs hP hD hS => ?_)
            have hP : va_P D CL [((ma 28), .inl (cB, 6000, .inl f25)), ((ma 29), .inl (cI, 100, .inl fNS)), (h0, .inr (11, MO ma sv_thrown sv_length sv_nodes sv_many sv_directories sv_runsFrom sv_runs sv_read sv_wrong 1 sv_goes sv_goesSize sv_goesAt sv_targetParts sv_isRoot)), ((ma 16), .inl (cJ, 46080, .inr (.inl F)))] H := hP
            have hD : va_D A [((ma 28), .inl (cB, 6000, .inl f25)), ((ma 29), .inl (cI, 100, .inl fNS)), (h0, .inr (11, MO ma sv_thrown sv_length sv_nodes sv_many sv_directories sv_runsFrom sv_runs sv_read sv_wrong 1 sv_goes sv_goesSize sv_goesAt sv_targetParts sv_isRoot)), ((ma 16), .inl (cJ, 46080, .inr (.inl F)))] := hD
            obtain ⟨v26, e_v26⟩ : ∃ z : Int32, z = kx + 1 := ⟨_, rfl⟩
            refine lv_iinc (v := v26) hx hb d_DiscMakerModel_nameGoesOn_78 hl (k := 4) rfl e_v26.symm (by decide +kernel) rfl (fun ls hl => ?_)
            have t_v26 : v26.toInt = kx.toInt + 1 := by rw [e_v26]; exact i_add rfl (by decide) (by omega) (by omega)
            have hl : lv_has ls 5 [(4, .int v26), (0, .ref h0), (1, .int x), (2, .int y), (3, .int z)] := hl
            refine lv_goto (tgt := 40) hx hb d_DiscMakerModel_nameGoesOn_81 (by decide) ?_
            have hP := hP.sub (ws' := [((ma 28), .inl (cB, 6000, .inl f25)), ((ma 29), .inl (cI, 100, .inl fNS)), (h0, .inr (11, MO ma sv_thrown sv_length sv_nodes sv_many sv_directories sv_runsFrom sv_runs sv_read sv_wrong 1 sv_goes sv_goesSize sv_goesAt sv_targetParts sv_isRoot)), ((ma 16), .inl (cJ, 46080, .inr (.inl F)))]) [0, 1, 2, 3] rfl
            have hD := hD.sub (ws' := [((ma 28), .inl (cB, 6000, .inl f25)), ((ma 29), .inl (cI, 100, .inl fNS)), (h0, .inr (11, MO ma sv_thrown sv_length sv_nodes sv_many sv_directories sv_runsFrom sv_runs sv_read sv_wrong 1 sv_goes sv_goesSize sv_goesAt sv_targetParts sv_isRoot)), ((ma 16), .inl (cJ, 46080, .inr (.inl F)))]) [0, 1, 2, 3] (by decide +kernel) rfl
            have hl := lv_sub hl [1, 2, 3, 4, 0] rfl
            exact ih40 _ (by first | omega | (dsimp only; omega)) v26 f25 _ _ _ rfl ((by (try dsimp only); first | assumption | omega | trivial)) hP hD hS hl
        · skip
          intro kk40
          have hP := hP.sub (ws' := [((ma 28), .inl (cB, 6000, .inl fN)), ((ma 29), .inl (cI, 100, .inl fNS)), (h0, .inr (11, MO ma sv_thrown sv_length sv_nodes sv_many sv_directories sv_runsFrom sv_runs sv_read sv_wrong 1 sv_goes sv_goesSize sv_goesAt sv_targetParts sv_isRoot)), ((ma 16), .inl (cJ, 46080, .inr (.inl F)))]) [0, 1, 2, 3] rfl
          have hD := hD.sub (ws' := [((ma 28), .inl (cB, 6000, .inl fN)), ((ma 29), .inl (cI, 100, .inl fNS)), (h0, .inr (11, MO ma sv_thrown sv_length sv_nodes sv_many sv_directories sv_runsFrom sv_runs sv_read sv_wrong 1 sv_goes sv_goesSize sv_goesAt sv_targetParts sv_isRoot)), ((ma 16), .inl (cJ, 46080, .inr (.inl F)))]) [0, 1, 2, 3] (by decide +kernel) rfl
          have hl := lv_sub hl [1, 2, 3, 4, 0] rfl
          exact kk40 _ 0 fN _ _ _ rfl ((by (try dsimp only); first | assumption | omega | trivial)) hP hD hS hl
      · skip
        have g27_23 : ¬ v8.toInt ≤ 60 := fun h8 => h_9 ((i_le rfl (by decide)).mpr h8)
        refine lv_iconst (v := 0) hx hb d_DiscMakerModel_nameGoesOn_30 (by decide) ?_
        have hP9 := hP.sub (ws' := [(h0, .inr (11, MO ma sv_thrown sv_length sv_nodes sv_many sv_directories sv_runsFrom sv_runs sv_read sv_wrong sv_isNamed sv_goes sv_goesSize sv_goesAt sv_targetParts sv_isRoot)), ((ma 16), .inl (cJ, 46080, .inr (.inl F))), ((ma 28), .inl (cB, 6000, .inl fN)), ((ma 29), .inl (cI, 100, .inl fNS))]) [2, 3, 0, 1] rfl
        have hD9 := hD.sub (ws' := [(h0, .inr (11, MO ma sv_thrown sv_length sv_nodes sv_many sv_directories sv_runsFrom sv_runs sv_read sv_wrong sv_isNamed sv_goes sv_goesSize sv_goesAt sv_targetParts sv_isRoot)), ((ma 16), .inl (cJ, 46080, .inr (.inl F))), ((ma 28), .inl (cB, 6000, .inl fN)), ((ma 29), .inl (cI, 100, .inl fNS))]) [2, 3, 0, 1] (by decide +kernel) rfl
        exact W.zret (v := 0) hx hb hr (by first | rfl | decide | exact i_narZ (by omega)) (fun t ht hW => ⟨⟨0, (sv_isNamed, fN, fNS), rfl, ⟨(by (try dsimp only); first | assumption | omega | trivial), (by (try dsimp only); first | assumption | omega | trivial)⟩, by rw [ht]; exact hP9, hD9⟩, hS.F ht⟩) hS.2.2 d_DiscMakerModel_nameGoesOn_31

theorem d_DiscMakerModel_targetGoesOn_0 : decode b_DiscMakerModel_targetGoesOn 0 = .ok (.iload_n 3, 1) := by decide +kernel
theorem d_DiscMakerModel_targetGoesOn_1 : decode b_DiscMakerModel_targetGoesOn 1 = .ok (.iconst 5, 1) := by decide +kernel
theorem d_DiscMakerModel_targetGoesOn_2 : decode b_DiscMakerModel_targetGoesOn 2 = .ok (.if_icmp .lt 13, 3) := by decide +kernel
theorem d_DiscMakerModel_targetGoesOn_5 : decode b_DiscMakerModel_targetGoesOn 5 = .ok (.aload_n 0, 1) := by decide +kernel
theorem d_DiscMakerModel_targetGoesOn_6 : decode b_DiscMakerModel_targetGoesOn 6 = .ok (.iload_n 2, 1) := by decide +kernel
theorem d_DiscMakerModel_targetGoesOn_7 : decode b_DiscMakerModel_targetGoesOn 7 = .ok (.iconst 4, 1) := by decide +kernel
theorem d_DiscMakerModel_targetGoesOn_8 : decode b_DiscMakerModel_targetGoesOn 8 = .ok (.iadd, 1) := by decide +kernel
theorem d_DiscMakerModel_targetGoesOn_9 : decode b_DiscMakerModel_targetGoesOn 9 = .ok (.invokevirtual 303, 3) := by decide +kernel
theorem d_DiscMakerModel_targetGoesOn_12 : decode b_DiscMakerModel_targetGoesOn 12 = .ok (.ifCond .eq 5, 3) := by decide +kernel
theorem d_DiscMakerModel_targetGoesOn_15 : decode b_DiscMakerModel_targetGoesOn 15 = .ok (.iconst 0, 1) := by decide +kernel
theorem d_DiscMakerModel_targetGoesOn_16 : decode b_DiscMakerModel_targetGoesOn 16 = .ok (.ireturn, 1) := by decide +kernel
theorem d_DiscMakerModel_targetGoesOn_17 : decode b_DiscMakerModel_targetGoesOn 17 = .ok (.iload_n 2, 1) := by decide +kernel
theorem d_DiscMakerModel_targetGoesOn_18 : decode b_DiscMakerModel_targetGoesOn 18 = .ok (.iconst 5, 1) := by decide +kernel
theorem d_DiscMakerModel_targetGoesOn_19 : decode b_DiscMakerModel_targetGoesOn 19 = .ok (.iadd, 1) := by decide +kernel
theorem d_DiscMakerModel_targetGoesOn_20 : decode b_DiscMakerModel_targetGoesOn 20 = .ok (.istore 4, 2) := by decide +kernel
theorem d_DiscMakerModel_targetGoesOn_22 : decode b_DiscMakerModel_targetGoesOn 22 = .ok (.iload 4, 2) := by decide +kernel
theorem d_DiscMakerModel_targetGoesOn_24 : decode b_DiscMakerModel_targetGoesOn 24 = .ok (.iload_n 2, 1) := by decide +kernel
theorem d_DiscMakerModel_targetGoesOn_25 : decode b_DiscMakerModel_targetGoesOn 25 = .ok (.iload_n 3, 1) := by decide +kernel
theorem d_DiscMakerModel_targetGoesOn_26 : decode b_DiscMakerModel_targetGoesOn 26 = .ok (.iadd, 1) := by decide +kernel
theorem d_DiscMakerModel_targetGoesOn_27 : decode b_DiscMakerModel_targetGoesOn 27 = .ok (.if_icmp .ge 259, 3) := by decide +kernel
theorem d_DiscMakerModel_targetGoesOn_30 : decode b_DiscMakerModel_targetGoesOn 30 = .ok (.iload 4, 2) := by decide +kernel
theorem d_DiscMakerModel_targetGoesOn_32 : decode b_DiscMakerModel_targetGoesOn 32 = .ok (.iconst 2, 1) := by decide +kernel
theorem d_DiscMakerModel_targetGoesOn_33 : decode b_DiscMakerModel_targetGoesOn 33 = .ok (.iadd, 1) := by decide +kernel
theorem d_DiscMakerModel_targetGoesOn_34 : decode b_DiscMakerModel_targetGoesOn 34 = .ok (.iload_n 2, 1) := by decide +kernel
theorem d_DiscMakerModel_targetGoesOn_35 : decode b_DiscMakerModel_targetGoesOn 35 = .ok (.iload_n 3, 1) := by decide +kernel
theorem d_DiscMakerModel_targetGoesOn_36 : decode b_DiscMakerModel_targetGoesOn 36 = .ok (.iadd, 1) := by decide +kernel
theorem d_DiscMakerModel_targetGoesOn_37 : decode b_DiscMakerModel_targetGoesOn 37 = .ok (.if_icmp .le 5, 3) := by decide +kernel
theorem d_DiscMakerModel_targetGoesOn_40 : decode b_DiscMakerModel_targetGoesOn 40 = .ok (.iconst 0, 1) := by decide +kernel
theorem d_DiscMakerModel_targetGoesOn_41 : decode b_DiscMakerModel_targetGoesOn 41 = .ok (.ireturn, 1) := by decide +kernel
theorem d_DiscMakerModel_targetGoesOn_42 : decode b_DiscMakerModel_targetGoesOn 42 = .ok (.aload_n 0, 1) := by decide +kernel
theorem d_DiscMakerModel_targetGoesOn_43 : decode b_DiscMakerModel_targetGoesOn 43 = .ok (.iload 4, 2) := by decide +kernel
theorem d_DiscMakerModel_targetGoesOn_45 : decode b_DiscMakerModel_targetGoesOn 45 = .ok (.invokevirtual 303, 3) := by decide +kernel
theorem d_DiscMakerModel_targetGoesOn_48 : decode b_DiscMakerModel_targetGoesOn 48 = .ok (.istore 5, 2) := by decide +kernel
theorem d_DiscMakerModel_targetGoesOn_50 : decode b_DiscMakerModel_targetGoesOn 50 = .ok (.aload_n 0, 1) := by decide +kernel
theorem d_DiscMakerModel_targetGoesOn_51 : decode b_DiscMakerModel_targetGoesOn 51 = .ok (.iload 4, 2) := by decide +kernel
theorem d_DiscMakerModel_targetGoesOn_53 : decode b_DiscMakerModel_targetGoesOn 53 = .ok (.iconst 1, 1) := by decide +kernel
theorem d_DiscMakerModel_targetGoesOn_54 : decode b_DiscMakerModel_targetGoesOn 54 = .ok (.iadd, 1) := by decide +kernel
theorem d_DiscMakerModel_targetGoesOn_55 : decode b_DiscMakerModel_targetGoesOn 55 = .ok (.invokevirtual 303, 3) := by decide +kernel
theorem d_DiscMakerModel_targetGoesOn_58 : decode b_DiscMakerModel_targetGoesOn 58 = .ok (.istore 6, 2) := by decide +kernel
theorem d_DiscMakerModel_targetGoesOn_60 : decode b_DiscMakerModel_targetGoesOn 60 = .ok (.iload 4, 2) := by decide +kernel
theorem d_DiscMakerModel_targetGoesOn_62 : decode b_DiscMakerModel_targetGoesOn 62 = .ok (.iconst 2, 1) := by decide +kernel
theorem d_DiscMakerModel_targetGoesOn_63 : decode b_DiscMakerModel_targetGoesOn 63 = .ok (.iadd, 1) := by decide +kernel
theorem d_DiscMakerModel_targetGoesOn_64 : decode b_DiscMakerModel_targetGoesOn 64 = .ok (.iload 6, 2) := by decide +kernel
theorem d_DiscMakerModel_targetGoesOn_66 : decode b_DiscMakerModel_targetGoesOn 66 = .ok (.iadd, 1) := by decide +kernel
theorem d_DiscMakerModel_targetGoesOn_67 : decode b_DiscMakerModel_targetGoesOn 67 = .ok (.iload_n 2, 1) := by decide +kernel
theorem d_DiscMakerModel_targetGoesOn_68 : decode b_DiscMakerModel_targetGoesOn 68 = .ok (.iload_n 3, 1) := by decide +kernel
theorem d_DiscMakerModel_targetGoesOn_69 : decode b_DiscMakerModel_targetGoesOn 69 = .ok (.iadd, 1) := by decide +kernel
theorem d_DiscMakerModel_targetGoesOn_70 : decode b_DiscMakerModel_targetGoesOn 70 = .ok (.if_icmp .gt 37, 3) := by decide +kernel
theorem d_DiscMakerModel_targetGoesOn_73 : decode b_DiscMakerModel_targetGoesOn 73 = .ok (.iload 5, 2) := by decide +kernel
theorem d_DiscMakerModel_targetGoesOn_75 : decode b_DiscMakerModel_targetGoesOn 75 = .ok (.ifCond .eq 22, 3) := by decide +kernel
theorem d_DiscMakerModel_targetGoesOn_78 : decode b_DiscMakerModel_targetGoesOn 78 = .ok (.iload 5, 2) := by decide +kernel
theorem d_DiscMakerModel_targetGoesOn_80 : decode b_DiscMakerModel_targetGoesOn 80 = .ok (.iconst 2, 1) := by decide +kernel
theorem d_DiscMakerModel_targetGoesOn_81 : decode b_DiscMakerModel_targetGoesOn 81 = .ok (.if_icmp .eq 16, 3) := by decide +kernel
theorem d_DiscMakerModel_targetGoesOn_84 : decode b_DiscMakerModel_targetGoesOn 84 = .ok (.iload 5, 2) := by decide +kernel
theorem d_DiscMakerModel_targetGoesOn_86 : decode b_DiscMakerModel_targetGoesOn 86 = .ok (.iconst 4, 1) := by decide +kernel
theorem d_DiscMakerModel_targetGoesOn_87 : decode b_DiscMakerModel_targetGoesOn 87 = .ok (.if_icmp .eq 10, 3) := by decide +kernel
theorem d_DiscMakerModel_targetGoesOn_90 : decode b_DiscMakerModel_targetGoesOn 90 = .ok (.iload 5, 2) := by decide +kernel
theorem d_DiscMakerModel_targetGoesOn_92 : decode b_DiscMakerModel_targetGoesOn 92 = .ok (.bipush 8, 2) := by decide +kernel
theorem d_DiscMakerModel_targetGoesOn_94 : decode b_DiscMakerModel_targetGoesOn 94 = .ok (.if_icmp .ne 13, 3) := by decide +kernel
theorem d_DiscMakerModel_targetGoesOn_97 : decode b_DiscMakerModel_targetGoesOn 97 = .ok (.iload 5, 2) := by decide +kernel
theorem d_DiscMakerModel_targetGoesOn_99 : decode b_DiscMakerModel_targetGoesOn 99 = .ok (.ifCond .eq 10, 3) := by decide +kernel
theorem d_DiscMakerModel_targetGoesOn_102 : decode b_DiscMakerModel_targetGoesOn 102 = .ok (.iload 6, 2) := by decide +kernel
theorem d_DiscMakerModel_targetGoesOn_104 : decode b_DiscMakerModel_targetGoesOn 104 = .ok (.ifCond .le 5, 3) := by decide +kernel
theorem d_DiscMakerModel_targetGoesOn_107 : decode b_DiscMakerModel_targetGoesOn 107 = .ok (.iconst 0, 1) := by decide +kernel
theorem d_DiscMakerModel_targetGoesOn_108 : decode b_DiscMakerModel_targetGoesOn 108 = .ok (.ireturn, 1) := by decide +kernel
theorem d_DiscMakerModel_targetGoesOn_109 : decode b_DiscMakerModel_targetGoesOn 109 = .ok (.aload_n 0, 1) := by decide +kernel
theorem d_DiscMakerModel_targetGoesOn_110 : decode b_DiscMakerModel_targetGoesOn 110 = .ok (.getfield 355, 3) := by decide +kernel
theorem d_DiscMakerModel_targetGoesOn_113 : decode b_DiscMakerModel_targetGoesOn 113 = .ok (.ifCond .le 22, 3) := by decide +kernel
theorem d_DiscMakerModel_targetGoesOn_116 : decode b_DiscMakerModel_targetGoesOn 116 = .ok (.aload_n 0, 1) := by decide +kernel
theorem d_DiscMakerModel_targetGoesOn_117 : decode b_DiscMakerModel_targetGoesOn 117 = .ok (.getfield 355, 3) := by decide +kernel
theorem d_DiscMakerModel_targetGoesOn_120 : decode b_DiscMakerModel_targetGoesOn 120 = .ok (.iconst 1, 1) := by decide +kernel
theorem d_DiscMakerModel_targetGoesOn_121 : decode b_DiscMakerModel_targetGoesOn 121 = .ok (.if_icmp .ne 10, 3) := by decide +kernel
theorem d_DiscMakerModel_targetGoesOn_124 : decode b_DiscMakerModel_targetGoesOn 124 = .ok (.aload_n 0, 1) := by decide +kernel
theorem d_DiscMakerModel_targetGoesOn_125 : decode b_DiscMakerModel_targetGoesOn 125 = .ok (.getfield 379, 3) := by decide +kernel
theorem d_DiscMakerModel_targetGoesOn_128 : decode b_DiscMakerModel_targetGoesOn 128 = .ok (.ifCond .ne 7, 3) := by decide +kernel
theorem d_DiscMakerModel_targetGoesOn_131 : decode b_DiscMakerModel_targetGoesOn 131 = .ok (.iconst 1, 1) := by decide +kernel
theorem d_DiscMakerModel_targetGoesOn_132 : decode b_DiscMakerModel_targetGoesOn 132 = .ok (.goto 4, 3) := by decide +kernel
theorem d_DiscMakerModel_targetGoesOn_135 : decode b_DiscMakerModel_targetGoesOn 135 = .ok (.iconst 0, 1) := by decide +kernel
theorem d_DiscMakerModel_targetGoesOn_136 : decode b_DiscMakerModel_targetGoesOn 136 = .ok (.istore 7, 2) := by decide +kernel
theorem d_DiscMakerModel_targetGoesOn_138 : decode b_DiscMakerModel_targetGoesOn 138 = .ok (.aload_n 0, 1) := by decide +kernel
theorem d_DiscMakerModel_targetGoesOn_139 : decode b_DiscMakerModel_targetGoesOn 139 = .ok (.aload_n 0, 1) := by decide +kernel
theorem d_DiscMakerModel_targetGoesOn_140 : decode b_DiscMakerModel_targetGoesOn 140 = .ok (.getfield 355, 3) := by decide +kernel
theorem d_DiscMakerModel_targetGoesOn_143 : decode b_DiscMakerModel_targetGoesOn 143 = .ok (.ifCond .ne 14, 3) := by decide +kernel
theorem d_DiscMakerModel_targetGoesOn_146 : decode b_DiscMakerModel_targetGoesOn 146 = .ok (.iload 5, 2) := by decide +kernel
theorem d_DiscMakerModel_targetGoesOn_148 : decode b_DiscMakerModel_targetGoesOn 148 = .ok (.bipush 8, 2) := by decide +kernel
theorem d_DiscMakerModel_targetGoesOn_150 : decode b_DiscMakerModel_targetGoesOn 150 = .ok (.if_icmp .ne 7, 3) := by decide +kernel
theorem d_DiscMakerModel_targetGoesOn_153 : decode b_DiscMakerModel_targetGoesOn 153 = .ok (.iconst 1, 1) := by decide +kernel
theorem d_DiscMakerModel_targetGoesOn_154 : decode b_DiscMakerModel_targetGoesOn 154 = .ok (.goto 4, 3) := by decide +kernel
theorem d_DiscMakerModel_targetGoesOn_157 : decode b_DiscMakerModel_targetGoesOn 157 = .ok (.iconst 0, 1) := by decide +kernel
theorem d_DiscMakerModel_targetGoesOn_158 : decode b_DiscMakerModel_targetGoesOn 158 = .ok (.putfield 379, 3) := by decide +kernel
theorem d_DiscMakerModel_targetGoesOn_161 : decode b_DiscMakerModel_targetGoesOn 161 = .ok (.iload 7, 2) := by decide +kernel
theorem d_DiscMakerModel_targetGoesOn_163 : decode b_DiscMakerModel_targetGoesOn 163 = .ok (.ifCond .eq 15, 3) := by decide +kernel
theorem d_DiscMakerModel_targetGoesOn_166 : decode b_DiscMakerModel_targetGoesOn 166 = .ok (.aload_n 0, 1) := by decide +kernel
theorem d_DiscMakerModel_targetGoesOn_167 : decode b_DiscMakerModel_targetGoesOn 167 = .ok (.iload_n 1, 1) := by decide +kernel
theorem d_DiscMakerModel_targetGoesOn_168 : decode b_DiscMakerModel_targetGoesOn 168 = .ok (.bipush 47, 2) := by decide +kernel
theorem d_DiscMakerModel_targetGoesOn_170 : decode b_DiscMakerModel_targetGoesOn 170 = .ok (.invokevirtual 382, 3) := by decide +kernel
theorem d_DiscMakerModel_targetGoesOn_173 : decode b_DiscMakerModel_targetGoesOn 173 = .ok (.ifCond .ne 5, 3) := by decide +kernel
theorem d_DiscMakerModel_targetGoesOn_176 : decode b_DiscMakerModel_targetGoesOn 176 = .ok (.iconst 0, 1) := by decide +kernel
theorem d_DiscMakerModel_targetGoesOn_177 : decode b_DiscMakerModel_targetGoesOn 177 = .ok (.ireturn, 1) := by decide +kernel
theorem d_DiscMakerModel_targetGoesOn_178 : decode b_DiscMakerModel_targetGoesOn 178 = .ok (.aload_n 0, 1) := by decide +kernel
theorem d_DiscMakerModel_targetGoesOn_179 : decode b_DiscMakerModel_targetGoesOn 179 = .ok (.getfield 379, 3) := by decide +kernel
theorem d_DiscMakerModel_targetGoesOn_182 : decode b_DiscMakerModel_targetGoesOn 182 = .ok (.ifCond .eq 15, 3) := by decide +kernel
theorem d_DiscMakerModel_targetGoesOn_185 : decode b_DiscMakerModel_targetGoesOn 185 = .ok (.aload_n 0, 1) := by decide +kernel
theorem d_DiscMakerModel_targetGoesOn_186 : decode b_DiscMakerModel_targetGoesOn 186 = .ok (.iload_n 1, 1) := by decide +kernel
theorem d_DiscMakerModel_targetGoesOn_187 : decode b_DiscMakerModel_targetGoesOn 187 = .ok (.bipush 47, 2) := by decide +kernel
theorem d_DiscMakerModel_targetGoesOn_189 : decode b_DiscMakerModel_targetGoesOn 189 = .ok (.invokevirtual 382, 3) := by decide +kernel
theorem d_DiscMakerModel_targetGoesOn_192 : decode b_DiscMakerModel_targetGoesOn 192 = .ok (.ifCond .ne 5, 3) := by decide +kernel
theorem d_DiscMakerModel_targetGoesOn_195 : decode b_DiscMakerModel_targetGoesOn 195 = .ok (.iconst 0, 1) := by decide +kernel
theorem d_DiscMakerModel_targetGoesOn_196 : decode b_DiscMakerModel_targetGoesOn 196 = .ok (.ireturn, 1) := by decide +kernel
theorem d_DiscMakerModel_targetGoesOn_197 : decode b_DiscMakerModel_targetGoesOn 197 = .ok (.iconst 0, 1) := by decide +kernel
theorem d_DiscMakerModel_targetGoesOn_198 : decode b_DiscMakerModel_targetGoesOn 198 = .ok (.istore 8, 2) := by decide +kernel
theorem d_DiscMakerModel_targetGoesOn_200 : decode b_DiscMakerModel_targetGoesOn 200 = .ok (.iload 8, 2) := by decide +kernel
theorem d_DiscMakerModel_targetGoesOn_202 : decode b_DiscMakerModel_targetGoesOn 202 = .ok (.iload 5, 2) := by decide +kernel
theorem d_DiscMakerModel_targetGoesOn_204 : decode b_DiscMakerModel_targetGoesOn 204 = .ok (.iconst 2, 1) := by decide +kernel
theorem d_DiscMakerModel_targetGoesOn_205 : decode b_DiscMakerModel_targetGoesOn 205 = .ok (.if_icmp .ne 7, 3) := by decide +kernel
theorem d_DiscMakerModel_targetGoesOn_208 : decode b_DiscMakerModel_targetGoesOn 208 = .ok (.iconst 1, 1) := by decide +kernel
theorem d_DiscMakerModel_targetGoesOn_209 : decode b_DiscMakerModel_targetGoesOn 209 = .ok (.goto 15, 3) := by decide +kernel
theorem d_DiscMakerModel_targetGoesOn_212 : decode b_DiscMakerModel_targetGoesOn 212 = .ok (.iload 5, 2) := by decide +kernel
theorem d_DiscMakerModel_targetGoesOn_214 : decode b_DiscMakerModel_targetGoesOn 214 = .ok (.iconst 4, 1) := by decide +kernel
theorem d_DiscMakerModel_targetGoesOn_215 : decode b_DiscMakerModel_targetGoesOn 215 = .ok (.if_icmp .ne 7, 3) := by decide +kernel
theorem d_DiscMakerModel_targetGoesOn_218 : decode b_DiscMakerModel_targetGoesOn 218 = .ok (.iconst 2, 1) := by decide +kernel
theorem d_DiscMakerModel_targetGoesOn_219 : decode b_DiscMakerModel_targetGoesOn 219 = .ok (.goto 5, 3) := by decide +kernel
theorem d_DiscMakerModel_targetGoesOn_222 : decode b_DiscMakerModel_targetGoesOn 222 = .ok (.iload 6, 2) := by decide +kernel
theorem d_DiscMakerModel_targetGoesOn_224 : decode b_DiscMakerModel_targetGoesOn 224 = .ok (.if_icmp .ge 40, 3) := by decide +kernel
theorem d_DiscMakerModel_targetGoesOn_227 : decode b_DiscMakerModel_targetGoesOn 227 = .ok (.aload_n 0, 1) := by decide +kernel
theorem d_DiscMakerModel_targetGoesOn_228 : decode b_DiscMakerModel_targetGoesOn 228 = .ok (.iload_n 1, 1) := by decide +kernel
theorem d_DiscMakerModel_targetGoesOn_229 : decode b_DiscMakerModel_targetGoesOn 229 = .ok (.iload 5, 2) := by decide +kernel
theorem d_DiscMakerModel_targetGoesOn_231 : decode b_DiscMakerModel_targetGoesOn 231 = .ok (.ifCond .ne 17, 3) := by decide +kernel
theorem d_DiscMakerModel_targetGoesOn_234 : decode b_DiscMakerModel_targetGoesOn 234 = .ok (.aload_n 0, 1) := by decide +kernel
theorem d_DiscMakerModel_targetGoesOn_235 : decode b_DiscMakerModel_targetGoesOn 235 = .ok (.iload 4, 2) := by decide +kernel
theorem d_DiscMakerModel_targetGoesOn_237 : decode b_DiscMakerModel_targetGoesOn 237 = .ok (.iconst 2, 1) := by decide +kernel
theorem d_DiscMakerModel_targetGoesOn_238 : decode b_DiscMakerModel_targetGoesOn 238 = .ok (.iadd, 1) := by decide +kernel
theorem d_DiscMakerModel_targetGoesOn_239 : decode b_DiscMakerModel_targetGoesOn 239 = .ok (.iload 8, 2) := by decide +kernel
theorem d_DiscMakerModel_targetGoesOn_241 : decode b_DiscMakerModel_targetGoesOn 241 = .ok (.iadd, 1) := by decide +kernel
theorem d_DiscMakerModel_targetGoesOn_242 : decode b_DiscMakerModel_targetGoesOn 242 = .ok (.invokevirtual 303, 3) := by decide +kernel
theorem d_DiscMakerModel_targetGoesOn_245 : decode b_DiscMakerModel_targetGoesOn 245 = .ok (.goto 5, 3) := by decide +kernel
theorem d_DiscMakerModel_targetGoesOn_248 : decode b_DiscMakerModel_targetGoesOn 248 = .ok (.bipush 46, 2) := by decide +kernel
theorem d_DiscMakerModel_targetGoesOn_250 : decode b_DiscMakerModel_targetGoesOn 250 = .ok (.invokevirtual 382, 3) := by decide +kernel
theorem d_DiscMakerModel_targetGoesOn_253 : decode b_DiscMakerModel_targetGoesOn 253 = .ok (.ifCond .ne 5, 3) := by decide +kernel
theorem d_DiscMakerModel_targetGoesOn_256 : decode b_DiscMakerModel_targetGoesOn 256 = .ok (.iconst 0, 1) := by decide +kernel
theorem d_DiscMakerModel_targetGoesOn_257 : decode b_DiscMakerModel_targetGoesOn 257 = .ok (.ireturn, 1) := by decide +kernel
theorem d_DiscMakerModel_targetGoesOn_258 : decode b_DiscMakerModel_targetGoesOn 258 = .ok (.iinc 8 1, 3) := by decide +kernel
theorem d_DiscMakerModel_targetGoesOn_261 : decode b_DiscMakerModel_targetGoesOn 261 = .ok (.goto (-61), 3) := by decide +kernel
theorem d_DiscMakerModel_targetGoesOn_264 : decode b_DiscMakerModel_targetGoesOn 264 = .ok (.aload_n 0, 1) := by decide +kernel
theorem d_DiscMakerModel_targetGoesOn_265 : decode b_DiscMakerModel_targetGoesOn 265 = .ok (.dup, 1) := by decide +kernel
theorem d_DiscMakerModel_targetGoesOn_266 : decode b_DiscMakerModel_targetGoesOn 266 = .ok (.getfield 355, 3) := by decide +kernel
theorem d_DiscMakerModel_targetGoesOn_269 : decode b_DiscMakerModel_targetGoesOn 269 = .ok (.iconst 1, 1) := by decide +kernel
theorem d_DiscMakerModel_targetGoesOn_270 : decode b_DiscMakerModel_targetGoesOn 270 = .ok (.iadd, 1) := by decide +kernel
theorem d_DiscMakerModel_targetGoesOn_271 : decode b_DiscMakerModel_targetGoesOn 271 = .ok (.putfield 355, 3) := by decide +kernel
theorem d_DiscMakerModel_targetGoesOn_274 : decode b_DiscMakerModel_targetGoesOn 274 = .ok (.iload 4, 2) := by decide +kernel
theorem d_DiscMakerModel_targetGoesOn_276 : decode b_DiscMakerModel_targetGoesOn 276 = .ok (.iconst 2, 1) := by decide +kernel
theorem d_DiscMakerModel_targetGoesOn_277 : decode b_DiscMakerModel_targetGoesOn 277 = .ok (.iload 6, 2) := by decide +kernel
theorem d_DiscMakerModel_targetGoesOn_279 : decode b_DiscMakerModel_targetGoesOn 279 = .ok (.iadd, 1) := by decide +kernel
theorem d_DiscMakerModel_targetGoesOn_280 : decode b_DiscMakerModel_targetGoesOn 280 = .ok (.iadd, 1) := by decide +kernel
theorem d_DiscMakerModel_targetGoesOn_281 : decode b_DiscMakerModel_targetGoesOn 281 = .ok (.istore 4, 2) := by decide +kernel
theorem d_DiscMakerModel_targetGoesOn_283 : decode b_DiscMakerModel_targetGoesOn 283 = .ok (.goto (-261), 3) := by decide +kernel
theorem d_DiscMakerModel_targetGoesOn_286 : decode b_DiscMakerModel_targetGoesOn 286 = .ok (.iconst 1, 1) := by decide +kernel
theorem d_DiscMakerModel_targetGoesOn_287 : decode b_DiscMakerModel_targetGoesOn 287 = .ok (.ireturn, 1) := by decide +kernel
set_option maxHeartbeats 4000000 in
set_option maxRecDepth 100000 in
theorem m_targetGoesOn (l : Launch) (D : va_G) (cB cI cJ cZ cN cF : ClassId) (sz : Nat) (h0 : Nat) (ma : Nat → Nat) (sv_thrown sv_length sv_nodes sv_many sv_directories sv_runsFrom sv_runs sv_read sv_wrong sv_isNamed sv_goes sv_goesSize sv_goesAt sv_targetParts sv_isRoot : Int32) (F : Nat → Int64) (fT : Nat → Int32) (fTS : Nat → Int32) (x : Int32) (y : Int32) (z : Int32) (hk0 : 0 ≤ x.toInt ∧ x.toInt < 100) (hy0 : 0 ≤ y.toInt) (hz0 : 0 ≤ z.toInt ∧ z.toInt ≤ 255) (hyz : y.toInt + z.toInt ≤ 368640) (hfTS : Rg 0 400 100 fTS) : Met l y_DiscMakerModel_targetGoesOn w_DiscMakerModel_targetGoesOn ({ frames := 1, cells := 0, slots := 0, locals := 22 }) (va_Pc [.ref h0, .int x, .int y, .int z] (fun U => U.heap.size = sz ∧ va_P D CL [(h0, .inr (11, MO ma sv_thrown sv_length sv_nodes sv_many sv_directories sv_runsFrom sv_runs sv_read sv_wrong sv_isNamed sv_goes sv_goesSize sv_goesAt sv_targetParts sv_isRoot)), ((ma 16), .inl (cJ, 46080, .inr (.inl F))), ((ma 30), .inl (cB, 40000, .inl fT)), ((ma 31), .inl (cI, 100, .inl fTS))] U.heap ∧ va_K D CL (TY cB cI cJ cZ cN cF) U ∧ NN U ∧ va_D (fun _ => True) [(h0, .inr (11, MO ma sv_thrown sv_length sv_nodes sv_many sv_directories sv_runsFrom sv_runs sv_read sv_wrong sv_isNamed sv_goes sv_goesSize sv_goesAt sv_targetParts sv_isRoot)), ((ma 16), .inl (cJ, 46080, .inr (.inl F))), ((ma 30), .inl (cB, 40000, .inl fT)), ((ma 31), .inl (cI, 100, .inl fTS))])) (va_Qi (fun (r : Int32) (u : Int32 × Int32 × (Nat → Int32) × (Nat → Int32)) => match u with | (tp, ro, gT, gTS) => (0 ≤ r.toInt ∧ r.toInt ≤ 1) ∧ (Rg 0 400 100 gTS)) (fun (u : Int32 × Int32 × (Nat → Int32) × (Nat → Int32)) (t : State) => match u with | (tp, ro, gT, gTS) => va_P D CL [(h0, .inr (11, MO ma sv_thrown sv_length sv_nodes sv_many sv_directories sv_runsFrom sv_runs sv_read sv_wrong sv_isNamed sv_goes sv_goesSize sv_goesAt tp ro)), ((ma 16), .inl (cJ, 46080, .inr (.inl F))), ((ma 30), .inl (cB, 40000, .inl gT)), ((ma 31), .inl (cI, 100, .inl gTS))] t.heap ∧ va_D (va_A [(h0, .inr (11, MO ma sv_thrown sv_length sv_nodes sv_many sv_directories sv_runsFrom sv_runs sv_read sv_wrong sv_isNamed sv_goes sv_goesSize sv_goesAt sv_targetParts sv_isRoot)), ((ma 16), .inl (cJ, 46080, .inr (.inl F))), ((ma 30), .inl (cB, 40000, .inl fT)), ((ma 31), .inl (cI, 100, .inl fTS))] sz) [(h0, .inr (11, MO ma sv_thrown sv_length sv_nodes sv_many sv_directories sv_runsFrom sv_runs sv_read sv_wrong sv_isNamed sv_goes sv_goesSize sv_goesAt tp ro)), ((ma 16), .inl (cJ, 46080, .inr (.inl F))), ((ma 30), .inl (cB, 40000, .inl gT)), ((ma 31), .inl (cI, 100, .inl gTS))]) (va_A [(h0, .inr (11, MO ma sv_thrown sv_length sv_nodes sv_many sv_directories sv_runsFrom sv_runs sv_read sv_wrong sv_isNamed sv_goes sv_goesSize sv_goesAt sv_targetParts sv_isRoot)), ((ma 16), .inl (cJ, 46080, .inr (.inl F))), ((ma 30), .inl (cB, 40000, .inl fT)), ((ma 31), .inl (cI, 100, .inl fTS))] sz)) 0 0 (va_A [(h0, .inr (11, MO ma sv_thrown sv_length sv_nodes sv_many sv_directories sv_runsFrom sv_runs sv_read sv_wrong sv_isNamed sv_goes sv_goesSize sv_goesAt sv_targetParts sv_isRoot)), ((ma 16), .inl (cJ, 46080, .inr (.inl F))), ((ma 30), .inl (cB, 40000, .inl fT)), ((ma 31), .inl (cI, 100, .inl fTS))] sz) := by
  refine Met.ofW (cc := b_DiscMakerModel_targetGoesOn) (maxL := 9) (ret := some .boolean) (by decide) rfl ?_
  intro p e s m args below meth c s₁ B hml hv
  obtain ⟨rfl, hsz, hP, hK, hN, hD0⟩ := hv
  have hx := B.exec
  have hb := B.bytes
  have hr := B.returns
  have hts := atoms_spec (ws := w_DiscMakerModel_targetGoesOn) B.pre
  have ht9 := fun (w : Cond) (h : w ∈ lw_g) => hts w (List.mem_cons_of_mem _ h)
  have hown : s.vm.findClass "DiscMakerModel" = some m.cls := findClass_of_methodNamed B.named
  have hlocks := B.notSynchronized
  subst hsz
  have hD := hD0.self (sz := s.heap.size)
  generalize hAe : va_A [(h0, .inr (11, MO ma sv_thrown sv_length sv_nodes sv_many sv_directories sv_runsFrom sv_runs sv_read sv_wrong sv_isNamed sv_goes sv_goesSize sv_goesAt sv_targetParts sv_isRoot)), ((ma 16), .inl (cJ, 46080, .inr (.inl F))), ((ma 30), .inl (cB, 40000, .inl fT)), ((ma 31), .inl (cI, 100, .inl fTS))] s.heap.size = A at hD ⊢
  have hA : ∀ q : Nat, s.heap.size ≤ q → A q := fun q h => by rw [← hAe]; exact Or.inr h
  have hS : va_S A s.heap s.heap [] := va_S.rf
  have hP : va_P D CL [(h0, .inr (11, MO ma sv_thrown sv_length sv_nodes sv_many sv_directories sv_runsFrom sv_runs sv_read sv_wrong sv_isNamed sv_goes sv_goesSize sv_goesAt sv_targetParts sv_isRoot)), ((ma 16), .inl (cJ, 46080, .inr (.inl F))), ((ma 30), .inl (cB, 40000, .inl fT)), ((ma 31), .inl (cI, 100, .inl fTS))] s.heap := hP
  have hl := lv_entry [.ref h0, .int x, .int y, .int z] (n := 9) (Nat.le_of_ble_eq_true rfl)
  rw [lg_entry_eq]
  generalize (lg_sl [.ref h0, .int x, .int y, .int z] ++ List.replicate (9 - (lg_sl [.ref h0, .int x, .int y, .int z]).length) Slot.unset).toArray = ls at hl ⊢
  have hl : lv_has ls 9 [(0, .ref h0), (1, .int x), (2, .int y), (3, .int z)] := hl
  have L_m1 : ((-1) : Int32).toInt = (-1) := by decide
  have L_0 : (0 : Int32).toInt = 0 := by decide
  have L_1 : (1 : Int32).toInt = 1 := by decide
  have L_2 : (2 : Int32).toInt = 2 := by decide
  have L_4 : (4 : Int32).toInt = 4 := by decide
  have L_5 : (5 : Int32).toInt = 5 := by decide
  have L_8 : (8 : Int32).toInt = 8 := by decide
  have L_46 : (46 : Int32).toInt = 46 := by decide
  have L_47 : (47 : Int32).toInt = 47 := by decide
  refine lv_iload_n hx hb d_DiscMakerModel_targetGoesOn_0 rfl (lv_at hl 3 rfl) ?_
  refine lv_iconst (v := 5) hx hb d_DiscMakerModel_targetGoesOn_1 (by decide) ?_
  refine lv_icmp_lt (tgt := 15) hx hb d_DiscMakerModel_targetGoesOn_2 (by decide) (fun h_9 => ?_) (fun h_9 => ?_)
  · skip
    have g2_3 : z.toInt < 5 := (i_lt rfl (by decide)).mp h_9
    refine lv_iconst (v := 0) hx hb d_DiscMakerModel_targetGoesOn_15 (by decide) ?_
    have hP9 := hP.sub (ws' := [(h0, .inr (11, MO ma sv_thrown sv_length sv_nodes sv_many sv_directories sv_runsFrom sv_runs sv_read sv_wrong sv_isNamed sv_goes sv_goesSize sv_goesAt sv_targetParts sv_isRoot)), ((ma 16), .inl (cJ, 46080, .inr (.inl F))), ((ma 30), .inl (cB, 40000, .inl fT)), ((ma 31), .inl (cI, 100, .inl fTS))]) [0, 1, 2, 3] rfl
    have hD9 := hD.sub (ws' := [(h0, .inr (11, MO ma sv_thrown sv_length sv_nodes sv_many sv_directories sv_runsFrom sv_runs sv_read sv_wrong sv_isNamed sv_goes sv_goesSize sv_goesAt sv_targetParts sv_isRoot)), ((ma 16), .inl (cJ, 46080, .inr (.inl F))), ((ma 30), .inl (cB, 40000, .inl fT)), ((ma 31), .inl (cI, 100, .inl fTS))]) [0, 1, 2, 3] (by decide +kernel) rfl
    exact W.zret (v := 0) hx hb hr (by first | rfl | decide | exact i_narZ (by omega)) (fun t ht hW => ⟨⟨0, (sv_targetParts, sv_isRoot, fT, fTS), rfl, ⟨(by (try dsimp only); first | assumption | omega | trivial), (by (try dsimp only); first | assumption | omega | trivial)⟩, by rw [ht]; exact hP9, hD9⟩, hS.F ht⟩) hS.2.2 d_DiscMakerModel_targetGoesOn_16
  · skip
    have g2_3 : ¬ z.toInt < 5 := fun h8 => h_9 ((i_lt rfl (by decide)).mpr h8)
    refine lv_aload_n hx hb d_DiscMakerModel_targetGoesOn_5 rfl (lv_at hl 0 rfl) ?_
    refine lv_iload_n hx hb d_DiscMakerModel_targetGoesOn_6 rfl (lv_at hl 2 rfl) ?_
    refine lv_iconst (v := 4) hx hb d_DiscMakerModel_targetGoesOn_7 (by decide) ?_
    refine lv_iadd hx hb d_DiscMakerModel_targetGoesOn_8 ?_
    refine lv_topi (fun v1 e_v1 => ?_)
    have t_v1 : v1.toInt = y.toInt + 4 := by rw [e_v1]; exact i_add rfl (by decide) (by omega) (by omega)
    have hPc := hP.sub (ws' := [(h0, .inr (11, MO ma sv_thrown sv_length sv_nodes sv_many sv_directories sv_runsFrom sv_runs sv_read sv_wrong sv_isNamed sv_goes sv_goesSize sv_goesAt sv_targetParts sv_isRoot)), ((ma 16), .inl (cJ, 46080, .inr (.inl F)))]) [0, 1] rfl
    have hDc := hD.sub (ws' := [(h0, .inr (11, MO ma sv_thrown sv_length sv_nodes sv_many sv_directories sv_runsFrom sv_runs sv_read sv_wrong sv_isNamed sv_goes sv_goesSize sv_goesAt sv_targetParts sv_isRoot)), ((ma 16), .inl (cJ, 46080, .inr (.inl F)))]) [0, 1] (by decide +kernel) rfl
    have hFc := va_free (wc := [(h0, .inr (11, MO ma sv_thrown sv_length sv_nodes sv_many sv_directories sv_runsFrom sv_runs sv_read sv_wrong sv_isNamed sv_goes sv_goesSize sv_goesAt sv_targetParts sv_isRoot)), ((ma 16), .inl (cJ, 46080, .inr (.inl F)))]) hD hS hA [0, 1] rfl
    have hkc : 0 ≤ 0 := by decide
    have hks : 0 ≤ 0 := by decide
    refine va_calli (va_runV (C := "DiscMakerModel") (As := [.int v1]) (rest := []) ⟨hx, hb, hml, hown, hts⟩ (m_at l D cB cI cJ cZ cN cF s.heap.size h0 ma sv_thrown sv_length sv_nodes sv_many sv_directories sv_runsFrom sv_runs sv_read sv_wrong sv_isNamed sv_goes sv_goesSize sv_goesAt sv_targetParts sv_isRoot F v1 (by (try dsimp only); first | assumption | omega | trivial) (by (try dsimp only); first | assumption | omega | trivial)) (cwV 1 hts (lg_goodV k1809 k1811 k95 k125 kc_DiscMakerModel_at) rfl rfl rfl (by decide +kernel) ⟨Nat.le_of_ble_eq_true rfl, Nat.le_of_ble_eq_true rfl⟩) ⟨fun a U g mk q => by obtain ⟨q0, q1, qP, qK, qN, qD⟩ := q; exact ⟨q0, q1, qP, va_K.moved (u := U) (U := U.calling g mk a) (Vm.Alike.refl U.vm) qK, qN.calling, qD⟩, va_recv hK hP (ci := 11) (q0 := 0) rfl rfl, fun U hU hW => ⟨rfl, by rw [hU], by rw [hU]; exact hPc, va_K.moved hW.alike hK, NN.warm hW hN, hDc.weaken (fun _ _ _ _ => trivial)⟩⟩ rfl rfl hl.1 rfl (lv_room (Nat.le_of_ble_eq_true rfl)) d_DiscMakerModel_targetGoesOn_9 ⟨hkc, hks⟩) hS (fun q _ h => hFc q h) hFc (fun r2 u t H1 locs ht hvm hp_r2 hB hz1 hk1 hS => ?_)
    obtain ⟨hP1, hD1⟩ := hB
    rw [ht] at hP1
    obtain ⟨hP, hD⟩ := va_join (wr := [((ma 30), .inl (cB, 40000, .inl fT)), ((ma 31), .inl (cI, 100, .inl fTS))]) (w1 := [(h0, .inr (11, MO ma sv_thrown sv_length sv_nodes sv_many sv_directories sv_runsFrom sv_runs sv_read sv_wrong sv_isNamed sv_goes sv_goesSize sv_goesAt sv_targetParts sv_isRoot)), ((ma 16), .inl (cJ, 46080, .inr (.inl F)))]) hP hD [0, 1] [2, 3] rfl rfl (by decide +kernel) (by decide +kernel) hk1 hFc hP1 hD1
    clear hPc hDc hFc hP1 hD1 hk1 hz1 hkc hks
    generalize H1 = H at hP hS ⊢
    have hP : va_P D CL [((ma 30), .inl (cB, 40000, .inl fT)), ((ma 31), .inl (cI, 100, .inl fTS)), (h0, .inr (11, MO ma sv_thrown sv_length sv_nodes sv_many sv_directories sv_runsFrom sv_runs sv_read sv_wrong sv_isNamed sv_goes sv_goesSize sv_goesAt sv_targetParts sv_isRoot)), ((ma 16), .inl (cJ, 46080, .inr (.inl F)))] H := hP
    have hD : va_D A [((ma 30), .inl (cB, 40000, .inl fT)), ((ma 31), .inl (cI, 100, .inl fTS)), (h0, .inr (11, MO ma sv_thrown sv_length sv_nodes sv_many sv_directories sv_runsFrom sv_runs sv_read sv_wrong sv_isNamed sv_goes sv_goesSize sv_goesAt sv_targetParts sv_isRoot)), ((ma 16), .inl (cJ, 46080, .inr (.inl F)))] := hD
    try dsimp only at hp_r2
    obtain ⟨hr_3, hv_4, hw_5⟩ := hp_r2
    refine lv_if_eq (tgt := 17) hx hb d_DiscMakerModel_targetGoesOn_12 (by decide) (fun h_9 => ?_) (fun h_9 => ?_)
    · skip
      have g12_11 : r2.toInt = 0 := (i_eq rfl (by decide)).mp h_9
      refine lv_iload_n hx hb d_DiscMakerModel_targetGoesOn_17 rfl (lv_at hl 2 rfl) ?_
      refine lv_iconst (v := 5) hx hb d_DiscMakerModel_targetGoesOn_18 (by decide) ?_
      refine lv_iadd hx hb d_DiscMakerModel_targetGoesOn_19 ?_
      refine lv_topi (fun v6 e_v6 => ?_)
      have t_v6 : v6.toInt = y.toInt + 5 := by rw [e_v6]; exact i_add rfl (by decide) (by omega) (by omega)
      refine lv_istore hx hb d_DiscMakerModel_targetGoesOn_20 hl (by decide) rfl (fun ls hl => ?_)
      have hl : lv_has ls 9 [(4, .int v6), (0, .ref h0), (1, .int x), (2, .int y), (3, .int z)] := hl
      refine zz_labM (B := fun (lk : Nat) (K : Heap → List Loc → Array Slot → List Value → Prop) => ∀ (lq : Int32) (ltp : Int32) (lro : Int32) (lT : Nat → Int32) (lTS : Nat → Int32) (H : Heap) (locs : List Loc) (ls : Array Slot), lk = (y.toInt + z.toInt - lq.toInt).toNat → (0 ≤ lq.toInt ∧ lq.toInt ≤ y.toInt + z.toInt) → (Rg 0 400 100 lTS) → va_P D CL [((ma 30), .inl (cB, 40000, .inl lT)), ((ma 31), .inl (cI, 100, .inl lTS)), (h0, .inr (11, MO ma sv_thrown sv_length sv_nodes sv_many sv_directories sv_runsFrom sv_runs sv_read sv_wrong sv_isNamed sv_goes sv_goesSize sv_goesAt ltp lro)), ((ma 16), .inl (cJ, 46080, .inr (.inl F)))] H → va_D A [((ma 30), .inl (cB, 40000, .inl lT)), ((ma 31), .inl (cI, 100, .inl lTS)), (h0, .inr (11, MO ma sv_thrown sv_length sv_nodes sv_many sv_directories sv_runsFrom sv_runs sv_read sv_wrong sv_isNamed sv_goes sv_goesSize sv_goesAt ltp lro)), ((ma 16), .inl (cJ, 46080, .inr (.inl F)))] → va_S A s.heap H locs → lv_has ls 9 [(0, .ref h0), (1, .int x), (2, .int y), (3, .int z), (4, .int lq)] → K H locs ls []) 22 ?_ ?_
      · skip
        intro lk ih22 lq ltp lro lT lTS H locs ls hm22 f1 hlTS hP hD hS hl
        refine lv_iload hx hb d_DiscMakerModel_targetGoesOn_22 (lv_at hl 4 rfl) ?_
        refine lv_iload_n hx hb d_DiscMakerModel_targetGoesOn_24 rfl (lv_at hl 2 rfl) ?_
        refine lv_iload_n hx hb d_DiscMakerModel_targetGoesOn_25 rfl (lv_at hl 3 rfl) ?_
        refine lv_iadd hx hb d_DiscMakerModel_targetGoesOn_26 ?_
        refine lv_topi (fun v7 e_v7 => ?_)
        have t_v7 : v7.toInt = y.toInt + z.toInt := by rw [e_v7]; exact i_add rfl rfl (by omega) (by omega)
        refine lv_icmp_ge (tgt := 286) hx hb d_DiscMakerModel_targetGoesOn_27 (by decide) (fun h_9 => ?_) (fun h_9 => ?_)
        · skip
          have g27_20 : v7.toInt ≤ lq.toInt := (i_le rfl rfl).mp h_9
          refine lv_iconst (v := 1) hx hb d_DiscMakerModel_targetGoesOn_286 (by decide) ?_
          have hP9 := hP.sub (ws' := [(h0, .inr (11, MO ma sv_thrown sv_length sv_nodes sv_many sv_directories sv_runsFrom sv_runs sv_read sv_wrong sv_isNamed sv_goes sv_goesSize sv_goesAt ltp lro)), ((ma 16), .inl (cJ, 46080, .inr (.inl F))), ((ma 30), .inl (cB, 40000, .inl lT)), ((ma 31), .inl (cI, 100, .inl lTS))]) [2, 3, 0, 1] rfl
          have hD9 := hD.sub (ws' := [(h0, .inr (11, MO ma sv_thrown sv_length sv_nodes sv_many sv_directories sv_runsFrom sv_runs sv_read sv_wrong sv_isNamed sv_goes sv_goesSize sv_goesAt ltp lro)), ((ma 16), .inl (cJ, 46080, .inr (.inl F))), ((ma 30), .inl (cB, 40000, .inl lT)), ((ma 31), .inl (cI, 100, .inl lTS))]) [2, 3, 0, 1] (by decide +kernel) rfl
          exact W.zret (v := 1) hx hb hr (by first | rfl | decide | exact i_narZ (by omega)) (fun t ht hW => ⟨⟨1, (ltp, lro, lT, lTS), rfl, ⟨(by (try dsimp only); first | assumption | omega | trivial), (by (try dsimp only); first | assumption | omega | trivial)⟩, by rw [ht]; exact hP9, hD9⟩, hS.F ht⟩) hS.2.2 d_DiscMakerModel_targetGoesOn_287
        · skip
          have g27_20 : ¬ v7.toInt ≤ lq.toInt := fun h8 => h_9 ((i_le rfl rfl).mpr h8)
          refine lv_iload hx hb d_DiscMakerModel_targetGoesOn_30 (lv_at hl 4 rfl) ?_
          refine lv_iconst (v := 2) hx hb d_DiscMakerModel_targetGoesOn_32 (by decide) ?_
          refine lv_iadd hx hb d_DiscMakerModel_targetGoesOn_33 ?_
          refine lv_topi (fun v8 e_v8 => ?_)
          have t_v8 : v8.toInt = lq.toInt + 2 := by rw [e_v8]; exact i_add rfl (by decide) (by omega) (by omega)
          refine lv_iload_n hx hb d_DiscMakerModel_targetGoesOn_34 rfl (lv_at hl 2 rfl) ?_
          refine lv_iload_n hx hb d_DiscMakerModel_targetGoesOn_35 rfl (lv_at hl 3 rfl) ?_
          refine lv_iadd hx hb d_DiscMakerModel_targetGoesOn_36 ?_
          refine lv_topi (fun v9 e_v9 => ?_)
          have t_v9 : v9.toInt = y.toInt + z.toInt := by rw [e_v9]; exact i_add rfl rfl (by omega) (by omega)
          refine lv_icmp_le (tgt := 42) hx hb d_DiscMakerModel_targetGoesOn_37 (by decide) (fun h_9 => ?_) (fun h_9 => ?_)
          · skip
            have g37_29 : v8.toInt ≤ v9.toInt := (i_le rfl rfl).mp h_9
            refine lv_aload_n hx hb d_DiscMakerModel_targetGoesOn_42 rfl (lv_at hl 0 rfl) ?_
            refine lv_iload hx hb d_DiscMakerModel_targetGoesOn_43 (lv_at hl 4 rfl) ?_
            have hPc := hP.sub (ws' := [(h0, .inr (11, MO ma sv_thrown sv_length sv_nodes sv_many sv_directories sv_runsFrom sv_runs sv_read sv_wrong sv_isNamed sv_goes sv_goesSize sv_goesAt ltp lro)), ((ma 16), .inl (cJ, 46080, .inr (.inl F)))]) [2, 3] rfl
            have hDc := hD.sub (ws' := [(h0, .inr (11, MO ma sv_thrown sv_length sv_nodes sv_many sv_directories sv_runsFrom sv_runs sv_read sv_wrong sv_isNamed sv_goes sv_goesSize sv_goesAt ltp lro)), ((ma 16), .inl (cJ, 46080, .inr (.inl F)))]) [2, 3] (by decide +kernel) rfl
            have hFc := va_free (wc := [(h0, .inr (11, MO ma sv_thrown sv_length sv_nodes sv_many sv_directories sv_runsFrom sv_runs sv_read sv_wrong sv_isNamed sv_goes sv_goesSize sv_goesAt ltp lro)), ((ma 16), .inl (cJ, 46080, .inr (.inl F)))]) hD hS hA [2, 3] rfl
            have hkc : 0 ≤ 0 := by decide
            have hks : 0 ≤ 0 := by decide
            refine va_calli (va_runV (C := "DiscMakerModel") (As := [.int lq]) (rest := []) ⟨hx, hb, hml, hown, hts⟩ (m_at l D cB cI cJ cZ cN cF H.size h0 ma sv_thrown sv_length sv_nodes sv_many sv_directories sv_runsFrom sv_runs sv_read sv_wrong sv_isNamed sv_goes sv_goesSize sv_goesAt ltp lro F lq (by (try dsimp only); first | assumption | omega | trivial) (by (try dsimp only); first | assumption | omega | trivial)) (cwV 1 hts (lg_goodV k1809 k1811 k95 k125 kc_DiscMakerModel_at) rfl rfl rfl (by decide +kernel) ⟨Nat.le_of_ble_eq_true rfl, Nat.le_of_ble_eq_true rfl⟩) ⟨fun a U g mk q => by obtain ⟨q0, q1, qP, qK, qN, qD⟩ := q; exact ⟨q0, q1, qP, va_K.moved (u := U) (U := U.calling g mk a) (Vm.Alike.refl U.vm) qK, qN.calling, qD⟩, va_recv hK hP (ci := 11) (q0 := 2) rfl rfl, fun U hU hW => ⟨rfl, by rw [hU], by rw [hU]; exact hPc, va_K.moved hW.alike hK, NN.warm hW hN, hDc.weaken (fun _ _ _ _ => trivial)⟩⟩ rfl rfl hl.1 rfl (lv_room (Nat.le_of_ble_eq_true rfl)) d_DiscMakerModel_targetGoesOn_45 ⟨hkc, hks⟩) hS (fun q _ h => hFc q h) hFc (fun r10 u t H1 locs ht hvm hp_r10 hB hz1 hk1 hS => ?_)
            obtain ⟨hP1, hD1⟩ := hB
            rw [ht] at hP1
            obtain ⟨hP, hD⟩ := va_join (wr := [((ma 30), .inl (cB, 40000, .inl lT)), ((ma 31), .inl (cI, 100, .inl lTS))]) (w1 := [(h0, .inr (11, MO ma sv_thrown sv_length sv_nodes sv_many sv_directories sv_runsFrom sv_runs sv_read sv_wrong sv_isNamed sv_goes sv_goesSize sv_goesAt ltp lro)), ((ma 16), .inl (cJ, 46080, .inr (.inl F)))]) hP hD [2, 3] [0, 1] rfl rfl (by decide +kernel) (by decide +kernel) hk1 hFc hP1 hD1
            clear hPc hDc hFc hP1 hD1 hk1 hz1 hkc hks
            generalize H1 = H at hP hS ⊢
            have hP : va_P D CL [((ma 30), .inl (cB, 40000, .inl lT)), ((ma 31), .inl (cI, 100, .inl lTS)), (h0, .inr (11, MO ma sv_thrown sv_length sv_nodes sv_many sv_directories sv_runsFrom sv_runs sv_read sv_wrong sv_isNamed sv_goes sv_goesSize sv_goesAt ltp lro)), ((ma 16), .inl (cJ, 46080, .inr (.inl F)))] H := hP
            have hD : va_D A [((ma 30), .inl (cB, 40000, .inl lT)), ((ma 31), .inl (cI, 100, .inl lTS)), (h0, .inr (11, MO ma sv_thrown sv_length sv_nodes sv_many sv_directories sv_runsFrom sv_runs sv_read sv_wrong sv_isNamed sv_goes sv_goesSize sv_goesAt ltp lro)), ((ma 16), .inl (cJ, 46080, .inr (.inl F)))] := hD
            try dsimp only at hp_r10
            obtain ⟨hr_11, hv_12, hw_13⟩ := hp_r10
            refine lv_istore hx hb d_DiscMakerModel_targetGoesOn_48 hl (by decide) rfl (fun ls hl => ?_)
            have hl : lv_has ls 9 [(5, .int r10), (0, .ref h0), (1, .int x), (2, .int y), (3, .int z), (4, .int lq)] := hl
            refine lv_aload_n hx hb d_DiscMakerModel_targetGoesOn_50 rfl (lv_at hl 1 rfl) ?_
            refine lv_iload hx hb d_DiscMakerModel_targetGoesOn_51 (lv_at hl 5 rfl) ?_
            refine lv_iconst (v := 1) hx hb d_DiscMakerModel_targetGoesOn_53 (by decide) ?_
            refine lv_iadd hx hb d_DiscMakerModel_targetGoesOn_54 ?_
            refine lv_topi (fun v14 e_v14 => ?_)
            have t_v14 : v14.toInt = lq.toInt + 1 := by rw [e_v14]; exact i_add rfl (by decide) (by omega) (by omega)
            have hPc := hP.sub (ws' := [(h0, .inr (11, MO ma sv_thrown sv_length sv_nodes sv_many sv_directories sv_runsFrom sv_runs sv_read sv_wrong sv_isNamed sv_goes sv_goesSize sv_goesAt ltp lro)), ((ma 16), .inl (cJ, 46080, .inr (.inl F)))]) [2, 3] rfl
            have hDc := hD.sub (ws' := [(h0, .inr (11, MO ma sv_thrown sv_length sv_nodes sv_many sv_directories sv_runsFrom sv_runs sv_read sv_wrong sv_isNamed sv_goes sv_goesSize sv_goesAt ltp lro)), ((ma 16), .inl (cJ, 46080, .inr (.inl F)))]) [2, 3] (by decide +kernel) rfl
            have hFc := va_free (wc := [(h0, .inr (11, MO ma sv_thrown sv_length sv_nodes sv_many sv_directories sv_runsFrom sv_runs sv_read sv_wrong sv_isNamed sv_goes sv_goesSize sv_goesAt ltp lro)), ((ma 16), .inl (cJ, 46080, .inr (.inl F)))]) hD hS hA [2, 3] rfl
            have hkc : 0 ≤ 0 := by decide
            have hks : 0 ≤ 0 := by decide
            refine va_calli (va_runV (C := "DiscMakerModel") (As := [.int v14]) (rest := []) ⟨hx, hb, hml, hown, hts⟩ (m_at l D cB cI cJ cZ cN cF H.size h0 ma sv_thrown sv_length sv_nodes sv_many sv_directories sv_runsFrom sv_runs sv_read sv_wrong sv_isNamed sv_goes sv_goesSize sv_goesAt ltp lro F v14 (by (try dsimp only); first | assumption | omega | trivial) (by (try dsimp only); first | assumption | omega | trivial)) (cwV 1 hts (lg_goodV k1809 k1811 k95 k125 kc_DiscMakerModel_at) rfl rfl rfl (by decide +kernel) ⟨Nat.le_of_ble_eq_true rfl, Nat.le_of_ble_eq_true rfl⟩) ⟨fun a U g mk q => by obtain ⟨q0, q1, qP, qK, qN, qD⟩ := q; exact ⟨q0, q1, qP, va_K.moved (u := U) (U := U.calling g mk a) (Vm.Alike.refl U.vm) qK, qN.calling, qD⟩, va_recv hK hP (ci := 11) (q0 := 2) rfl rfl, fun U hU hW => ⟨rfl, by rw [hU], by rw [hU]; exact hPc, va_K.moved hW.alike hK, NN.warm hW hN, hDc.weaken (fun _ _ _ _ => trivial)⟩⟩ rfl rfl hl.1 rfl (lv_room (Nat.le_of_ble_eq_true rfl)) d_DiscMakerModel_targetGoesOn_55 ⟨hkc, hks⟩) hS (fun q _ h => hFc q h) hFc (fun r15 u t H1 locs ht hvm hp_r15 hB hz1 hk1 hS => ?_)
            obtain ⟨hP1, hD1⟩ := hB
            rw [ht] at hP1
            obtain ⟨hP, hD⟩ := va_join (wr := [((ma 30), .inl (cB, 40000, .inl lT)), ((ma 31), .inl (cI, 100, .inl lTS))]) (w1 := [(h0, .inr (11, MO ma sv_thrown sv_length sv_nodes sv_many sv_directories sv_runsFrom sv_runs sv_read sv_wrong sv_isNamed sv_goes sv_goesSize sv_goesAt ltp lro)), ((ma 16), .inl (cJ, 46080, .inr (.inl F)))]) hP hD [2, 3] [0, 1] rfl rfl (by decide +kernel) (by decide +kernel) hk1 hFc hP1 hD1
            clear hPc hDc hFc hP1 hD1 hk1 hz1 hkc hks
            generalize H1 = H at hP hS ⊢
            have hP : va_P D CL [((ma 30), .inl (cB, 40000, .inl lT)), ((ma 31), .inl (cI, 100, .inl lTS)), (h0, .inr (11, MO ma sv_thrown sv_length sv_nodes sv_many sv_directories sv_runsFrom sv_runs sv_read sv_wrong sv_isNamed sv_goes sv_goesSize sv_goesAt ltp lro)), ((ma 16), .inl (cJ, 46080, .inr (.inl F)))] H := hP
            have hD : va_D A [((ma 30), .inl (cB, 40000, .inl lT)), ((ma 31), .inl (cI, 100, .inl lTS)), (h0, .inr (11, MO ma sv_thrown sv_length sv_nodes sv_many sv_directories sv_runsFrom sv_runs sv_read sv_wrong sv_isNamed sv_goes sv_goesSize sv_goesAt ltp lro)), ((ma 16), .inl (cJ, 46080, .inr (.inl F)))] := hD
            try dsimp only at hp_r15
            obtain ⟨hr_16, hv_17, hw_18⟩ := hp_r15
            refine lv_istore hx hb d_DiscMakerModel_targetGoesOn_58 hl (by decide) rfl (fun ls hl => ?_)
            have hl : lv_has ls 9 [(6, .int r15), (5, .int r10), (0, .ref h0), (1, .int x), (2, .int y), (3, .int z), (4, .int lq)] := hl
            refine lv_iload hx hb d_DiscMakerModel_targetGoesOn_60 (lv_at hl 6 rfl) ?_
            refine lv_iconst (v := 2) hx hb d_DiscMakerModel_targetGoesOn_62 (by decide) ?_
            refine lv_iadd hx hb d_DiscMakerModel_targetGoesOn_63 ?_
            refine lv_topi (fun v19 e_v19 => ?_)
            have t_v19 : v19.toInt = lq.toInt + 2 := by rw [e_v19]; exact i_add rfl (by decide) (by omega) (by omega)
            refine lv_iload hx hb d_DiscMakerModel_targetGoesOn_64 (lv_at hl 0 rfl) ?_
            refine lv_iadd hx hb d_DiscMakerModel_targetGoesOn_66 ?_
            refine lv_topi (fun v20 e_v20 => ?_)
            have t_v20 : v20.toInt = v19.toInt + r15.toInt := by rw [e_v20]; exact i_add rfl rfl (by omega) (by omega)
            refine lv_iload_n hx hb d_DiscMakerModel_targetGoesOn_67 rfl (lv_at hl 4 rfl) ?_
            refine lv_iload_n hx hb d_DiscMakerModel_targetGoesOn_68 rfl (lv_at hl 5 rfl) ?_
            refine lv_iadd hx hb d_DiscMakerModel_targetGoesOn_69 ?_
            refine lv_topi (fun v21 e_v21 => ?_)
            have t_v21 : v21.toInt = y.toInt + z.toInt := by rw [e_v21]; exact i_add rfl rfl (by omega) (by omega)
            refine lv_icmp_gt (tgt := 107) hx hb d_DiscMakerModel_targetGoesOn_70 (by decide) (fun h_9 => ?_) (fun h_9 => ?_)
            · skip
              have g70_48 : v21.toInt < v20.toInt := (i_lt rfl rfl).mp h_9
              refine lv_iconst (v := 0) hx hb d_DiscMakerModel_targetGoesOn_107 (by decide) ?_
              have hP9 := hP.sub (ws' := [(h0, .inr (11, MO ma sv_thrown sv_length sv_nodes sv_many sv_directories sv_runsFrom sv_runs sv_read sv_wrong sv_isNamed sv_goes sv_goesSize sv_goesAt ltp lro)), ((ma 16), .inl (cJ, 46080, .inr (.inl F))), ((ma 30), .inl (cB, 40000, .inl lT)), ((ma 31), .inl (cI, 100, .inl lTS))]) [2, 3, 0, 1] rfl
              have hD9 := hD.sub (ws' := [(h0, .inr (11, MO ma sv_thrown sv_length sv_nodes sv_many sv_directories sv_runsFrom sv_runs sv_read sv_wrong sv_isNamed sv_goes sv_goesSize sv_goesAt ltp lro)), ((ma 16), .inl (cJ, 46080, .inr (.inl F))), ((ma 30), .inl (cB, 40000, .inl lT)), ((ma 31), .inl (cI, 100, .inl lTS))]) [2, 3, 0, 1] (by decide +kernel) rfl
              exact W.zret (v := 0) hx hb hr (by first | rfl | decide | exact i_narZ (by omega)) (fun t ht hW => ⟨⟨0, (ltp, lro, lT, lTS), rfl, ⟨(by (try dsimp only); first | assumption | omega | trivial), (by (try dsimp only); first | assumption | omega | trivial)⟩, by rw [ht]; exact hP9, hD9⟩, hS.F ht⟩) hS.2.2 d_DiscMakerModel_targetGoesOn_108
            · skip
              have g70_48 : ¬ v21.toInt < v20.toInt := fun h8 => h_9 ((i_lt rfl rfl).mpr h8)
              refine zz_labM (B := fun (lk : Nat) (K : Heap → List Loc → Array Slot → List Value → Prop) => ∀ (H : Heap) (locs : List Loc) (ls : Array Slot), lk = 0 → va_P D CL [((ma 30), .inl (cB, 40000, .inl lT)), ((ma 31), .inl (cI, 100, .inl lTS)), (h0, .inr (11, MO ma sv_thrown sv_length sv_nodes sv_many sv_directories sv_runsFrom sv_runs sv_read sv_wrong sv_isNamed sv_goes sv_goesSize sv_goesAt ltp lro)), ((ma 16), .inl (cJ, 46080, .inr (.inl F)))] H → va_D A [((ma 30), .inl (cB, 40000, .inl lT)), ((ma 31), .inl (cI, 100, .inl lTS)), (h0, .inr (11, MO ma sv_thrown sv_length sv_nodes sv_many sv_directories sv_runsFrom sv_runs sv_read sv_wrong sv_isNamed sv_goes sv_goesSize sv_goesAt ltp lro)), ((ma 16), .inl (cJ, 46080, .inr (.inl F)))] → va_S A s.heap H locs → lv_has ls 9 [(0, .ref h0), (1, .int x), (2, .int y), (3, .int z), (4, .int lq), (5, .int r10), (6, .int r15)] → K H locs ls []) 109 ?_ ?_
              · skip
                intro lk ih109 H locs ls hm109 hP hD hS hl
                refine lv_aload_n hx hb d_DiscMakerModel_targetGoesOn_109 rfl (lv_at hl 0 rfl) ?_
                refine va_get (D := D) (ci := 11) (v := .int ltp) (C := "DiscMakerModel") (T := F_DiscMakerModel) (N := 48) hx hb ht9 in_DiscMakerModel hown hK hP 2 rfl rfl 46 (by decide) (ht9 _ k1477) (fun _ h9 => h9) rfl d_DiscMakerModel_targetGoesOn_110 ?_
                refine lv_if_le (tgt := 135) hx hb d_DiscMakerModel_targetGoesOn_113 (by decide) (fun h_9 => ?_) (fun h_9 => ?_)
                · skip
                  have g113_53 : ltp.toInt ≤ 0 := (i_le rfl (by decide)).mp h_9
                  refine lv_iconst (v := 0) hx hb d_DiscMakerModel_targetGoesOn_135 (by decide) ?_
                  refine zz_labM (B := fun (lk : Nat) (K : Heap → List Loc → Array Slot → List Value → Prop) => ∀ (jro : Int32) (jT : Nat → Int32) (jTS : Nat → Int32) (H : Heap) (locs : List Loc) (ls : Array Slot), lk = 0 → (Rg 0 400 100 jTS) → va_P D CL [((ma 30), .inl (cB, 40000, .inl jT)), ((ma 31), .inl (cI, 100, .inl jTS)), (h0, .inr (11, MO ma sv_thrown sv_length sv_nodes sv_many sv_directories sv_runsFrom sv_runs sv_read sv_wrong sv_isNamed sv_goes sv_goesSize sv_goesAt ltp jro)), ((ma 16), .inl (cJ, 46080, .inr (.inl F)))] H → va_D A [((ma 30), .inl (cB, 40000, .inl jT)), ((ma 31), .inl (cI, 100, .inl jTS)), (h0, .inr (11, MO ma sv_thrown sv_length sv_nodes sv_many sv_directories sv_runsFrom sv_runs sv_read sv_wrong sv_isNamed sv_goes sv_goesSize sv_goesAt ltp jro)), ((ma 16), .inl (cJ, 46080, .inr (.inl F)))] → va_S A s.heap H locs → lv_has ls 9 [(0, .ref h0), (1, .int x), (2, .int y), (3, .int z), (4, .int lq), (5, .int r10), (6, .int r15)] → K H locs ls []) 197 ?_ ?_
                  · skip
                    intro lk ih197 jro jT jTS H locs ls hm197 hjTS hP hD hS hl
                    refine lv_iconst (v := 0) hx hb d_DiscMakerModel_targetGoesOn_197 (by decide) ?_
                    refine lv_istore hx hb d_DiscMakerModel_targetGoesOn_198 hl (by decide) rfl (fun ls hl => ?_)
                    have hl : lv_has ls 9 [(8, .int 0), (0, .ref h0), (1, .int x), (2, .int y), (3, .int z), (4, .int lq), (5, .int r10), (6, .int r15)] := hl
                    refine zz_labM (B := fun (lk : Nat) (K : Heap → List Loc → Array Slot → List Value → Prop) => ∀ (kx : Int32) (nT : Nat → Int32) (nTS : Nat → Int32) (H : Heap) (locs : List Loc) (ls : Array Slot), lk = (256 - kx.toInt).toNat → (0 ≤ kx.toInt ∧ kx.toInt ≤ 255) → (Rg 0 400 100 nTS) → va_P D CL [((ma 30), .inl (cB, 40000, .inl nT)), ((ma 31), .inl (cI, 100, .inl nTS)), (h0, .inr (11, MO ma sv_thrown sv_length sv_nodes sv_many sv_directories sv_runsFrom sv_runs sv_read sv_wrong sv_isNamed sv_goes sv_goesSize sv_goesAt ltp jro)), ((ma 16), .inl (cJ, 46080, .inr (.inl F)))] H → va_D A [((ma 30), .inl (cB, 40000, .inl nT)), ((ma 31), .inl (cI, 100, .inl nTS)), (h0, .inr (11, MO ma sv_thrown sv_length sv_nodes sv_many sv_directories sv_runsFrom sv_runs sv_read sv_wrong sv_isNamed sv_goes sv_goesSize sv_goesAt ltp jro)), ((ma 16), .inl (cJ, 46080, .inr (.inl F)))] → va_S A s.heap H locs → lv_has ls 9 [(0, .ref h0), (1, .int x), (2, .int y), (3, .int z), (4, .int lq), (5, .int r10), (6, .int r15), (8, .int kx)] → K H locs ls []) 200 ?_ ?_
                    · skip
                      intro lk ih200 kx nT nTS H locs ls hm200 f4 hnTS hP hD hS hl
                      refine lv_iload hx hb d_DiscMakerModel_targetGoesOn_200 (lv_at hl 7 rfl) ?_
                      refine zz_labM (B := fun (lk : Nat) (K : Heap → List Loc → Array Slot → List Value → Prop) => ∀ (lm : Int32) (H : Heap) (locs : List Loc) (ls : Array Slot), lk = 0 → (lm.toInt ≤ 255 ∧ (r10.toInt = 0 → lm.toInt = r15.toInt)) → va_P D CL [((ma 30), .inl (cB, 40000, .inl nT)), ((ma 31), .inl (cI, 100, .inl nTS)), (h0, .inr (11, MO ma sv_thrown sv_length sv_nodes sv_many sv_directories sv_runsFrom sv_runs sv_read sv_wrong sv_isNamed sv_goes sv_goesSize sv_goesAt ltp jro)), ((ma 16), .inl (cJ, 46080, .inr (.inl F)))] H → va_D A [((ma 30), .inl (cB, 40000, .inl nT)), ((ma 31), .inl (cI, 100, .inl nTS)), (h0, .inr (11, MO ma sv_thrown sv_length sv_nodes sv_many sv_directories sv_runsFrom sv_runs sv_read sv_wrong sv_isNamed sv_goes sv_goesSize sv_goesAt ltp jro)), ((ma 16), .inl (cJ, 46080, .inr (.inl F)))] → va_S A s.heap H locs → lv_has ls 9 [(0, .ref h0), (1, .int x), (2, .int y), (3, .int z), (4, .int lq), (5, .int r10), (6, .int r15), (8, .int kx)] → K H locs ls [.int lm, .int kx]) 224 ?_ ?_
                      · skip
                        intro lk ih224 lm H locs ls hm224 f6 hP hD hS hl
                        refine lv_icmp_ge (tgt := 264) hx hb d_DiscMakerModel_targetGoesOn_224 (by decide) (fun h_9 => ?_) (fun h_9 => ?_)
                        · skip
                          have g224_58 : lm.toInt ≤ kx.toInt := (i_le rfl rfl).mp h_9
                          refine lv_aload_n hx hb d_DiscMakerModel_targetGoesOn_264 rfl (lv_at hl 0 rfl) ?_
                          refine lv_dup hx hb d_DiscMakerModel_targetGoesOn_265 rfl ?_
                          refine va_get (D := D) (ci := 11) (v := .int ltp) (C := "DiscMakerModel") (T := F_DiscMakerModel) (N := 48) hx hb ht9 in_DiscMakerModel hown hK hP 2 rfl rfl 46 (by decide) (ht9 _ k1477) (fun _ h9 => h9) rfl d_DiscMakerModel_targetGoesOn_266 ?_
                          refine lv_iconst (v := 1) hx hb d_DiscMakerModel_targetGoesOn_269 (by decide) ?_
                          refine lv_iadd hx hb d_DiscMakerModel_targetGoesOn_270 ?_
                          refine lv_topi (fun v22 e_v22 => ?_)
                          refine va_put (D := D) (ci := 11) (v := .int v22) (ty := .int) (C := "DiscMakerModel") (T := F_DiscMakerModel) (N := 48) hx hb ht9 in_DiscMakerModel t_DiscMakerModel t_DiscMakerModel_ok n_DiscMakerModel hown hK hP hD hS 2 rfl rfl 46 (by decide) (ht9 _ k1477) (fun _ h9 => h9) rfl (by decide +kernel) rfl rfl (Nat.le_of_ble_eq_true rfl) d_DiscMakerModel_targetGoesOn_271 (fun H locs hP hD hS => ?_)
                          have hP : va_P D CL [((ma 30), .inl (cB, 40000, .inl nT)), ((ma 31), .inl (cI, 100, .inl nTS)), (h0, .inr (11, MO ma sv_thrown sv_length sv_nodes sv_many sv_directories sv_runsFrom sv_runs sv_read sv_wrong sv_isNamed sv_goes sv_goesSize sv_goesAt v22 jro)), ((ma 16), .inl (cJ, 46080, .inr (.inl F)))] H := hP
                          have hD : va_D A [((ma 30), .inl (cB, 40000, .inl nT)), ((ma 31), .inl (cI, 100, .inl nTS)), (h0, .inr (11, MO ma sv_thrown sv_length sv_nodes sv_many sv_directories sv_runsFrom sv_runs sv_read sv_wrong sv_isNamed sv_goes sv_goesSize sv_goesAt v22 jro)), ((ma 16), .inl (cJ, 46080, .inr (.inl F)))] := hD
                          refine lv_iload hx hb d_DiscMakerModel_targetGoesOn_274 (lv_at hl 4 rfl) ?_
                          refine lv_iconst (v := 2) hx hb d_DiscMakerModel_targetGoesOn_276 (by decide) ?_
                          refine lv_iload hx hb d_DiscMakerModel_targetGoesOn_277 (lv_at hl 6 rfl) ?_
                          refine lv_iadd hx hb d_DiscMakerModel_targetGoesOn_279 ?_
                          refine lv_topi (fun v23 e_v23 => ?_)
                          have t_v23 : v23.toInt = 2 + r15.toInt := by rw [e_v23]; exact i_add (by decide) rfl (by omega) (by omega)
                          refine lv_iadd hx hb d_DiscMakerModel_targetGoesOn_280 ?_
                          refine lv_topi (fun v24 e_v24 => ?_)
                          have t_v24 : v24.toInt = lq.toInt + v23.toInt := by rw [e_v24]; exact i_add rfl rfl (by omega) (by omega)
                          refine lv_istore hx hb d_DiscMakerModel_targetGoesOn_281 hl (by decide) rfl (fun ls hl => ?_)
                          have hl : lv_has ls 9 [(4, .int v24), (0, .ref h0), (1, .int x), (2, .int y), (3, .int z), (5, .int r10), (6, .int r15), (8, .int kx)] := hl
                          refine lv_goto (tgt := 22) hx hb d_DiscMakerModel_targetGoesOn_283 (by decide) ?_
                          have hP := hP.sub (ws' := [((ma 30), .inl (cB, 40000, .inl nT)), ((ma 31), .inl (cI, 100, .inl nTS)), (h0, .inr (11, MO ma sv_thrown sv_length sv_nodes sv_many sv_directories sv_runsFrom sv_runs sv_read sv_wrong sv_isNamed sv_goes sv_goesSize sv_goesAt v22 jro)), ((ma 16), .inl (cJ, 46080, .inr (.inl F)))]) [0, 1, 2, 3] rfl
                          have hD := hD.sub (ws' := [((ma 30), .inl (cB, 40000, .inl nT)), ((ma 31), .inl (cI, 100, .inl nTS)), (h0, .inr (11, MO ma sv_thrown sv_length sv_nodes sv_many sv_directories sv_runsFrom sv_runs sv_read sv_wrong sv_isNamed sv_goes sv_goesSize sv_goesAt v22 jro)), ((ma 16), .inl (cJ, 46080, .inr (.inl F)))]) [0, 1, 2, 3] (by decide +kernel) rfl
                          have hl := lv_sub hl [1, 2, 3, 4, 0] rfl
                          exact ih22 _ (by first | omega | (dsimp only; omega)) v24 v22 jro nT nTS _ _ _ rfl ((by (try dsimp only); first | assumption | omega | trivial)) ((by (try dsimp only); first | assumption | omega | trivial)) hP hD hS hl
                        · skip
                          have g224_58 : ¬ lm.toInt ≤ kx.toInt := fun h8 => h_9 ((i_le rfl rfl).mpr h8)
                          refine lv_aload_n hx hb d_DiscMakerModel_targetGoesOn_227 rfl (lv_at hl 0 rfl) ?_
                          refine lv_iload_n hx hb d_DiscMakerModel_targetGoesOn_228 rfl (lv_at hl 1 rfl) ?_
                          refine zz_labM (B := fun (lk : Nat) (K : Heap → List Loc → Array Slot → List Value → Prop) => ∀ (ch : Int32) (H : Heap) (locs : List Loc) (ls : Array Slot), lk = 0 → va_P D CL [((ma 30), .inl (cB, 40000, .inl nT)), ((ma 31), .inl (cI, 100, .inl nTS)), (h0, .inr (11, MO ma sv_thrown sv_length sv_nodes sv_many sv_directories sv_runsFrom sv_runs sv_read sv_wrong sv_isNamed sv_goes sv_goesSize sv_goesAt ltp jro)), ((ma 16), .inl (cJ, 46080, .inr (.inl F)))] H → va_D A [((ma 30), .inl (cB, 40000, .inl nT)), ((ma 31), .inl (cI, 100, .inl nTS)), (h0, .inr (11, MO ma sv_thrown sv_length sv_nodes sv_many sv_directories sv_runsFrom sv_runs sv_read sv_wrong sv_isNamed sv_goes sv_goesSize sv_goesAt ltp jro)), ((ma 16), .inl (cJ, 46080, .inr (.inl F)))] → va_S A s.heap H locs → lv_has ls 9 [(0, .ref h0), (1, .int x), (2, .int y), (3, .int z), (4, .int lq), (5, .int r10), (6, .int r15), (8, .int kx)] → K H locs ls [.int ch, .int x, .ref h0]) 250 ?_ ?_
                          · skip
                            intro lk ih250 ch H locs ls hm250 hP hD hS hl
                            have hPc := hP.sub (ws' := [(h0, .inr (11, MO ma sv_thrown sv_length sv_nodes sv_many sv_directories sv_runsFrom sv_runs sv_read sv_wrong sv_isNamed sv_goes sv_goesSize sv_goesAt ltp jro)), ((ma 30), .inl (cB, 40000, .inl nT)), ((ma 31), .inl (cI, 100, .inl nTS))]) [2, 0, 1] rfl
                            have hDc := hD.sub (ws' := [(h0, .inr (11, MO ma sv_thrown sv_length sv_nodes sv_many sv_directories sv_runsFrom sv_runs sv_read sv_wrong sv_isNamed sv_goes sv_goesSize sv_goesAt ltp jro)), ((ma 30), .inl (cB, 40000, .inl nT)), ((ma 31), .inl (cI, 100, .inl nTS))]) [2, 0, 1] (by decide +kernel) rfl
                            have hFc := va_free (wc := [(h0, .inr (11, MO ma sv_thrown sv_length sv_nodes sv_many sv_directories sv_runsFrom sv_runs sv_read sv_wrong sv_isNamed sv_goes sv_goesSize sv_goesAt ltp jro)), ((ma 30), .inl (cB, 40000, .inl nT)), ((ma 31), .inl (cI, 100, .inl nTS))]) hD hS hA [2, 0, 1] rfl
                            have hkc : 0 ≤ 0 := by decide
                            have hks : 0 ≤ 0 := by decide
                            refine va_calli (va_runV (C := "DiscMakerModel") (As := [.int x, .int ch]) (rest := []) ⟨hx, hb, hml, hown, hts⟩ (m_letterOf l D cB cI cJ cZ cN cF H.size h0 ma sv_thrown sv_length sv_nodes sv_many sv_directories sv_runsFrom sv_runs sv_read sv_wrong sv_isNamed sv_goes sv_goesSize sv_goesAt ltp jro nT nTS x ch (by (try dsimp only); first | assumption | omega | trivial) (by (try dsimp only); first | assumption | omega | trivial)) (cwV 2 hts (lg_goodV k1882 k1884 k110 k125 kc_DiscMakerModel_letterOf) rfl rfl rfl (by decide +kernel) ⟨Nat.le_of_ble_eq_true rfl, Nat.le_of_ble_eq_true rfl⟩) ⟨fun a U g mk q => by obtain ⟨q0, q1, qP, qK, qN, qD⟩ := q; exact ⟨q0, q1, qP, va_K.moved (u := U) (U := U.calling g mk a) (Vm.Alike.refl U.vm) qK, qN.calling, qD⟩, va_recv hK hP (ci := 11) (q0 := 2) rfl rfl, fun U hU hW => ⟨rfl, by rw [hU], by rw [hU]; exact hPc, va_K.moved hW.alike hK, NN.warm hW hN, hDc.weaken (fun _ _ _ _ => trivial)⟩⟩ rfl rfl hl.1 rfl (lv_room (Nat.le_of_ble_eq_true rfl)) d_DiscMakerModel_targetGoesOn_250 ⟨hkc, hks⟩) hS (fun q _ h => hFc q h) hFc (fun r25 u t H1 locs ht hvm hp_r25 hB hz1 hk1 hS => ?_)
                            obtain ⟨gT_26, gTS_27⟩ := u
                            obtain ⟨hP1, hD1⟩ := hB
                            rw [ht] at hP1
                            obtain ⟨hP, hD⟩ := va_join (wr := [((ma 16), .inl (cJ, 46080, .inr (.inl F)))]) (w1 := [(h0, .inr (11, MO ma sv_thrown sv_length sv_nodes sv_many sv_directories sv_runsFrom sv_runs sv_read sv_wrong sv_isNamed sv_goes sv_goesSize sv_goesAt ltp jro)), ((ma 30), .inl (cB, 40000, .inl gT_26)), ((ma 31), .inl (cI, 100, .inl gTS_27))]) hP hD [2, 0, 1] [3] rfl rfl (by decide +kernel) (by decide +kernel) hk1 hFc hP1 hD1
                            clear hPc hDc hFc hP1 hD1 hk1 hz1 hkc hks
                            generalize H1 = H at hP hS ⊢
                            have hP : va_P D CL [((ma 16), .inl (cJ, 46080, .inr (.inl F))), (h0, .inr (11, MO ma sv_thrown sv_length sv_nodes sv_many sv_directories sv_runsFrom sv_runs sv_read sv_wrong sv_isNamed sv_goes sv_goesSize sv_goesAt ltp jro)), ((ma 30), .inl (cB, 40000, .inl gT_26)), ((ma 31), .inl (cI, 100, .inl gTS_27))] H := hP
                            have hD : va_D A [((ma 16), .inl (cJ, 46080, .inr (.inl F))), (h0, .inr (11, MO ma sv_thrown sv_length sv_nodes sv_many sv_directories sv_runsFrom sv_runs sv_read sv_wrong sv_isNamed sv_goes sv_goesSize sv_goesAt ltp jro)), ((ma 30), .inl (cB, 40000, .inl gT_26)), ((ma 31), .inl (cI, 100, .inl gTS_27))] := hD
                            try dsimp only at hp_r25
                            obtain ⟨hr_28, hgTS_29⟩ := hp_r25
                            refine lv_if_ne (tgt := 258) hx hb d_DiscMakerModel_targetGoesOn_253 (by decide) (fun h_9 => ?_) (fun h_9 => ?_)
                            · skip
                              have g253_76 : ¬ r25.toInt = 0 := fun h8 => h_9 ((i_eq rfl (by decide)).mpr h8)
                              obtain ⟨v30, e_v30⟩ : ∃ z : Int32, z = kx + 1 := ⟨_, rfl⟩
                              refine lv_iinc (v := v30) hx hb d_DiscMakerModel_targetGoesOn_258 hl (k := 7) rfl e_v30.symm (by decide +kernel) rfl (fun ls hl => ?_)
                              have t_v30 : v30.toInt = kx.toInt + 1 := by rw [e_v30]; exact i_add rfl (by decide) (by omega) (by omega)
                              have hl : lv_has ls 9 [(8, .int v30), (0, .ref h0), (1, .int x), (2, .int y), (3, .int z), (4, .int lq), (5, .int r10), (6, .int r15)] := hl
                              refine lv_goto (tgt := 200) hx hb d_DiscMakerModel_targetGoesOn_261 (by decide) ?_
                              have hP := hP.sub (ws' := [((ma 30), .inl (cB, 40000, .inl gT_26)), ((ma 31), .inl (cI, 100, .inl gTS_27)), (h0, .inr (11, MO ma sv_thrown sv_length sv_nodes sv_many sv_directories sv_runsFrom sv_runs sv_read sv_wrong sv_isNamed sv_goes sv_goesSize sv_goesAt ltp jro)), ((ma 16), .inl (cJ, 46080, .inr (.inl F)))]) [2, 3, 1, 0] rfl
                              have hD := hD.sub (ws' := [((ma 30), .inl (cB, 40000, .inl gT_26)), ((ma 31), .inl (cI, 100, .inl gTS_27)), (h0, .inr (11, MO ma sv_thrown sv_length sv_nodes sv_many sv_directories sv_runsFrom sv_runs sv_read sv_wrong sv_isNamed sv_goes sv_goesSize sv_goesAt ltp jro)), ((ma 16), .inl (cJ, 46080, .inr (.inl F)))]) [2, 3, 1, 0] (by decide +kernel) rfl
                              have hl := lv_sub hl [1, 2, 3, 4, 5, 6, 7, 0] rfl
                              exact ih200 _ (by first | omega | (dsimp only; omega)) v30 gT_26 gTS_27 _ _ _ rfl ((by (try dsimp only); first | assumption | omega | trivial)) ((by (try dsimp only); first | assumption | omega | trivial)) hP hD hS hl
                            · skip
                              have g253_76 : r25.toInt = 0 := (i_eq rfl (by decide)).mp h_9
                              refine lv_iconst (v := 0) hx hb d_DiscMakerModel_targetGoesOn_256 (by decide) ?_
                              have hP9 := hP.sub (ws' := [(h0, .inr (11, MO ma sv_thrown sv_length sv_nodes sv_many sv_directories sv_runsFrom sv_runs sv_read sv_wrong sv_isNamed sv_goes sv_goesSize sv_goesAt ltp jro)), ((ma 16), .inl (cJ, 46080, .inr (.inl F))), ((ma 30), .inl (cB, 40000, .inl gT_26)), ((ma 31), .inl (cI, 100, .inl gTS_27))]) [1, 0, 2, 3] rfl
                              have hD9 := hD.sub (ws' := [(h0, .inr (11, MO ma sv_thrown sv_length sv_nodes sv_many sv_directories sv_runsFrom sv_runs sv_read sv_wrong sv_isNamed sv_goes sv_goesSize sv_goesAt ltp jro)), ((ma 16), .inl (cJ, 46080, .inr (.inl F))), ((ma 30), .inl (cB, 40000, .inl gT_26)), ((ma 31), .inl (cI, 100, .inl gTS_27))]) [1, 0, 2, 3] (by decide +kernel) rfl
                              exact W.zret (v := 0) hx hb hr (by first | rfl | decide | exact i_narZ (by omega)) (fun t ht hW => ⟨⟨0, (ltp, jro, gT_26, gTS_27), rfl, ⟨(by (try dsimp only); first | assumption | omega | trivial), (by (try dsimp only); first | assumption | omega | trivial)⟩, by rw [ht]; exact hP9, hD9⟩, hS.F ht⟩) hS.2.2 d_DiscMakerModel_targetGoesOn_257
                          · skip
                            intro kk250
                            refine lv_iload hx hb d_DiscMakerModel_targetGoesOn_229 (lv_at hl 5 rfl) ?_
                            refine lv_if_ne (tgt := 248) hx hb d_DiscMakerModel_targetGoesOn_231 (by decide) (fun h_9 => ?_) (fun h_9 => ?_)
                            · skip
                              have g231_83 : ¬ r10.toInt = 0 := fun h8 => h_9 ((i_eq rfl (by decide)).mpr h8)
                              refine lv_bipush (v := 46) hx hb d_DiscMakerModel_targetGoesOn_248 (by decide) ?_
                              have hP := hP.sub (ws' := [((ma 30), .inl (cB, 40000, .inl nT)), ((ma 31), .inl (cI, 100, .inl nTS)), (h0, .inr (11, MO ma sv_thrown sv_length sv_nodes sv_many sv_directories sv_runsFrom sv_runs sv_read sv_wrong sv_isNamed sv_goes sv_goesSize sv_goesAt ltp jro)), ((ma 16), .inl (cJ, 46080, .inr (.inl F)))]) [0, 1, 2, 3] rfl
                              have hD := hD.sub (ws' := [((ma 30), .inl (cB, 40000, .inl nT)), ((ma 31), .inl (cI, 100, .inl nTS)), (h0, .inr (11, MO ma sv_thrown sv_length sv_nodes sv_many sv_directories sv_runsFrom sv_runs sv_read sv_wrong sv_isNamed sv_goes sv_goesSize sv_goesAt ltp jro)), ((ma 16), .inl (cJ, 46080, .inr (.inl F)))]) [0, 1, 2, 3] (by decide +kernel) rfl
                              have hl := lv_sub hl [0, 1, 2, 3, 4, 5, 6, 7] rfl
                              exact kk250 _ 46 _ _ _ rfl  hP hD hS hl
                            · skip
                              have g231_83 : r10.toInt = 0 := (i_eq rfl (by decide)).mp h_9
                              refine lv_aload_n hx hb d_DiscMakerModel_targetGoesOn_234 rfl (lv_at hl 0 rfl) ?_
                              refine lv_iload hx hb d_DiscMakerModel_targetGoesOn_235 (lv_at hl 4 rfl) ?_
                              refine lv_iconst (v := 2) hx hb d_DiscMakerModel_targetGoesOn_237 (by decide) ?_
                              refine lv_iadd hx hb d_DiscMakerModel_targetGoesOn_238 ?_
                              refine lv_topi (fun v31 e_v31 => ?_)
                              have t_v31 : v31.toInt = lq.toInt + 2 := by rw [e_v31]; exact i_add rfl (by decide) (by omega) (by omega)
                              refine lv_iload hx hb d_DiscMakerModel_targetGoesOn_239 (lv_at hl 7 rfl) ?_
                              refine lv_iadd hx hb d_DiscMakerModel_targetGoesOn_241 ?_
                              refine lv_topi (fun v32 e_v32 => ?_)
                              have t_v32 : v32.toInt = v31.toInt + kx.toInt := by rw [e_v32]; exact i_add rfl rfl (by omega) (by omega)
                              have hPc := hP.sub (ws' := [(h0, .inr (11, MO ma sv_thrown sv_length sv_nodes sv_many sv_directories sv_runsFrom sv_runs sv_read sv_wrong sv_isNamed sv_goes sv_goesSize sv_goesAt ltp jro)), ((ma 16), .inl (cJ, 46080, .inr (.inl F)))]) [2, 3] rfl
                              have hDc := hD.sub (ws' := [(h0, .inr (11, MO ma sv_thrown sv_length sv_nodes sv_many sv_directories sv_runsFrom sv_runs sv_read sv_wrong sv_isNamed sv_goes sv_goesSize sv_goesAt ltp jro)), ((ma 16), .inl (cJ, 46080, .inr (.inl F)))]) [2, 3] (by decide +kernel) rfl
                              have hFc := va_free (wc := [(h0, .inr (11, MO ma sv_thrown sv_length sv_nodes sv_many sv_directories sv_runsFrom sv_runs sv_read sv_wrong sv_isNamed sv_goes sv_goesSize sv_goesAt ltp jro)), ((ma 16), .inl (cJ, 46080, .inr (.inl F)))]) hD hS hA [2, 3] rfl
                              have hkc : 0 ≤ 0 := by decide
                              have hks : 0 ≤ 0 := by decide
                              refine va_calli (va_runV (C := "DiscMakerModel") (As := [.int v32]) (rest := [.int x, .ref h0]) ⟨hx, hb, hml, hown, hts⟩ (m_at l D cB cI cJ cZ cN cF H.size h0 ma sv_thrown sv_length sv_nodes sv_many sv_directories sv_runsFrom sv_runs sv_read sv_wrong sv_isNamed sv_goes sv_goesSize sv_goesAt ltp jro F v32 (by (try dsimp only); first | assumption | omega | trivial) (by (try dsimp only); first | assumption | omega | trivial)) (cwV 1 hts (lg_goodV k1809 k1811 k95 k125 kc_DiscMakerModel_at) rfl rfl rfl (by decide +kernel) ⟨Nat.le_of_ble_eq_true rfl, Nat.le_of_ble_eq_true rfl⟩) ⟨fun a U g mk q => by obtain ⟨q0, q1, qP, qK, qN, qD⟩ := q; exact ⟨q0, q1, qP, va_K.moved (u := U) (U := U.calling g mk a) (Vm.Alike.refl U.vm) qK, qN.calling, qD⟩, va_recv hK hP (ci := 11) (q0 := 2) rfl rfl, fun U hU hW => ⟨rfl, by rw [hU], by rw [hU]; exact hPc, va_K.moved hW.alike hK, NN.warm hW hN, hDc.weaken (fun _ _ _ _ => trivial)⟩⟩ rfl rfl hl.1 rfl (lv_room (Nat.le_of_ble_eq_true rfl)) d_DiscMakerModel_targetGoesOn_242 ⟨hkc, hks⟩) hS (fun q _ h => hFc q h) hFc (fun r33 u t H1 locs ht hvm hp_r33 hB hz1 hk1 hS => ?_)
                              obtain ⟨hP1, hD1⟩ := hB
                              rw [ht] at hP1
                              obtain ⟨hP, hD⟩ := va_join (wr := [((ma 30), .inl (cB, 40000, .inl nT)), ((ma 31), .inl (cI, 100, .inl nTS))]) (w1 := [(h0, .inr (11, MO ma sv_thrown sv_length sv_nodes sv_many sv_directories sv_runsFrom sv_runs sv_read sv_wrong sv_isNamed sv_goes sv_goesSize sv_goesAt ltp jro)), ((ma 16), .inl (cJ, 46080, .inr (.inl F)))]) hP hD [2, 3] [0, 1] rfl rfl (by decide +kernel) (by decide +kernel) hk1 hFc hP1 hD1
                              clear hPc hDc hFc hP1 hD1 hk1 hz1 hkc hks
                              generalize H1 = H at hP hS ⊢
                              have hP : va_P D CL [((ma 30), .inl (cB, 40000, .inl nT)), ((ma 31), .inl (cI, 100, .inl nTS)), (h0, .inr (11, MO ma sv_thrown sv_length sv_nodes sv_many sv_directories sv_runsFrom sv_runs sv_read sv_wrong sv_isNamed sv_goes sv_goesSize sv_goesAt ltp jro)), ((ma 16), .inl (cJ, 46080, .inr (.inl F)))] H := hP
                              have hD : va_D A [((ma 30), .inl (cB, 40000, .inl nT)), ((ma 31), .inl (cI, 100, .inl nTS)), (h0, .inr (11, MO ma sv_thrown sv_length sv_nodes sv_many sv_directories sv_runsFrom sv_runs sv_read sv_wrong sv_isNamed sv_goes sv_goesSize sv_goesAt ltp jro)), ((ma 16), .inl (cJ, 46080, .inr (.inl F)))] := hD
                              try dsimp only at hp_r33
                              obtain ⟨hr_34, hv_35, hw_36⟩ := hp_r33
                              refine lv_goto (tgt := 250) hx hb d_DiscMakerModel_targetGoesOn_245 (by decide) ?_
                              have hP := hP.sub (ws' := [((ma 30), .inl (cB, 40000, .inl nT)), ((ma 31), .inl (cI, 100, .inl nTS)), (h0, .inr (11, MO ma sv_thrown sv_length sv_nodes sv_many sv_directories sv_runsFrom sv_runs sv_read sv_wrong sv_isNamed sv_goes sv_goesSize sv_goesAt ltp jro)), ((ma 16), .inl (cJ, 46080, .inr (.inl F)))]) [0, 1, 2, 3] rfl
                              have hD := hD.sub (ws' := [((ma 30), .inl (cB, 40000, .inl nT)), ((ma 31), .inl (cI, 100, .inl nTS)), (h0, .inr (11, MO ma sv_thrown sv_length sv_nodes sv_many sv_directories sv_runsFrom sv_runs sv_read sv_wrong sv_isNamed sv_goes sv_goesSize sv_goesAt ltp jro)), ((ma 16), .inl (cJ, 46080, .inr (.inl F)))]) [0, 1, 2, 3] (by decide +kernel) rfl
                              have hl := lv_sub hl [0, 1, 2, 3, 4, 5, 6, 7] rfl
                              exact kk250 _ r33 _ _ _ rfl  hP hD hS hl
                      · skip
                        intro kk224
                        refine lv_iload hx hb d_DiscMakerModel_targetGoesOn_202 (lv_at hl 5 rfl) ?_
                        refine lv_iconst (v := 2) hx hb d_DiscMakerModel_targetGoesOn_204 (by decide) ?_
                        refine lv_icmp_ne (tgt := 212) hx hb d_DiscMakerModel_targetGoesOn_205 (by decide) (fun h_9 => ?_) (fun h_9 => ?_)
                        · skip
                          have g205_97 : ¬ r10.toInt = 2 := fun h8 => h_9 ((i_eq rfl (by decide)).mpr h8)
                          refine lv_iload hx hb d_DiscMakerModel_targetGoesOn_212 (lv_at hl 5 rfl) ?_
                          refine lv_iconst (v := 4) hx hb d_DiscMakerModel_targetGoesOn_214 (by decide) ?_
                          refine lv_icmp_ne (tgt := 222) hx hb d_DiscMakerModel_targetGoesOn_215 (by decide) (fun h_9 => ?_) (fun h_9 => ?_)
                          · skip
                            have g215_100 : ¬ r10.toInt = 4 := fun h8 => h_9 ((i_eq rfl (by decide)).mpr h8)
                            refine lv_iload hx hb d_DiscMakerModel_targetGoesOn_222 (lv_at hl 6 rfl) ?_
                            have hP := hP.sub (ws' := [((ma 30), .inl (cB, 40000, .inl nT)), ((ma 31), .inl (cI, 100, .inl nTS)), (h0, .inr (11, MO ma sv_thrown sv_length sv_nodes sv_many sv_directories sv_runsFrom sv_runs sv_read sv_wrong sv_isNamed sv_goes sv_goesSize sv_goesAt ltp jro)), ((ma 16), .inl (cJ, 46080, .inr (.inl F)))]) [0, 1, 2, 3] rfl
                            have hD := hD.sub (ws' := [((ma 30), .inl (cB, 40000, .inl nT)), ((ma 31), .inl (cI, 100, .inl nTS)), (h0, .inr (11, MO ma sv_thrown sv_length sv_nodes sv_many sv_directories sv_runsFrom sv_runs sv_read sv_wrong sv_isNamed sv_goes sv_goesSize sv_goesAt ltp jro)), ((ma 16), .inl (cJ, 46080, .inr (.inl F)))]) [0, 1, 2, 3] (by decide +kernel) rfl
                            have hl := lv_sub hl [0, 1, 2, 3, 4, 5, 6, 7] rfl
                            exact kk224 _ r15 _ _ _ rfl ((by (try dsimp only); first | assumption | omega | trivial)) hP hD hS hl
                          · skip
                            have g215_100 : r10.toInt = 4 := (i_eq rfl (by decide)).mp h_9
                            refine lv_iconst (v := 2) hx hb d_DiscMakerModel_targetGoesOn_218 (by decide) ?_
                            refine lv_goto (tgt := 224) hx hb d_DiscMakerModel_targetGoesOn_219 (by decide) ?_
                            have hP := hP.sub (ws' := [((ma 30), .inl (cB, 40000, .inl nT)), ((ma 31), .inl (cI, 100, .inl nTS)), (h0, .inr (11, MO ma sv_thrown sv_length sv_nodes sv_many sv_directories sv_runsFrom sv_runs sv_read sv_wrong sv_isNamed sv_goes sv_goesSize sv_goesAt ltp jro)), ((ma 16), .inl (cJ, 46080, .inr (.inl F)))]) [0, 1, 2, 3] rfl
                            have hD := hD.sub (ws' := [((ma 30), .inl (cB, 40000, .inl nT)), ((ma 31), .inl (cI, 100, .inl nTS)), (h0, .inr (11, MO ma sv_thrown sv_length sv_nodes sv_many sv_directories sv_runsFrom sv_runs sv_read sv_wrong sv_isNamed sv_goes sv_goesSize sv_goesAt ltp jro)), ((ma 16), .inl (cJ, 46080, .inr (.inl F)))]) [0, 1, 2, 3] (by decide +kernel) rfl
                            have hl := lv_sub hl [0, 1, 2, 3, 4, 5, 6, 7] rfl
                            exact kk224 _ 2 _ _ _ rfl ((by (try dsimp only); first | assumption | omega | trivial)) hP hD hS hl
                        · skip
                          have g205_97 : r10.toInt = 2 := (i_eq rfl (by decide)).mp h_9
                          refine lv_iconst (v := 1) hx hb d_DiscMakerModel_targetGoesOn_208 (by decide) ?_
                          refine lv_goto (tgt := 224) hx hb d_DiscMakerModel_targetGoesOn_209 (by decide) ?_
                          have hP := hP.sub (ws' := [((ma 30), .inl (cB, 40000, .inl nT)), ((ma 31), .inl (cI, 100, .inl nTS)), (h0, .inr (11, MO ma sv_thrown sv_length sv_nodes sv_many sv_directories sv_runsFrom sv_runs sv_read sv_wrong sv_isNamed sv_goes sv_goesSize sv_goesAt ltp jro)), ((ma 16), .inl (cJ, 46080, .inr (.inl F)))]) [0, 1, 2, 3] rfl
                          have hD := hD.sub (ws' := [((ma 30), .inl (cB, 40000, .inl nT)), ((ma 31), .inl (cI, 100, .inl nTS)), (h0, .inr (11, MO ma sv_thrown sv_length sv_nodes sv_many sv_directories sv_runsFrom sv_runs sv_read sv_wrong sv_isNamed sv_goes sv_goesSize sv_goesAt ltp jro)), ((ma 16), .inl (cJ, 46080, .inr (.inl F)))]) [0, 1, 2, 3] (by decide +kernel) rfl
                          have hl := lv_sub hl [0, 1, 2, 3, 4, 5, 6, 7] rfl
                          exact kk224 _ 1 _ _ _ rfl ((by (try dsimp only); first | assumption | omega | trivial)) hP hD hS hl
                    · skip
                      intro kk200
                      have hP := hP.sub (ws' := [((ma 30), .inl (cB, 40000, .inl jT)), ((ma 31), .inl (cI, 100, .inl jTS)), (h0, .inr (11, MO ma sv_thrown sv_length sv_nodes sv_many sv_directories sv_runsFrom sv_runs sv_read sv_wrong sv_isNamed sv_goes sv_goesSize sv_goesAt ltp jro)), ((ma 16), .inl (cJ, 46080, .inr (.inl F)))]) [0, 1, 2, 3] rfl
                      have hD := hD.sub (ws' := [((ma 30), .inl (cB, 40000, .inl jT)), ((ma 31), .inl (cI, 100, .inl jTS)), (h0, .inr (11, MO ma sv_thrown sv_length sv_nodes sv_many sv_directories sv_runsFrom sv_runs sv_read sv_wrong sv_isNamed sv_goes sv_goesSize sv_goesAt ltp jro)), ((ma 16), .inl (cJ, 46080, .inr (.inl F)))]) [0, 1, 2, 3] (by decide +kernel) rfl
                      have hl := lv_sub hl [1, 2, 3, 4, 5, 6, 7, 0] rfl
                      exact kk200 _ 0 jT jTS _ _ _ rfl ((by (try dsimp only); first | assumption | omega | trivial)) ((by (try dsimp only); first | assumption | omega | trivial)) hP hD hS hl
                  · skip
                    intro kk197
                    refine lv_istore hx hb d_DiscMakerModel_targetGoesOn_136 hl (by decide) rfl (fun ls hl => ?_)
                    have hl : lv_has ls 9 [(7, .int 0), (0, .ref h0), (1, .int x), (2, .int y), (3, .int z), (4, .int lq), (5, .int r10), (6, .int r15)] := hl
                    refine zz_labM (B := fun (lk : Nat) (K : Heap → List Loc → Array Slot → List Value → Prop) => ∀ (jr : Int32) (H : Heap) (locs : List Loc) (ls : Array Slot), lk = 0 → (0 ≤ jr.toInt ∧ jr.toInt ≤ 1) → va_P D CL [((ma 30), .inl (cB, 40000, .inl lT)), ((ma 31), .inl (cI, 100, .inl lTS)), (h0, .inr (11, MO ma sv_thrown sv_length sv_nodes sv_many sv_directories sv_runsFrom sv_runs sv_read sv_wrong sv_isNamed sv_goes sv_goesSize sv_goesAt ltp lro)), ((ma 16), .inl (cJ, 46080, .inr (.inl F)))] H → va_D A [((ma 30), .inl (cB, 40000, .inl lT)), ((ma 31), .inl (cI, 100, .inl lTS)), (h0, .inr (11, MO ma sv_thrown sv_length sv_nodes sv_many sv_directories sv_runsFrom sv_runs sv_read sv_wrong sv_isNamed sv_goes sv_goesSize sv_goesAt ltp lro)), ((ma 16), .inl (cJ, 46080, .inr (.inl F)))] → va_S A s.heap H locs → lv_has ls 9 [(0, .ref h0), (1, .int x), (2, .int y), (3, .int z), (4, .int lq), (5, .int r10), (6, .int r15), (7, .int 0)] → K H locs ls [.int jr, .ref h0]) 158 ?_ ?_
                    · skip
                      intro lk ih158 jr H locs ls hm158 f5 hP hD hS hl
                      refine va_put (D := D) (ci := 11) (v := .int jr) (ty := .boolean) (C := "DiscMakerModel") (T := F_DiscMakerModel) (N := 48) hx hb ht9 in_DiscMakerModel t_DiscMakerModel t_DiscMakerModel_ok n_DiscMakerModel hown hK hP hD hS 2 rfl rfl 47 (by decide) (ht9 _ k1478) (fun _ h9 => h9) rfl (by decide +kernel) (i_narZ (by omega)) (i_fitZ (by omega)) (Nat.le_of_ble_eq_true rfl) d_DiscMakerModel_targetGoesOn_158 (fun H locs hP hD hS => ?_)
                      have hP : va_P D CL [((ma 30), .inl (cB, 40000, .inl lT)), ((ma 31), .inl (cI, 100, .inl lTS)), (h0, .inr (11, MO ma sv_thrown sv_length sv_nodes sv_many sv_directories sv_runsFrom sv_runs sv_read sv_wrong sv_isNamed sv_goes sv_goesSize sv_goesAt ltp jr)), ((ma 16), .inl (cJ, 46080, .inr (.inl F)))] H := hP
                      have hD : va_D A [((ma 30), .inl (cB, 40000, .inl lT)), ((ma 31), .inl (cI, 100, .inl lTS)), (h0, .inr (11, MO ma sv_thrown sv_length sv_nodes sv_many sv_directories sv_runsFrom sv_runs sv_read sv_wrong sv_isNamed sv_goes sv_goesSize sv_goesAt ltp jr)), ((ma 16), .inl (cJ, 46080, .inr (.inl F)))] := hD
                      refine zz_labM (B := fun (lk : Nat) (K : Heap → List Loc → Array Slot → List Value → Prop) => ∀ (iT : Nat → Int32) (iTS : Nat → Int32) (H : Heap) (locs : List Loc) (ls : Array Slot), lk = 0 → (Rg 0 400 100 iTS) → va_P D CL [((ma 30), .inl (cB, 40000, .inl iT)), ((ma 31), .inl (cI, 100, .inl iTS)), (h0, .inr (11, MO ma sv_thrown sv_length sv_nodes sv_many sv_directories sv_runsFrom sv_runs sv_read sv_wrong sv_isNamed sv_goes sv_goesSize sv_goesAt ltp jr)), ((ma 16), .inl (cJ, 46080, .inr (.inl F)))] H → va_D A [((ma 30), .inl (cB, 40000, .inl iT)), ((ma 31), .inl (cI, 100, .inl iTS)), (h0, .inr (11, MO ma sv_thrown sv_length sv_nodes sv_many sv_directories sv_runsFrom sv_runs sv_read sv_wrong sv_isNamed sv_goes sv_goesSize sv_goesAt ltp jr)), ((ma 16), .inl (cJ, 46080, .inr (.inl F)))] → va_S A s.heap H locs → lv_has ls 9 [(0, .ref h0), (1, .int x), (2, .int y), (3, .int z), (4, .int lq), (5, .int r10), (6, .int r15), (7, .int 0)] → K H locs ls []) 178 ?_ ?_
                      · skip
                        intro lk ih178 iT iTS H locs ls hm178 hiTS hP hD hS hl
                        refine lv_aload_n hx hb d_DiscMakerModel_targetGoesOn_178 rfl (lv_at hl 0 rfl) ?_
                        refine va_get (D := D) (ci := 11) (v := .int jr) (C := "DiscMakerModel") (T := F_DiscMakerModel) (N := 48) hx hb ht9 in_DiscMakerModel hown hK hP 2 rfl rfl 47 (by decide) (ht9 _ k1478) (fun _ h9 => h9) rfl d_DiscMakerModel_targetGoesOn_179 ?_
                        refine lv_if_eq (tgt := 197) hx hb d_DiscMakerModel_targetGoesOn_182 (by decide) (fun h_9 => ?_) (fun h_9 => ?_)
                        · skip
                          have g182_113 : jr.toInt = 0 := (i_eq rfl (by decide)).mp h_9
                          have hP := hP.sub (ws' := [((ma 30), .inl (cB, 40000, .inl iT)), ((ma 31), .inl (cI, 100, .inl iTS)), (h0, .inr (11, MO ma sv_thrown sv_length sv_nodes sv_many sv_directories sv_runsFrom sv_runs sv_read sv_wrong sv_isNamed sv_goes sv_goesSize sv_goesAt ltp jr)), ((ma 16), .inl (cJ, 46080, .inr (.inl F)))]) [0, 1, 2, 3] rfl
                          have hD := hD.sub (ws' := [((ma 30), .inl (cB, 40000, .inl iT)), ((ma 31), .inl (cI, 100, .inl iTS)), (h0, .inr (11, MO ma sv_thrown sv_length sv_nodes sv_many sv_directories sv_runsFrom sv_runs sv_read sv_wrong sv_isNamed sv_goes sv_goesSize sv_goesAt ltp jr)), ((ma 16), .inl (cJ, 46080, .inr (.inl F)))]) [0, 1, 2, 3] (by decide +kernel) rfl
                          have hl := lv_sub hl [0, 1, 2, 3, 4, 5, 6] rfl
                          exact kk197 _ jr iT iTS _ _ _ rfl ((by (try dsimp only); first | assumption | omega | trivial)) hP hD hS hl
                        · skip
                          have g182_113 : ¬ jr.toInt = 0 := fun h8 => h_9 ((i_eq rfl (by decide)).mpr h8)
                          refine lv_aload_n hx hb d_DiscMakerModel_targetGoesOn_185 rfl (lv_at hl 0 rfl) ?_
                          refine lv_iload_n hx hb d_DiscMakerModel_targetGoesOn_186 rfl (lv_at hl 1 rfl) ?_
                          refine lv_bipush (v := 47) hx hb d_DiscMakerModel_targetGoesOn_187 (by decide) ?_
                          have hPc := hP.sub (ws' := [(h0, .inr (11, MO ma sv_thrown sv_length sv_nodes sv_many sv_directories sv_runsFrom sv_runs sv_read sv_wrong sv_isNamed sv_goes sv_goesSize sv_goesAt ltp jr)), ((ma 30), .inl (cB, 40000, .inl iT)), ((ma 31), .inl (cI, 100, .inl iTS))]) [2, 0, 1] rfl
                          have hDc := hD.sub (ws' := [(h0, .inr (11, MO ma sv_thrown sv_length sv_nodes sv_many sv_directories sv_runsFrom sv_runs sv_read sv_wrong sv_isNamed sv_goes sv_goesSize sv_goesAt ltp jr)), ((ma 30), .inl (cB, 40000, .inl iT)), ((ma 31), .inl (cI, 100, .inl iTS))]) [2, 0, 1] (by decide +kernel) rfl
                          have hFc := va_free (wc := [(h0, .inr (11, MO ma sv_thrown sv_length sv_nodes sv_many sv_directories sv_runsFrom sv_runs sv_read sv_wrong sv_isNamed sv_goes sv_goesSize sv_goesAt ltp jr)), ((ma 30), .inl (cB, 40000, .inl iT)), ((ma 31), .inl (cI, 100, .inl iTS))]) hD hS hA [2, 0, 1] rfl
                          have hkc : 0 ≤ 0 := by decide
                          have hks : 0 ≤ 0 := by decide
                          refine va_calli (va_runV (C := "DiscMakerModel") (As := [.int x, .int 47]) (rest := []) ⟨hx, hb, hml, hown, hts⟩ (m_letterOf l D cB cI cJ cZ cN cF H.size h0 ma sv_thrown sv_length sv_nodes sv_many sv_directories sv_runsFrom sv_runs sv_read sv_wrong sv_isNamed sv_goes sv_goesSize sv_goesAt ltp jr iT iTS x 47 (by (try dsimp only); first | assumption | omega | trivial) (by (try dsimp only); first | assumption | omega | trivial)) (cwV 2 hts (lg_goodV k1882 k1884 k110 k125 kc_DiscMakerModel_letterOf) rfl rfl rfl (by decide +kernel) ⟨Nat.le_of_ble_eq_true rfl, Nat.le_of_ble_eq_true rfl⟩) ⟨fun a U g mk q => by obtain ⟨q0, q1, qP, qK, qN, qD⟩ := q; exact ⟨q0, q1, qP, va_K.moved (u := U) (U := U.calling g mk a) (Vm.Alike.refl U.vm) qK, qN.calling, qD⟩, va_recv hK hP (ci := 11) (q0 := 2) rfl rfl, fun U hU hW => ⟨rfl, by rw [hU], by rw [hU]; exact hPc, va_K.moved hW.alike hK, NN.warm hW hN, hDc.weaken (fun _ _ _ _ => trivial)⟩⟩ rfl rfl hl.1 rfl (lv_room (Nat.le_of_ble_eq_true rfl)) d_DiscMakerModel_targetGoesOn_189 ⟨hkc, hks⟩) hS (fun q _ h => hFc q h) hFc (fun r37 u t H1 locs ht hvm hp_r37 hB hz1 hk1 hS => ?_)
                          obtain ⟨gT_38, gTS_39⟩ := u
                          obtain ⟨hP1, hD1⟩ := hB
                          rw [ht] at hP1
                          obtain ⟨hP, hD⟩ := va_join (wr := [((ma 16), .inl (cJ, 46080, .inr (.inl F)))]) (w1 := [(h0, .inr (11, MO ma sv_thrown sv_length sv_nodes sv_many sv_directories sv_runsFrom sv_runs sv_read sv_wrong sv_isNamed sv_goes sv_goesSize sv_goesAt ltp jr)), ((ma 30), .inl (cB, 40000, .inl gT_38)), ((ma 31), .inl (cI, 100, .inl gTS_39))]) hP hD [2, 0, 1] [3] rfl rfl (by decide +kernel) (by decide +kernel) hk1 hFc hP1 hD1
                          clear hPc hDc hFc hP1 hD1 hk1 hz1 hkc hks
                          generalize H1 = H at hP hS ⊢
                          have hP : va_P D CL [((ma 16), .inl (cJ, 46080, .inr (.inl F))), (h0, .inr (11, MO ma sv_thrown sv_length sv_nodes sv_many sv_directories sv_runsFrom sv_runs sv_read sv_wrong sv_isNamed sv_goes sv_goesSize sv_goesAt ltp jr)), ((ma 30), .inl (cB, 40000, .inl gT_38)), ((ma 31), .inl (cI, 100, .inl gTS_39))] H := hP
                          have hD : va_D A [((ma 16), .inl (cJ, 46080, .inr (.inl F))), (h0, .inr (11, MO ma sv_thrown sv_length sv_nodes sv_many sv_directories sv_runsFrom sv_runs sv_read sv_wrong sv_isNamed sv_goes sv_goesSize sv_goesAt ltp jr)), ((ma 30), .inl (cB, 40000, .inl gT_38)), ((ma 31), .inl (cI, 100, .inl gTS_39))] := hD
                          try dsimp only at hp_r37
                          obtain ⟨hr_40, hgTS_41⟩ := hp_r37
                          refine lv_if_ne (tgt := 197) hx hb d_DiscMakerModel_targetGoesOn_192 (by decide) (fun h_9 => ?_) (fun h_9 => ?_)
                          · skip
                            have g192_119 : ¬ r37.toInt = 0 := fun h8 => h_9 ((i_eq rfl (by decide)).mpr h8)
                            have hP := hP.sub (ws' := [((ma 30), .inl (cB, 40000, .inl gT_38)), ((ma 31), .inl (cI, 100, .inl gTS_39)), (h0, .inr (11, MO ma sv_thrown sv_length sv_nodes sv_many sv_directories sv_runsFrom sv_runs sv_read sv_wrong sv_isNamed sv_goes sv_goesSize sv_goesAt ltp jr)), ((ma 16), .inl (cJ, 46080, .inr (.inl F)))]) [2, 3, 1, 0] rfl
                            have hD := hD.sub (ws' := [((ma 30), .inl (cB, 40000, .inl gT_38)), ((ma 31), .inl (cI, 100, .inl gTS_39)), (h0, .inr (11, MO ma sv_thrown sv_length sv_nodes sv_many sv_directories sv_runsFrom sv_runs sv_read sv_wrong sv_isNamed sv_goes sv_goesSize sv_goesAt ltp jr)), ((ma 16), .inl (cJ, 46080, .inr (.inl F)))]) [2, 3, 1, 0] (by decide +kernel) rfl
                            have hl := lv_sub hl [0, 1, 2, 3, 4, 5, 6] rfl
                            exact kk197 _ jr gT_38 gTS_39 _ _ _ rfl ((by (try dsimp only); first | assumption | omega | trivial)) hP hD hS hl
                          · skip
                            have g192_119 : r37.toInt = 0 := (i_eq rfl (by decide)).mp h_9
                            refine lv_iconst (v := 0) hx hb d_DiscMakerModel_targetGoesOn_195 (by decide) ?_
                            have hP9 := hP.sub (ws' := [(h0, .inr (11, MO ma sv_thrown sv_length sv_nodes sv_many sv_directories sv_runsFrom sv_runs sv_read sv_wrong sv_isNamed sv_goes sv_goesSize sv_goesAt ltp jr)), ((ma 16), .inl (cJ, 46080, .inr (.inl F))), ((ma 30), .inl (cB, 40000, .inl gT_38)), ((ma 31), .inl (cI, 100, .inl gTS_39))]) [1, 0, 2, 3] rfl
                            have hD9 := hD.sub (ws' := [(h0, .inr (11, MO ma sv_thrown sv_length sv_nodes sv_many sv_directories sv_runsFrom sv_runs sv_read sv_wrong sv_isNamed sv_goes sv_goesSize sv_goesAt ltp jr)), ((ma 16), .inl (cJ, 46080, .inr (.inl F))), ((ma 30), .inl (cB, 40000, .inl gT_38)), ((ma 31), .inl (cI, 100, .inl gTS_39))]) [1, 0, 2, 3] (by decide +kernel) rfl
                            exact W.zret (v := 0) hx hb hr (by first | rfl | decide | exact i_narZ (by omega)) (fun t ht hW => ⟨⟨0, (ltp, jr, gT_38, gTS_39), rfl, ⟨(by (try dsimp only); first | assumption | omega | trivial), (by (try dsimp only); first | assumption | omega | trivial)⟩, by rw [ht]; exact hP9, hD9⟩, hS.F ht⟩) hS.2.2 d_DiscMakerModel_targetGoesOn_196
                      · skip
                        intro kk178
                        refine lv_iload hx hb d_DiscMakerModel_targetGoesOn_161 (lv_at hl 7 rfl) ?_
                        refine lv_if_eq (tgt := 178) hx hb d_DiscMakerModel_targetGoesOn_163 (by decide) (fun _ => ?_) (fun h_9 => absurd (by decide) h_9)
                        have hP := hP.sub (ws' := [((ma 30), .inl (cB, 40000, .inl lT)), ((ma 31), .inl (cI, 100, .inl lTS)), (h0, .inr (11, MO ma sv_thrown sv_length sv_nodes sv_many sv_directories sv_runsFrom sv_runs sv_read sv_wrong sv_isNamed sv_goes sv_goesSize sv_goesAt ltp jr)), ((ma 16), .inl (cJ, 46080, .inr (.inl F)))]) [0, 1, 2, 3] rfl
                        have hD := hD.sub (ws' := [((ma 30), .inl (cB, 40000, .inl lT)), ((ma 31), .inl (cI, 100, .inl lTS)), (h0, .inr (11, MO ma sv_thrown sv_length sv_nodes sv_many sv_directories sv_runsFrom sv_runs sv_read sv_wrong sv_isNamed sv_goes sv_goesSize sv_goesAt ltp jr)), ((ma 16), .inl (cJ, 46080, .inr (.inl F)))]) [0, 1, 2, 3] (by decide +kernel) rfl
                        have hl := lv_sub hl [0, 1, 2, 3, 4, 5, 6, 7] rfl
                        exact kk178 _ lT lTS _ _ _ rfl ((by (try dsimp only); first | assumption | omega | trivial)) hP hD hS hl
                    · skip
                      intro kk158
                      refine lv_aload_n hx hb d_DiscMakerModel_targetGoesOn_138 rfl (lv_at hl 1 rfl) ?_
                      refine lv_aload_n hx hb d_DiscMakerModel_targetGoesOn_139 rfl (lv_at hl 1 rfl) ?_
                      refine va_get (D := D) (ci := 11) (v := .int ltp) (C := "DiscMakerModel") (T := F_DiscMakerModel) (N := 48) hx hb ht9 in_DiscMakerModel hown hK hP 2 rfl rfl 46 (by decide) (ht9 _ k1477) (fun _ h9 => h9) rfl d_DiscMakerModel_targetGoesOn_140 ?_
                      refine lv_if_ne (tgt := 157) hx hb d_DiscMakerModel_targetGoesOn_143 (by decide) (fun h_9 => ?_) (fun h_9 => ?_)
                      · skip
                        have g143_129 : ¬ ltp.toInt = 0 := fun h8 => h_9 ((i_eq rfl (by decide)).mpr h8)
                        refine lv_iconst (v := 0) hx hb d_DiscMakerModel_targetGoesOn_157 (by decide) ?_
                        have hP := hP.sub (ws' := [((ma 30), .inl (cB, 40000, .inl lT)), ((ma 31), .inl (cI, 100, .inl lTS)), (h0, .inr (11, MO ma sv_thrown sv_length sv_nodes sv_many sv_directories sv_runsFrom sv_runs sv_read sv_wrong sv_isNamed sv_goes sv_goesSize sv_goesAt ltp lro)), ((ma 16), .inl (cJ, 46080, .inr (.inl F)))]) [0, 1, 2, 3] rfl
                        have hD := hD.sub (ws' := [((ma 30), .inl (cB, 40000, .inl lT)), ((ma 31), .inl (cI, 100, .inl lTS)), (h0, .inr (11, MO ma sv_thrown sv_length sv_nodes sv_many sv_directories sv_runsFrom sv_runs sv_read sv_wrong sv_isNamed sv_goes sv_goesSize sv_goesAt ltp lro)), ((ma 16), .inl (cJ, 46080, .inr (.inl F)))]) [0, 1, 2, 3] (by decide +kernel) rfl
                        have hl := lv_sub hl [1, 2, 3, 4, 5, 6, 7, 0] rfl
                        exact kk158 _ 0 _ _ _ rfl ((by (try dsimp only); first | assumption | omega | trivial)) hP hD hS hl
                      · skip
                        have g143_129 : ltp.toInt = 0 := (i_eq rfl (by decide)).mp h_9
                        refine lv_iload hx hb d_DiscMakerModel_targetGoesOn_146 (lv_at hl 6 rfl) ?_
                        refine lv_bipush (v := 8) hx hb d_DiscMakerModel_targetGoesOn_148 (by decide) ?_
                        refine lv_icmp_ne (tgt := 157) hx hb d_DiscMakerModel_targetGoesOn_150 (by decide) (fun h_9 => ?_) (fun h_9 => ?_)
                        · skip
                          have g150_134 : ¬ r10.toInt = 8 := fun h8 => h_9 ((i_eq rfl (by decide)).mpr h8)
                          refine lv_iconst (v := 0) hx hb d_DiscMakerModel_targetGoesOn_157 (by decide) ?_
                          have hP := hP.sub (ws' := [((ma 30), .inl (cB, 40000, .inl lT)), ((ma 31), .inl (cI, 100, .inl lTS)), (h0, .inr (11, MO ma sv_thrown sv_length sv_nodes sv_many sv_directories sv_runsFrom sv_runs sv_read sv_wrong sv_isNamed sv_goes sv_goesSize sv_goesAt ltp lro)), ((ma 16), .inl (cJ, 46080, .inr (.inl F)))]) [0, 1, 2, 3] rfl
                          have hD := hD.sub (ws' := [((ma 30), .inl (cB, 40000, .inl lT)), ((ma 31), .inl (cI, 100, .inl lTS)), (h0, .inr (11, MO ma sv_thrown sv_length sv_nodes sv_many sv_directories sv_runsFrom sv_runs sv_read sv_wrong sv_isNamed sv_goes sv_goesSize sv_goesAt ltp lro)), ((ma 16), .inl (cJ, 46080, .inr (.inl F)))]) [0, 1, 2, 3] (by decide +kernel) rfl
                          have hl := lv_sub hl [1, 2, 3, 4, 5, 6, 7, 0] rfl
                          exact kk158 _ 0 _ _ _ rfl ((by (try dsimp only); first | assumption | omega | trivial)) hP hD hS hl
                        · skip
                          have g150_134 : r10.toInt = 8 := (i_eq rfl (by decide)).mp h_9
                          refine lv_iconst (v := 1) hx hb d_DiscMakerModel_targetGoesOn_153 (by decide) ?_
                          refine lv_goto (tgt := 158) hx hb d_DiscMakerModel_targetGoesOn_154 (by decide) ?_
                          have hP := hP.sub (ws' := [((ma 30), .inl (cB, 40000, .inl lT)), ((ma 31), .inl (cI, 100, .inl lTS)), (h0, .inr (11, MO ma sv_thrown sv_length sv_nodes sv_many sv_directories sv_runsFrom sv_runs sv_read sv_wrong sv_isNamed sv_goes sv_goesSize sv_goesAt ltp lro)), ((ma 16), .inl (cJ, 46080, .inr (.inl F)))]) [0, 1, 2, 3] rfl
                          have hD := hD.sub (ws' := [((ma 30), .inl (cB, 40000, .inl lT)), ((ma 31), .inl (cI, 100, .inl lTS)), (h0, .inr (11, MO ma sv_thrown sv_length sv_nodes sv_many sv_directories sv_runsFrom sv_runs sv_read sv_wrong sv_isNamed sv_goes sv_goesSize sv_goesAt ltp lro)), ((ma 16), .inl (cJ, 46080, .inr (.inl F)))]) [0, 1, 2, 3] (by decide +kernel) rfl
                          have hl := lv_sub hl [1, 2, 3, 4, 5, 6, 7, 0] rfl
                          exact kk158 _ 1 _ _ _ rfl ((by (try dsimp only); first | assumption | omega | trivial)) hP hD hS hl
                · skip
                  have g113_53 : ¬ ltp.toInt ≤ 0 := fun h8 => h_9 ((i_le rfl (by decide)).mpr h8)
                  refine lv_aload_n hx hb d_DiscMakerModel_targetGoesOn_116 rfl (lv_at hl 0 rfl) ?_
                  refine va_get (D := D) (ci := 11) (v := .int ltp) (C := "DiscMakerModel") (T := F_DiscMakerModel) (N := 48) hx hb ht9 in_DiscMakerModel hown hK hP 2 rfl rfl 46 (by decide) (ht9 _ k1477) (fun _ h9 => h9) rfl d_DiscMakerModel_targetGoesOn_117 ?_
                  refine lv_iconst (v := 1) hx hb d_DiscMakerModel_targetGoesOn_120 (by decide) ?_
                  refine lv_icmp_ne (tgt := 131) hx hb d_DiscMakerModel_targetGoesOn_121 (by decide) (fun h_9 => ?_) (fun h_9 => ?_)
                  · skip
                    have g121_143 : ¬ ltp.toInt = 1 := fun h8 => h_9 ((i_eq rfl (by decide)).mpr h8)
                    refine lv_iconst (v := 1) hx hb d_DiscMakerModel_targetGoesOn_131 (by decide) ?_
                    refine lv_goto (tgt := 136) hx hb d_DiscMakerModel_targetGoesOn_132 (by decide) ?_
                    refine zz_labM (B := fun (lk : Nat) (K : Heap → List Loc → Array Slot → List Value → Prop) => ∀ (jro : Int32) (jT : Nat → Int32) (jTS : Nat → Int32) (H : Heap) (locs : List Loc) (ls : Array Slot), lk = 0 → (Rg 0 400 100 jTS) → va_P D CL [((ma 30), .inl (cB, 40000, .inl jT)), ((ma 31), .inl (cI, 100, .inl jTS)), (h0, .inr (11, MO ma sv_thrown sv_length sv_nodes sv_many sv_directories sv_runsFrom sv_runs sv_read sv_wrong sv_isNamed sv_goes sv_goesSize sv_goesAt ltp jro)), ((ma 16), .inl (cJ, 46080, .inr (.inl F)))] H → va_D A [((ma 30), .inl (cB, 40000, .inl jT)), ((ma 31), .inl (cI, 100, .inl jTS)), (h0, .inr (11, MO ma sv_thrown sv_length sv_nodes sv_many sv_directories sv_runsFrom sv_runs sv_read sv_wrong sv_isNamed sv_goes sv_goesSize sv_goesAt ltp jro)), ((ma 16), .inl (cJ, 46080, .inr (.inl F)))] → va_S A s.heap H locs → lv_has ls 9 [(0, .ref h0), (1, .int x), (2, .int y), (3, .int z), (4, .int lq), (5, .int r10), (6, .int r15)] → K H locs ls []) 197 ?_ ?_
                    · skip
                      intro lk ih197 jro jT jTS H locs ls hm197 hjTS hP hD hS hl
                      refine lv_iconst (v := 0) hx hb d_DiscMakerModel_targetGoesOn_197 (by decide) ?_
                      refine lv_istore hx hb d_DiscMakerModel_targetGoesOn_198 hl (by decide) rfl (fun ls hl => ?_)
                      have hl : lv_has ls 9 [(8, .int 0), (0, .ref h0), (1, .int x), (2, .int y), (3, .int z), (4, .int lq), (5, .int r10), (6, .int r15)] := hl
                      refine zz_labM (B := fun (lk : Nat) (K : Heap → List Loc → Array Slot → List Value → Prop) => ∀ (kx : Int32) (nT : Nat → Int32) (nTS : Nat → Int32) (H : Heap) (locs : List Loc) (ls : Array Slot), lk = (256 - kx.toInt).toNat → (0 ≤ kx.toInt ∧ kx.toInt ≤ 255) → (Rg 0 400 100 nTS) → va_P D CL [((ma 30), .inl (cB, 40000, .inl nT)), ((ma 31), .inl (cI, 100, .inl nTS)), (h0, .inr (11, MO ma sv_thrown sv_length sv_nodes sv_many sv_directories sv_runsFrom sv_runs sv_read sv_wrong sv_isNamed sv_goes sv_goesSize sv_goesAt ltp jro)), ((ma 16), .inl (cJ, 46080, .inr (.inl F)))] H → va_D A [((ma 30), .inl (cB, 40000, .inl nT)), ((ma 31), .inl (cI, 100, .inl nTS)), (h0, .inr (11, MO ma sv_thrown sv_length sv_nodes sv_many sv_directories sv_runsFrom sv_runs sv_read sv_wrong sv_isNamed sv_goes sv_goesSize sv_goesAt ltp jro)), ((ma 16), .inl (cJ, 46080, .inr (.inl F)))] → va_S A s.heap H locs → lv_has ls 9 [(0, .ref h0), (1, .int x), (2, .int y), (3, .int z), (4, .int lq), (5, .int r10), (6, .int r15), (8, .int kx)] → K H locs ls []) 200 ?_ ?_
                      · skip
                        intro lk ih200 kx nT nTS H locs ls hm200 f4 hnTS hP hD hS hl
                        refine lv_iload hx hb d_DiscMakerModel_targetGoesOn_200 (lv_at hl 7 rfl) ?_
                        refine zz_labM (B := fun (lk : Nat) (K : Heap → List Loc → Array Slot → List Value → Prop) => ∀ (lm : Int32) (H : Heap) (locs : List Loc) (ls : Array Slot), lk = 0 → (lm.toInt ≤ 255 ∧ (r10.toInt = 0 → lm.toInt = r15.toInt)) → va_P D CL [((ma 30), .inl (cB, 40000, .inl nT)), ((ma 31), .inl (cI, 100, .inl nTS)), (h0, .inr (11, MO ma sv_thrown sv_length sv_nodes sv_many sv_directories sv_runsFrom sv_runs sv_read sv_wrong sv_isNamed sv_goes sv_goesSize sv_goesAt ltp jro)), ((ma 16), .inl (cJ, 46080, .inr (.inl F)))] H → va_D A [((ma 30), .inl (cB, 40000, .inl nT)), ((ma 31), .inl (cI, 100, .inl nTS)), (h0, .inr (11, MO ma sv_thrown sv_length sv_nodes sv_many sv_directories sv_runsFrom sv_runs sv_read sv_wrong sv_isNamed sv_goes sv_goesSize sv_goesAt ltp jro)), ((ma 16), .inl (cJ, 46080, .inr (.inl F)))] → va_S A s.heap H locs → lv_has ls 9 [(0, .ref h0), (1, .int x), (2, .int y), (3, .int z), (4, .int lq), (5, .int r10), (6, .int r15), (8, .int kx)] → K H locs ls [.int lm, .int kx]) 224 ?_ ?_
                        · skip
                          intro lk ih224 lm H locs ls hm224 f6 hP hD hS hl
                          refine lv_icmp_ge (tgt := 264) hx hb d_DiscMakerModel_targetGoesOn_224 (by decide) (fun h_9 => ?_) (fun h_9 => ?_)
                          · skip
                            have g224_149 : lm.toInt ≤ kx.toInt := (i_le rfl rfl).mp h_9
                            refine lv_aload_n hx hb d_DiscMakerModel_targetGoesOn_264 rfl (lv_at hl 0 rfl) ?_
                            refine lv_dup hx hb d_DiscMakerModel_targetGoesOn_265 rfl ?_
                            refine va_get (D := D) (ci := 11) (v := .int ltp) (C := "DiscMakerModel") (T := F_DiscMakerModel) (N := 48) hx hb ht9 in_DiscMakerModel hown hK hP 2 rfl rfl 46 (by decide) (ht9 _ k1477) (fun _ h9 => h9) rfl d_DiscMakerModel_targetGoesOn_266 ?_
                            refine lv_iconst (v := 1) hx hb d_DiscMakerModel_targetGoesOn_269 (by decide) ?_
                            refine lv_iadd hx hb d_DiscMakerModel_targetGoesOn_270 ?_
                            refine lv_topi (fun v42 e_v42 => ?_)
                            refine va_put (D := D) (ci := 11) (v := .int v42) (ty := .int) (C := "DiscMakerModel") (T := F_DiscMakerModel) (N := 48) hx hb ht9 in_DiscMakerModel t_DiscMakerModel t_DiscMakerModel_ok n_DiscMakerModel hown hK hP hD hS 2 rfl rfl 46 (by decide) (ht9 _ k1477) (fun _ h9 => h9) rfl (by decide +kernel) rfl rfl (Nat.le_of_ble_eq_true rfl) d_DiscMakerModel_targetGoesOn_271 (fun H locs hP hD hS => ?_)
                            have hP : va_P D CL [((ma 30), .inl (cB, 40000, .inl nT)), ((ma 31), .inl (cI, 100, .inl nTS)), (h0, .inr (11, MO ma sv_thrown sv_length sv_nodes sv_many sv_directories sv_runsFrom sv_runs sv_read sv_wrong sv_isNamed sv_goes sv_goesSize sv_goesAt v42 jro)), ((ma 16), .inl (cJ, 46080, .inr (.inl F)))] H := hP
                            have hD : va_D A [((ma 30), .inl (cB, 40000, .inl nT)), ((ma 31), .inl (cI, 100, .inl nTS)), (h0, .inr (11, MO ma sv_thrown sv_length sv_nodes sv_many sv_directories sv_runsFrom sv_runs sv_read sv_wrong sv_isNamed sv_goes sv_goesSize sv_goesAt v42 jro)), ((ma 16), .inl (cJ, 46080, .inr (.inl F)))] := hD
                            refine lv_iload hx hb d_DiscMakerModel_targetGoesOn_274 (lv_at hl 4 rfl) ?_
                            refine lv_iconst (v := 2) hx hb d_DiscMakerModel_targetGoesOn_276 (by decide) ?_
                            refine lv_iload hx hb d_DiscMakerModel_targetGoesOn_277 (lv_at hl 6 rfl) ?_
                            refine lv_iadd hx hb d_DiscMakerModel_targetGoesOn_279 ?_
                            refine lv_topi (fun v43 e_v43 => ?_)
                            have t_v43 : v43.toInt = 2 + r15.toInt := by rw [e_v43]; exact i_add (by decide) rfl (by omega) (by omega)
                            refine lv_iadd hx hb d_DiscMakerModel_targetGoesOn_280 ?_
                            refine lv_topi (fun v44 e_v44 => ?_)
                            have t_v44 : v44.toInt = lq.toInt + v43.toInt := by rw [e_v44]; exact i_add rfl rfl (by omega) (by omega)
                            refine lv_istore hx hb d_DiscMakerModel_targetGoesOn_281 hl (by decide) rfl (fun ls hl => ?_)
                            have hl : lv_has ls 9 [(4, .int v44), (0, .ref h0), (1, .int x), (2, .int y), (3, .int z), (5, .int r10), (6, .int r15), (8, .int kx)] := hl
                            refine lv_goto (tgt := 22) hx hb d_DiscMakerModel_targetGoesOn_283 (by decide) ?_
                            have hP := hP.sub (ws' := [((ma 30), .inl (cB, 40000, .inl nT)), ((ma 31), .inl (cI, 100, .inl nTS)), (h0, .inr (11, MO ma sv_thrown sv_length sv_nodes sv_many sv_directories sv_runsFrom sv_runs sv_read sv_wrong sv_isNamed sv_goes sv_goesSize sv_goesAt v42 jro)), ((ma 16), .inl (cJ, 46080, .inr (.inl F)))]) [0, 1, 2, 3] rfl
                            have hD := hD.sub (ws' := [((ma 30), .inl (cB, 40000, .inl nT)), ((ma 31), .inl (cI, 100, .inl nTS)), (h0, .inr (11, MO ma sv_thrown sv_length sv_nodes sv_many sv_directories sv_runsFrom sv_runs sv_read sv_wrong sv_isNamed sv_goes sv_goesSize sv_goesAt v42 jro)), ((ma 16), .inl (cJ, 46080, .inr (.inl F)))]) [0, 1, 2, 3] (by decide +kernel) rfl
                            have hl := lv_sub hl [1, 2, 3, 4, 0] rfl
                            exact ih22 _ (by first | omega | (dsimp only; omega)) v44 v42 jro nT nTS _ _ _ rfl ((by (try dsimp only); first | assumption | omega | trivial)) ((by (try dsimp only); first | assumption | omega | trivial)) hP hD hS hl
                          · skip
                            have g224_149 : ¬ lm.toInt ≤ kx.toInt := fun h8 => h_9 ((i_le rfl rfl).mpr h8)
                            refine lv_aload_n hx hb d_DiscMakerModel_targetGoesOn_227 rfl (lv_at hl 0 rfl) ?_
                            refine lv_iload_n hx hb d_DiscMakerModel_targetGoesOn_228 rfl (lv_at hl 1 rfl) ?_
                            refine zz_labM (B := fun (lk : Nat) (K : Heap → List Loc → Array Slot → List Value → Prop) => ∀ (ch : Int32) (H : Heap) (locs : List Loc) (ls : Array Slot), lk = 0 → va_P D CL [((ma 30), .inl (cB, 40000, .inl nT)), ((ma 31), .inl (cI, 100, .inl nTS)), (h0, .inr (11, MO ma sv_thrown sv_length sv_nodes sv_many sv_directories sv_runsFrom sv_runs sv_read sv_wrong sv_isNamed sv_goes sv_goesSize sv_goesAt ltp jro)), ((ma 16), .inl (cJ, 46080, .inr (.inl F)))] H → va_D A [((ma 30), .inl (cB, 40000, .inl nT)), ((ma 31), .inl (cI, 100, .inl nTS)), (h0, .inr (11, MO ma sv_thrown sv_length sv_nodes sv_many sv_directories sv_runsFrom sv_runs sv_read sv_wrong sv_isNamed sv_goes sv_goesSize sv_goesAt ltp jro)), ((ma 16), .inl (cJ, 46080, .inr (.inl F)))] → va_S A s.heap H locs → lv_has ls 9 [(0, .ref h0), (1, .int x), (2, .int y), (3, .int z), (4, .int lq), (5, .int r10), (6, .int r15), (8, .int kx)] → K H locs ls [.int ch, .int x, .ref h0]) 250 ?_ ?_
                            · skip
                              intro lk ih250 ch H locs ls hm250 hP hD hS hl
                              have hPc := hP.sub (ws' := [(h0, .inr (11, MO ma sv_thrown sv_length sv_nodes sv_many sv_directories sv_runsFrom sv_runs sv_read sv_wrong sv_isNamed sv_goes sv_goesSize sv_goesAt ltp jro)), ((ma 30), .inl (cB, 40000, .inl nT)), ((ma 31), .inl (cI, 100, .inl nTS))]) [2, 0, 1] rfl
                              have hDc := hD.sub (ws' := [(h0, .inr (11, MO ma sv_thrown sv_length sv_nodes sv_many sv_directories sv_runsFrom sv_runs sv_read sv_wrong sv_isNamed sv_goes sv_goesSize sv_goesAt ltp jro)), ((ma 30), .inl (cB, 40000, .inl nT)), ((ma 31), .inl (cI, 100, .inl nTS))]) [2, 0, 1] (by decide +kernel) rfl
                              have hFc := va_free (wc := [(h0, .inr (11, MO ma sv_thrown sv_length sv_nodes sv_many sv_directories sv_runsFrom sv_runs sv_read sv_wrong sv_isNamed sv_goes sv_goesSize sv_goesAt ltp jro)), ((ma 30), .inl (cB, 40000, .inl nT)), ((ma 31), .inl (cI, 100, .inl nTS))]) hD hS hA [2, 0, 1] rfl
                              have hkc : 0 ≤ 0 := by decide
                              have hks : 0 ≤ 0 := by decide
                              refine va_calli (va_runV (C := "DiscMakerModel") (As := [.int x, .int ch]) (rest := []) ⟨hx, hb, hml, hown, hts⟩ (m_letterOf l D cB cI cJ cZ cN cF H.size h0 ma sv_thrown sv_length sv_nodes sv_many sv_directories sv_runsFrom sv_runs sv_read sv_wrong sv_isNamed sv_goes sv_goesSize sv_goesAt ltp jro nT nTS x ch (by (try dsimp only); first | assumption | omega | trivial) (by (try dsimp only); first | assumption | omega | trivial)) (cwV 2 hts (lg_goodV k1882 k1884 k110 k125 kc_DiscMakerModel_letterOf) rfl rfl rfl (by decide +kernel) ⟨Nat.le_of_ble_eq_true rfl, Nat.le_of_ble_eq_true rfl⟩) ⟨fun a U g mk q => by obtain ⟨q0, q1, qP, qK, qN, qD⟩ := q; exact ⟨q0, q1, qP, va_K.moved (u := U) (U := U.calling g mk a) (Vm.Alike.refl U.vm) qK, qN.calling, qD⟩, va_recv hK hP (ci := 11) (q0 := 2) rfl rfl, fun U hU hW => ⟨rfl, by rw [hU], by rw [hU]; exact hPc, va_K.moved hW.alike hK, NN.warm hW hN, hDc.weaken (fun _ _ _ _ => trivial)⟩⟩ rfl rfl hl.1 rfl (lv_room (Nat.le_of_ble_eq_true rfl)) d_DiscMakerModel_targetGoesOn_250 ⟨hkc, hks⟩) hS (fun q _ h => hFc q h) hFc (fun r45 u t H1 locs ht hvm hp_r45 hB hz1 hk1 hS => ?_)
                              obtain ⟨gT_46, gTS_47⟩ := u
                              obtain ⟨hP1, hD1⟩ := hB
                              rw [ht] at hP1
                              obtain ⟨hP, hD⟩ := va_join (wr := [((ma 16), .inl (cJ, 46080, .inr (.inl F)))]) (w1 := [(h0, .inr (11, MO ma sv_thrown sv_length sv_nodes sv_many sv_directories sv_runsFrom sv_runs sv_read sv_wrong sv_isNamed sv_goes sv_goesSize sv_goesAt ltp jro)), ((ma 30), .inl (cB, 40000, .inl gT_46)), ((ma 31), .inl (cI, 100, .inl gTS_47))]) hP hD [2, 0, 1] [3] rfl rfl (by decide +kernel) (by decide +kernel) hk1 hFc hP1 hD1
                              clear hPc hDc hFc hP1 hD1 hk1 hz1 hkc hks
                              generalize H1 = H at hP hS ⊢
                              have hP : va_P D CL [((ma 16), .inl (cJ, 46080, .inr (.inl F))), (h0, .inr (11, MO ma sv_thrown sv_length sv_nodes sv_many sv_directories sv_runsFrom sv_runs sv_read sv_wrong sv_isNamed sv_goes sv_goesSize sv_goesAt ltp jro)), ((ma 30), .inl (cB, 40000, .inl gT_46)), ((ma 31), .inl (cI, 100, .inl gTS_47))] H := hP
                              have hD : va_D A [((ma 16), .inl (cJ, 46080, .inr (.inl F))), (h0, .inr (11, MO ma sv_thrown sv_length sv_nodes sv_many sv_directories sv_runsFrom sv_runs sv_read sv_wrong sv_isNamed sv_goes sv_goesSize sv_goesAt ltp jro)), ((ma 30), .inl (cB, 40000, .inl gT_46)), ((ma 31), .inl (cI, 100, .inl gTS_47))] := hD
                              try dsimp only at hp_r45
                              obtain ⟨hr_48, hgTS_49⟩ := hp_r45
                              refine lv_if_ne (tgt := 258) hx hb d_DiscMakerModel_targetGoesOn_253 (by decide) (fun h_9 => ?_) (fun h_9 => ?_)
                              · skip
                                have g253_167 : ¬ r45.toInt = 0 := fun h8 => h_9 ((i_eq rfl (by decide)).mpr h8)
                                obtain ⟨v50, e_v50⟩ : ∃ z : Int32, z = kx + 1 := ⟨_, rfl⟩
                                refine lv_iinc (v := v50) hx hb d_DiscMakerModel_targetGoesOn_258 hl (k := 7) rfl e_v50.symm (by decide +kernel) rfl (fun ls hl => ?_)
                                have t_v50 : v50.toInt = kx.toInt + 1 := by rw [e_v50]; exact i_add rfl (by decide) (by omega) (by omega)
                                have hl : lv_has ls 9 [(8, .int v50), (0, .ref h0), (1, .int x), (2, .int y), (3, .int z), (4, .int lq), (5, .int r10), (6, .int r15)] := hl
                                refine lv_goto (tgt := 200) hx hb d_DiscMakerModel_targetGoesOn_261 (by decide) ?_
                                have hP := hP.sub (ws' := [((ma 30), .inl (cB, 40000, .inl gT_46)), ((ma 31), .inl (cI, 100, .inl gTS_47)), (h0, .inr (11, MO ma sv_thrown sv_length sv_nodes sv_many sv_directories sv_runsFrom sv_runs sv_read sv_wrong sv_isNamed sv_goes sv_goesSize sv_goesAt ltp jro)), ((ma 16), .inl (cJ, 46080, .inr (.inl F)))]) [2, 3, 1, 0] rfl
                                have hD := hD.sub (ws' := [((ma 30), .inl (cB, 40000, .inl gT_46)), ((ma 31), .inl (cI, 100, .inl gTS_47)), (h0, .inr (11, MO ma sv_thrown sv_length sv_nodes sv_many sv_directories sv_runsFrom sv_runs sv_read sv_wrong sv_isNamed sv_goes sv_goesSize sv_goesAt ltp jro)), ((ma 16), .inl (cJ, 46080, .inr (.inl F)))]) [2, 3, 1, 0] (by decide +kernel) rfl
                                have hl := lv_sub hl [1, 2, 3, 4, 5, 6, 7, 0] rfl
                                exact ih200 _ (by first | omega | (dsimp only; omega)) v50 gT_46 gTS_47 _ _ _ rfl ((by (try dsimp only); first | assumption | omega | trivial)) ((by (try dsimp only); first | assumption | omega | trivial)) hP hD hS hl
                              · skip
                                have g253_167 : r45.toInt = 0 := (i_eq rfl (by decide)).mp h_9
                                refine lv_iconst (v := 0) hx hb d_DiscMakerModel_targetGoesOn_256 (by decide) ?_
                                have hP9 := hP.sub (ws' := [(h0, .inr (11, MO ma sv_thrown sv_length sv_nodes sv_many sv_directories sv_runsFrom sv_runs sv_read sv_wrong sv_isNamed sv_goes sv_goesSize sv_goesAt ltp jro)), ((ma 16), .inl (cJ, 46080, .inr (.inl F))), ((ma 30), .inl (cB, 40000, .inl gT_46)), ((ma 31), .inl (cI, 100, .inl gTS_47))]) [1, 0, 2, 3] rfl
                                have hD9 := hD.sub (ws' := [(h0, .inr (11, MO ma sv_thrown sv_length sv_nodes sv_many sv_directories sv_runsFrom sv_runs sv_read sv_wrong sv_isNamed sv_goes sv_goesSize sv_goesAt ltp jro)), ((ma 16), .inl (cJ, 46080, .inr (.inl F))), ((ma 30), .inl (cB, 40000, .inl gT_46)), ((ma 31), .inl (cI, 100, .inl gTS_47))]) [1, 0, 2, 3] (by decide +kernel) rfl
                                exact W.zret (v := 0) hx hb hr (by first | rfl | decide | exact i_narZ (by omega)) (fun t ht hW => ⟨⟨0, (ltp, jro, gT_46, gTS_47), rfl, ⟨(by (try dsimp only); first | assumption | omega | trivial), (by (try dsimp only); first | assumption | omega | trivial)⟩, by rw [ht]; exact hP9, hD9⟩, hS.F ht⟩) hS.2.2 d_DiscMakerModel_targetGoesOn_257
                            · skip
                              intro kk250
                              refine lv_iload hx hb d_DiscMakerModel_targetGoesOn_229 (lv_at hl 5 rfl) ?_
                              refine lv_if_ne (tgt := 248) hx hb d_DiscMakerModel_targetGoesOn_231 (by decide) (fun h_9 => ?_) (fun h_9 => ?_)
                              · skip
                                have g231_174 : ¬ r10.toInt = 0 := fun h8 => h_9 ((i_eq rfl (by decide)).mpr h8)
                                refine lv_bipush (v := 46) hx hb d_DiscMakerModel_targetGoesOn_248 (by decide) ?_
                                have hP := hP.sub (ws' := [((ma 30), .inl (cB, 40000, .inl nT)), ((ma 31), .inl (cI, 100, .inl nTS)), (h0, .inr (11, MO ma sv_thrown sv_length sv_nodes sv_many sv_directories sv_runsFrom sv_runs sv_read sv_wrong sv_isNamed sv_goes sv_goesSize sv_goesAt ltp jro)), ((ma 16), .inl (cJ, 46080, .inr (.inl F)))]) [0, 1, 2, 3] rfl
                                have hD := hD.sub (ws' := [((ma 30), .inl (cB, 40000, .inl nT)), ((ma 31), .inl (cI, 100, .inl nTS)), (h0, .inr (11, MO ma sv_thrown sv_length sv_nodes sv_many sv_directories sv_runsFrom sv_runs sv_read sv_wrong sv_isNamed sv_goes sv_goesSize sv_goesAt ltp jro)), ((ma 16), .inl (cJ, 46080, .inr (.inl F)))]) [0, 1, 2, 3] (by decide +kernel) rfl
                                have hl := lv_sub hl [0, 1, 2, 3, 4, 5, 6, 7] rfl
                                exact kk250 _ 46 _ _ _ rfl  hP hD hS hl
                              · skip
                                have g231_174 : r10.toInt = 0 := (i_eq rfl (by decide)).mp h_9
                                refine lv_aload_n hx hb d_DiscMakerModel_targetGoesOn_234 rfl (lv_at hl 0 rfl) ?_
                                refine lv_iload hx hb d_DiscMakerModel_targetGoesOn_235 (lv_at hl 4 rfl) ?_
                                refine lv_iconst (v := 2) hx hb d_DiscMakerModel_targetGoesOn_237 (by decide) ?_
                                refine lv_iadd hx hb d_DiscMakerModel_targetGoesOn_238 ?_
                                refine lv_topi (fun v51 e_v51 => ?_)
                                have t_v51 : v51.toInt = lq.toInt + 2 := by rw [e_v51]; exact i_add rfl (by decide) (by omega) (by omega)
                                refine lv_iload hx hb d_DiscMakerModel_targetGoesOn_239 (lv_at hl 7 rfl) ?_
                                refine lv_iadd hx hb d_DiscMakerModel_targetGoesOn_241 ?_
                                refine lv_topi (fun v52 e_v52 => ?_)
                                have t_v52 : v52.toInt = v51.toInt + kx.toInt := by rw [e_v52]; exact i_add rfl rfl (by omega) (by omega)
                                have hPc := hP.sub (ws' := [(h0, .inr (11, MO ma sv_thrown sv_length sv_nodes sv_many sv_directories sv_runsFrom sv_runs sv_read sv_wrong sv_isNamed sv_goes sv_goesSize sv_goesAt ltp jro)), ((ma 16), .inl (cJ, 46080, .inr (.inl F)))]) [2, 3] rfl
                                have hDc := hD.sub (ws' := [(h0, .inr (11, MO ma sv_thrown sv_length sv_nodes sv_many sv_directories sv_runsFrom sv_runs sv_read sv_wrong sv_isNamed sv_goes sv_goesSize sv_goesAt ltp jro)), ((ma 16), .inl (cJ, 46080, .inr (.inl F)))]) [2, 3] (by decide +kernel) rfl
                                have hFc := va_free (wc := [(h0, .inr (11, MO ma sv_thrown sv_length sv_nodes sv_many sv_directories sv_runsFrom sv_runs sv_read sv_wrong sv_isNamed sv_goes sv_goesSize sv_goesAt ltp jro)), ((ma 16), .inl (cJ, 46080, .inr (.inl F)))]) hD hS hA [2, 3] rfl
                                have hkc : 0 ≤ 0 := by decide
                                have hks : 0 ≤ 0 := by decide
                                refine va_calli (va_runV (C := "DiscMakerModel") (As := [.int v52]) (rest := [.int x, .ref h0]) ⟨hx, hb, hml, hown, hts⟩ (m_at l D cB cI cJ cZ cN cF H.size h0 ma sv_thrown sv_length sv_nodes sv_many sv_directories sv_runsFrom sv_runs sv_read sv_wrong sv_isNamed sv_goes sv_goesSize sv_goesAt ltp jro F v52 (by (try dsimp only); first | assumption | omega | trivial) (by (try dsimp only); first | assumption | omega | trivial)) (cwV 1 hts (lg_goodV k1809 k1811 k95 k125 kc_DiscMakerModel_at) rfl rfl rfl (by decide +kernel) ⟨Nat.le_of_ble_eq_true rfl, Nat.le_of_ble_eq_true rfl⟩) ⟨fun a U g mk q => by obtain ⟨q0, q1, qP, qK, qN, qD⟩ := q; exact ⟨q0, q1, qP, va_K.moved (u := U) (U := U.calling g mk a) (Vm.Alike.refl U.vm) qK, qN.calling, qD⟩, va_recv hK hP (ci := 11) (q0 := 2) rfl rfl, fun U hU hW => ⟨rfl, by rw [hU], by rw [hU]; exact hPc, va_K.moved hW.alike hK, NN.warm hW hN, hDc.weaken (fun _ _ _ _ => trivial)⟩⟩ rfl rfl hl.1 rfl (lv_room (Nat.le_of_ble_eq_true rfl)) d_DiscMakerModel_targetGoesOn_242 ⟨hkc, hks⟩) hS (fun q _ h => hFc q h) hFc (fun r53 u t H1 locs ht hvm hp_r53 hB hz1 hk1 hS => ?_)
                                obtain ⟨hP1, hD1⟩ := hB
                                rw [ht] at hP1
                                obtain ⟨hP, hD⟩ := va_join (wr := [((ma 30), .inl (cB, 40000, .inl nT)), ((ma 31), .inl (cI, 100, .inl nTS))]) (w1 := [(h0, .inr (11, MO ma sv_thrown sv_length sv_nodes sv_many sv_directories sv_runsFrom sv_runs sv_read sv_wrong sv_isNamed sv_goes sv_goesSize sv_goesAt ltp jro)), ((ma 16), .inl (cJ, 46080, .inr (.inl F)))]) hP hD [2, 3] [0, 1] rfl rfl (by decide +kernel) (by decide +kernel) hk1 hFc hP1 hD1
                                clear hPc hDc hFc hP1 hD1 hk1 hz1 hkc hks
                                generalize H1 = H at hP hS ⊢
                                have hP : va_P D CL [((ma 30), .inl (cB, 40000, .inl nT)), ((ma 31), .inl (cI, 100, .inl nTS)), (h0, .inr (11, MO ma sv_thrown sv_length sv_nodes sv_many sv_directories sv_runsFrom sv_runs sv_read sv_wrong sv_isNamed sv_goes sv_goesSize sv_goesAt ltp jro)), ((ma 16), .inl (cJ, 46080, .inr (.inl F)))] H := hP
                                have hD : va_D A [((ma 30), .inl (cB, 40000, .inl nT)), ((ma 31), .inl (cI, 100, .inl nTS)), (h0, .inr (11, MO ma sv_thrown sv_length sv_nodes sv_many sv_directories sv_runsFrom sv_runs sv_read sv_wrong sv_isNamed sv_goes sv_goesSize sv_goesAt ltp jro)), ((ma 16), .inl (cJ, 46080, .inr (.inl F)))] := hD
                                try dsimp only at hp_r53
                                obtain ⟨hr_54, hv_55, hw_56⟩ := hp_r53
                                refine lv_goto (tgt := 250) hx hb d_DiscMakerModel_targetGoesOn_245 (by decide) ?_
                                have hP := hP.sub (ws' := [((ma 30), .inl (cB, 40000, .inl nT)), ((ma 31), .inl (cI, 100, .inl nTS)), (h0, .inr (11, MO ma sv_thrown sv_length sv_nodes sv_many sv_directories sv_runsFrom sv_runs sv_read sv_wrong sv_isNamed sv_goes sv_goesSize sv_goesAt ltp jro)), ((ma 16), .inl (cJ, 46080, .inr (.inl F)))]) [0, 1, 2, 3] rfl
                                have hD := hD.sub (ws' := [((ma 30), .inl (cB, 40000, .inl nT)), ((ma 31), .inl (cI, 100, .inl nTS)), (h0, .inr (11, MO ma sv_thrown sv_length sv_nodes sv_many sv_directories sv_runsFrom sv_runs sv_read sv_wrong sv_isNamed sv_goes sv_goesSize sv_goesAt ltp jro)), ((ma 16), .inl (cJ, 46080, .inr (.inl F)))]) [0, 1, 2, 3] (by decide +kernel) rfl
                                have hl := lv_sub hl [0, 1, 2, 3, 4, 5, 6, 7] rfl
                                exact kk250 _ r53 _ _ _ rfl  hP hD hS hl
                        · skip
                          intro kk224
                          refine lv_iload hx hb d_DiscMakerModel_targetGoesOn_202 (lv_at hl 5 rfl) ?_
                          refine lv_iconst (v := 2) hx hb d_DiscMakerModel_targetGoesOn_204 (by decide) ?_
                          refine lv_icmp_ne (tgt := 212) hx hb d_DiscMakerModel_targetGoesOn_205 (by decide) (fun h_9 => ?_) (fun h_9 => ?_)
                          · skip
                            have g205_188 : ¬ r10.toInt = 2 := fun h8 => h_9 ((i_eq rfl (by decide)).mpr h8)
                            refine lv_iload hx hb d_DiscMakerModel_targetGoesOn_212 (lv_at hl 5 rfl) ?_
                            refine lv_iconst (v := 4) hx hb d_DiscMakerModel_targetGoesOn_214 (by decide) ?_
                            refine lv_icmp_ne (tgt := 222) hx hb d_DiscMakerModel_targetGoesOn_215 (by decide) (fun h_9 => ?_) (fun h_9 => ?_)
                            · skip
                              have g215_191 : ¬ r10.toInt = 4 := fun h8 => h_9 ((i_eq rfl (by decide)).mpr h8)
                              refine lv_iload hx hb d_DiscMakerModel_targetGoesOn_222 (lv_at hl 6 rfl) ?_
                              have hP := hP.sub (ws' := [((ma 30), .inl (cB, 40000, .inl nT)), ((ma 31), .inl (cI, 100, .inl nTS)), (h0, .inr (11, MO ma sv_thrown sv_length sv_nodes sv_many sv_directories sv_runsFrom sv_runs sv_read sv_wrong sv_isNamed sv_goes sv_goesSize sv_goesAt ltp jro)), ((ma 16), .inl (cJ, 46080, .inr (.inl F)))]) [0, 1, 2, 3] rfl
                              have hD := hD.sub (ws' := [((ma 30), .inl (cB, 40000, .inl nT)), ((ma 31), .inl (cI, 100, .inl nTS)), (h0, .inr (11, MO ma sv_thrown sv_length sv_nodes sv_many sv_directories sv_runsFrom sv_runs sv_read sv_wrong sv_isNamed sv_goes sv_goesSize sv_goesAt ltp jro)), ((ma 16), .inl (cJ, 46080, .inr (.inl F)))]) [0, 1, 2, 3] (by decide +kernel) rfl
                              have hl := lv_sub hl [0, 1, 2, 3, 4, 5, 6, 7] rfl
                              exact kk224 _ r15 _ _ _ rfl ((by (try dsimp only); first | assumption | omega | trivial)) hP hD hS hl
                            · skip
                              have g215_191 : r10.toInt = 4 := (i_eq rfl (by decide)).mp h_9
                              refine lv_iconst (v := 2) hx hb d_DiscMakerModel_targetGoesOn_218 (by decide) ?_
                              refine lv_goto (tgt := 224) hx hb d_DiscMakerModel_targetGoesOn_219 (by decide) ?_
                              have hP := hP.sub (ws' := [((ma 30), .inl (cB, 40000, .inl nT)), ((ma 31), .inl (cI, 100, .inl nTS)), (h0, .inr (11, MO ma sv_thrown sv_length sv_nodes sv_many sv_directories sv_runsFrom sv_runs sv_read sv_wrong sv_isNamed sv_goes sv_goesSize sv_goesAt ltp jro)), ((ma 16), .inl (cJ, 46080, .inr (.inl F)))]) [0, 1, 2, 3] rfl
                              have hD := hD.sub (ws' := [((ma 30), .inl (cB, 40000, .inl nT)), ((ma 31), .inl (cI, 100, .inl nTS)), (h0, .inr (11, MO ma sv_thrown sv_length sv_nodes sv_many sv_directories sv_runsFrom sv_runs sv_read sv_wrong sv_isNamed sv_goes sv_goesSize sv_goesAt ltp jro)), ((ma 16), .inl (cJ, 46080, .inr (.inl F)))]) [0, 1, 2, 3] (by decide +kernel) rfl
                              have hl := lv_sub hl [0, 1, 2, 3, 4, 5, 6, 7] rfl
                              exact kk224 _ 2 _ _ _ rfl ((by (try dsimp only); first | assumption | omega | trivial)) hP hD hS hl
                          · skip
                            have g205_188 : r10.toInt = 2 := (i_eq rfl (by decide)).mp h_9
                            refine lv_iconst (v := 1) hx hb d_DiscMakerModel_targetGoesOn_208 (by decide) ?_
                            refine lv_goto (tgt := 224) hx hb d_DiscMakerModel_targetGoesOn_209 (by decide) ?_
                            have hP := hP.sub (ws' := [((ma 30), .inl (cB, 40000, .inl nT)), ((ma 31), .inl (cI, 100, .inl nTS)), (h0, .inr (11, MO ma sv_thrown sv_length sv_nodes sv_many sv_directories sv_runsFrom sv_runs sv_read sv_wrong sv_isNamed sv_goes sv_goesSize sv_goesAt ltp jro)), ((ma 16), .inl (cJ, 46080, .inr (.inl F)))]) [0, 1, 2, 3] rfl
                            have hD := hD.sub (ws' := [((ma 30), .inl (cB, 40000, .inl nT)), ((ma 31), .inl (cI, 100, .inl nTS)), (h0, .inr (11, MO ma sv_thrown sv_length sv_nodes sv_many sv_directories sv_runsFrom sv_runs sv_read sv_wrong sv_isNamed sv_goes sv_goesSize sv_goesAt ltp jro)), ((ma 16), .inl (cJ, 46080, .inr (.inl F)))]) [0, 1, 2, 3] (by decide +kernel) rfl
                            have hl := lv_sub hl [0, 1, 2, 3, 4, 5, 6, 7] rfl
                            exact kk224 _ 1 _ _ _ rfl ((by (try dsimp only); first | assumption | omega | trivial)) hP hD hS hl
                      · skip
                        intro kk200
                        have hP := hP.sub (ws' := [((ma 30), .inl (cB, 40000, .inl jT)), ((ma 31), .inl (cI, 100, .inl jTS)), (h0, .inr (11, MO ma sv_thrown sv_length sv_nodes sv_many sv_directories sv_runsFrom sv_runs sv_read sv_wrong sv_isNamed sv_goes sv_goesSize sv_goesAt ltp jro)), ((ma 16), .inl (cJ, 46080, .inr (.inl F)))]) [0, 1, 2, 3] rfl
                        have hD := hD.sub (ws' := [((ma 30), .inl (cB, 40000, .inl jT)), ((ma 31), .inl (cI, 100, .inl jTS)), (h0, .inr (11, MO ma sv_thrown sv_length sv_nodes sv_many sv_directories sv_runsFrom sv_runs sv_read sv_wrong sv_isNamed sv_goes sv_goesSize sv_goesAt ltp jro)), ((ma 16), .inl (cJ, 46080, .inr (.inl F)))]) [0, 1, 2, 3] (by decide +kernel) rfl
                        have hl := lv_sub hl [1, 2, 3, 4, 5, 6, 7, 0] rfl
                        exact kk200 _ 0 jT jTS _ _ _ rfl ((by (try dsimp only); first | assumption | omega | trivial)) ((by (try dsimp only); first | assumption | omega | trivial)) hP hD hS hl
                    · skip
                      intro kk197
                      refine lv_istore hx hb d_DiscMakerModel_targetGoesOn_136 hl (by decide) rfl (fun ls hl => ?_)
                      have hl : lv_has ls 9 [(7, .int 1), (0, .ref h0), (1, .int x), (2, .int y), (3, .int z), (4, .int lq), (5, .int r10), (6, .int r15)] := hl
                      refine zz_labM (B := fun (lk : Nat) (K : Heap → List Loc → Array Slot → List Value → Prop) => ∀ (jr : Int32) (H : Heap) (locs : List Loc) (ls : Array Slot), lk = 0 → (0 ≤ jr.toInt ∧ jr.toInt ≤ 1) → va_P D CL [((ma 30), .inl (cB, 40000, .inl lT)), ((ma 31), .inl (cI, 100, .inl lTS)), (h0, .inr (11, MO ma sv_thrown sv_length sv_nodes sv_many sv_directories sv_runsFrom sv_runs sv_read sv_wrong sv_isNamed sv_goes sv_goesSize sv_goesAt ltp lro)), ((ma 16), .inl (cJ, 46080, .inr (.inl F)))] H → va_D A [((ma 30), .inl (cB, 40000, .inl lT)), ((ma 31), .inl (cI, 100, .inl lTS)), (h0, .inr (11, MO ma sv_thrown sv_length sv_nodes sv_many sv_directories sv_runsFrom sv_runs sv_read sv_wrong sv_isNamed sv_goes sv_goesSize sv_goesAt ltp lro)), ((ma 16), .inl (cJ, 46080, .inr (.inl F)))] → va_S A s.heap H locs → lv_has ls 9 [(0, .ref h0), (1, .int x), (2, .int y), (3, .int z), (4, .int lq), (5, .int r10), (6, .int r15), (7, .int 1)] → K H locs ls [.int jr, .ref h0]) 158 ?_ ?_
                      · skip
                        intro lk ih158 jr H locs ls hm158 f5 hP hD hS hl
                        refine va_put (D := D) (ci := 11) (v := .int jr) (ty := .boolean) (C := "DiscMakerModel") (T := F_DiscMakerModel) (N := 48) hx hb ht9 in_DiscMakerModel t_DiscMakerModel t_DiscMakerModel_ok n_DiscMakerModel hown hK hP hD hS 2 rfl rfl 47 (by decide) (ht9 _ k1478) (fun _ h9 => h9) rfl (by decide +kernel) (i_narZ (by omega)) (i_fitZ (by omega)) (Nat.le_of_ble_eq_true rfl) d_DiscMakerModel_targetGoesOn_158 (fun H locs hP hD hS => ?_)
                        have hP : va_P D CL [((ma 30), .inl (cB, 40000, .inl lT)), ((ma 31), .inl (cI, 100, .inl lTS)), (h0, .inr (11, MO ma sv_thrown sv_length sv_nodes sv_many sv_directories sv_runsFrom sv_runs sv_read sv_wrong sv_isNamed sv_goes sv_goesSize sv_goesAt ltp jr)), ((ma 16), .inl (cJ, 46080, .inr (.inl F)))] H := hP
                        have hD : va_D A [((ma 30), .inl (cB, 40000, .inl lT)), ((ma 31), .inl (cI, 100, .inl lTS)), (h0, .inr (11, MO ma sv_thrown sv_length sv_nodes sv_many sv_directories sv_runsFrom sv_runs sv_read sv_wrong sv_isNamed sv_goes sv_goesSize sv_goesAt ltp jr)), ((ma 16), .inl (cJ, 46080, .inr (.inl F)))] := hD
                        refine zz_labM (B := fun (lk : Nat) (K : Heap → List Loc → Array Slot → List Value → Prop) => ∀ (iT : Nat → Int32) (iTS : Nat → Int32) (H : Heap) (locs : List Loc) (ls : Array Slot), lk = 0 → (Rg 0 400 100 iTS) → va_P D CL [((ma 30), .inl (cB, 40000, .inl iT)), ((ma 31), .inl (cI, 100, .inl iTS)), (h0, .inr (11, MO ma sv_thrown sv_length sv_nodes sv_many sv_directories sv_runsFrom sv_runs sv_read sv_wrong sv_isNamed sv_goes sv_goesSize sv_goesAt ltp jr)), ((ma 16), .inl (cJ, 46080, .inr (.inl F)))] H → va_D A [((ma 30), .inl (cB, 40000, .inl iT)), ((ma 31), .inl (cI, 100, .inl iTS)), (h0, .inr (11, MO ma sv_thrown sv_length sv_nodes sv_many sv_directories sv_runsFrom sv_runs sv_read sv_wrong sv_isNamed sv_goes sv_goesSize sv_goesAt ltp jr)), ((ma 16), .inl (cJ, 46080, .inr (.inl F)))] → va_S A s.heap H locs → lv_has ls 9 [(0, .ref h0), (1, .int x), (2, .int y), (3, .int z), (4, .int lq), (5, .int r10), (6, .int r15), (7, .int 1)] → K H locs ls []) 178 ?_ ?_
                        · skip
                          intro lk ih178 iT iTS H locs ls hm178 hiTS hP hD hS hl
                          refine lv_aload_n hx hb d_DiscMakerModel_targetGoesOn_178 rfl (lv_at hl 0 rfl) ?_
                          refine va_get (D := D) (ci := 11) (v := .int jr) (C := "DiscMakerModel") (T := F_DiscMakerModel) (N := 48) hx hb ht9 in_DiscMakerModel hown hK hP 2 rfl rfl 47 (by decide) (ht9 _ k1478) (fun _ h9 => h9) rfl d_DiscMakerModel_targetGoesOn_179 ?_
                          refine lv_if_eq (tgt := 197) hx hb d_DiscMakerModel_targetGoesOn_182 (by decide) (fun h_9 => ?_) (fun h_9 => ?_)
                          · skip
                            have g182_204 : jr.toInt = 0 := (i_eq rfl (by decide)).mp h_9
                            have hP := hP.sub (ws' := [((ma 30), .inl (cB, 40000, .inl iT)), ((ma 31), .inl (cI, 100, .inl iTS)), (h0, .inr (11, MO ma sv_thrown sv_length sv_nodes sv_many sv_directories sv_runsFrom sv_runs sv_read sv_wrong sv_isNamed sv_goes sv_goesSize sv_goesAt ltp jr)), ((ma 16), .inl (cJ, 46080, .inr (.inl F)))]) [0, 1, 2, 3] rfl
                            have hD := hD.sub (ws' := [((ma 30), .inl (cB, 40000, .inl iT)), ((ma 31), .inl (cI, 100, .inl iTS)), (h0, .inr (11, MO ma sv_thrown sv_length sv_nodes sv_many sv_directories sv_runsFrom sv_runs sv_read sv_wrong sv_isNamed sv_goes sv_goesSize sv_goesAt ltp jr)), ((ma 16), .inl (cJ, 46080, .inr (.inl F)))]) [0, 1, 2, 3] (by decide +kernel) rfl
                            have hl := lv_sub hl [0, 1, 2, 3, 4, 5, 6] rfl
                            exact kk197 _ jr iT iTS _ _ _ rfl ((by (try dsimp only); first | assumption | omega | trivial)) hP hD hS hl
                          · skip
                            have g182_204 : ¬ jr.toInt = 0 := fun h8 => h_9 ((i_eq rfl (by decide)).mpr h8)
                            refine lv_aload_n hx hb d_DiscMakerModel_targetGoesOn_185 rfl (lv_at hl 0 rfl) ?_
                            refine lv_iload_n hx hb d_DiscMakerModel_targetGoesOn_186 rfl (lv_at hl 1 rfl) ?_
                            refine lv_bipush (v := 47) hx hb d_DiscMakerModel_targetGoesOn_187 (by decide) ?_
                            have hPc := hP.sub (ws' := [(h0, .inr (11, MO ma sv_thrown sv_length sv_nodes sv_many sv_directories sv_runsFrom sv_runs sv_read sv_wrong sv_isNamed sv_goes sv_goesSize sv_goesAt ltp jr)), ((ma 30), .inl (cB, 40000, .inl iT)), ((ma 31), .inl (cI, 100, .inl iTS))]) [2, 0, 1] rfl
                            have hDc := hD.sub (ws' := [(h0, .inr (11, MO ma sv_thrown sv_length sv_nodes sv_many sv_directories sv_runsFrom sv_runs sv_read sv_wrong sv_isNamed sv_goes sv_goesSize sv_goesAt ltp jr)), ((ma 30), .inl (cB, 40000, .inl iT)), ((ma 31), .inl (cI, 100, .inl iTS))]) [2, 0, 1] (by decide +kernel) rfl
                            have hFc := va_free (wc := [(h0, .inr (11, MO ma sv_thrown sv_length sv_nodes sv_many sv_directories sv_runsFrom sv_runs sv_read sv_wrong sv_isNamed sv_goes sv_goesSize sv_goesAt ltp jr)), ((ma 30), .inl (cB, 40000, .inl iT)), ((ma 31), .inl (cI, 100, .inl iTS))]) hD hS hA [2, 0, 1] rfl
                            have hkc : 0 ≤ 0 := by decide
                            have hks : 0 ≤ 0 := by decide
                            refine va_calli (va_runV (C := "DiscMakerModel") (As := [.int x, .int 47]) (rest := []) ⟨hx, hb, hml, hown, hts⟩ (m_letterOf l D cB cI cJ cZ cN cF H.size h0 ma sv_thrown sv_length sv_nodes sv_many sv_directories sv_runsFrom sv_runs sv_read sv_wrong sv_isNamed sv_goes sv_goesSize sv_goesAt ltp jr iT iTS x 47 (by (try dsimp only); first | assumption | omega | trivial) (by (try dsimp only); first | assumption | omega | trivial)) (cwV 2 hts (lg_goodV k1882 k1884 k110 k125 kc_DiscMakerModel_letterOf) rfl rfl rfl (by decide +kernel) ⟨Nat.le_of_ble_eq_true rfl, Nat.le_of_ble_eq_true rfl⟩) ⟨fun a U g mk q => by obtain ⟨q0, q1, qP, qK, qN, qD⟩ := q; exact ⟨q0, q1, qP, va_K.moved (u := U) (U := U.calling g mk a) (Vm.Alike.refl U.vm) qK, qN.calling, qD⟩, va_recv hK hP (ci := 11) (q0 := 2) rfl rfl, fun U hU hW => ⟨rfl, by rw [hU], by rw [hU]; exact hPc, va_K.moved hW.alike hK, NN.warm hW hN, hDc.weaken (fun _ _ _ _ => trivial)⟩⟩ rfl rfl hl.1 rfl (lv_room (Nat.le_of_ble_eq_true rfl)) d_DiscMakerModel_targetGoesOn_189 ⟨hkc, hks⟩) hS (fun q _ h => hFc q h) hFc (fun r57 u t H1 locs ht hvm hp_r57 hB hz1 hk1 hS => ?_)
                            obtain ⟨gT_58, gTS_59⟩ := u
                            obtain ⟨hP1, hD1⟩ := hB
                            rw [ht] at hP1
                            obtain ⟨hP, hD⟩ := va_join (wr := [((ma 16), .inl (cJ, 46080, .inr (.inl F)))]) (w1 := [(h0, .inr (11, MO ma sv_thrown sv_length sv_nodes sv_many sv_directories sv_runsFrom sv_runs sv_read sv_wrong sv_isNamed sv_goes sv_goesSize sv_goesAt ltp jr)), ((ma 30), .inl (cB, 40000, .inl gT_58)), ((ma 31), .inl (cI, 100, .inl gTS_59))]) hP hD [2, 0, 1] [3] rfl rfl (by decide +kernel) (by decide +kernel) hk1 hFc hP1 hD1
                            clear hPc hDc hFc hP1 hD1 hk1 hz1 hkc hks
                            generalize H1 = H at hP hS ⊢
                            have hP : va_P D CL [((ma 16), .inl (cJ, 46080, .inr (.inl F))), (h0, .inr (11, MO ma sv_thrown sv_length sv_nodes sv_many sv_directories sv_runsFrom sv_runs sv_read sv_wrong sv_isNamed sv_goes sv_goesSize sv_goesAt ltp jr)), ((ma 30), .inl (cB, 40000, .inl gT_58)), ((ma 31), .inl (cI, 100, .inl gTS_59))] H := hP
                            have hD : va_D A [((ma 16), .inl (cJ, 46080, .inr (.inl F))), (h0, .inr (11, MO ma sv_thrown sv_length sv_nodes sv_many sv_directories sv_runsFrom sv_runs sv_read sv_wrong sv_isNamed sv_goes sv_goesSize sv_goesAt ltp jr)), ((ma 30), .inl (cB, 40000, .inl gT_58)), ((ma 31), .inl (cI, 100, .inl gTS_59))] := hD
                            try dsimp only at hp_r57
                            obtain ⟨hr_60, hgTS_61⟩ := hp_r57
                            refine lv_if_ne (tgt := 197) hx hb d_DiscMakerModel_targetGoesOn_192 (by decide) (fun h_9 => ?_) (fun h_9 => ?_)
                            · skip
                              have g192_210 : ¬ r57.toInt = 0 := fun h8 => h_9 ((i_eq rfl (by decide)).mpr h8)
                              have hP := hP.sub (ws' := [((ma 30), .inl (cB, 40000, .inl gT_58)), ((ma 31), .inl (cI, 100, .inl gTS_59)), (h0, .inr (11, MO ma sv_thrown sv_length sv_nodes sv_many sv_directories sv_runsFrom sv_runs sv_read sv_wrong sv_isNamed sv_goes sv_goesSize sv_goesAt ltp jr)), ((ma 16), .inl (cJ, 46080, .inr (.inl F)))]) [2, 3, 1, 0] rfl
                              have hD := hD.sub (ws' := [((ma 30), .inl (cB, 40000, .inl gT_58)), ((ma 31), .inl (cI, 100, .inl gTS_59)), (h0, .inr (11, MO ma sv_thrown sv_length sv_nodes sv_many sv_directories sv_runsFrom sv_runs sv_read sv_wrong sv_isNamed sv_goes sv_goesSize sv_goesAt ltp jr)), ((ma 16), .inl (cJ, 46080, .inr (.inl F)))]) [2, 3, 1, 0] (by decide +kernel) rfl
                              have hl := lv_sub hl [0, 1, 2, 3, 4, 5, 6] rfl
                              exact kk197 _ jr gT_58 gTS_59 _ _ _ rfl ((by (try dsimp only); first | assumption | omega | trivial)) hP hD hS hl
                            · skip
                              have g192_210 : r57.toInt = 0 := (i_eq rfl (by decide)).mp h_9
                              refine lv_iconst (v := 0) hx hb d_DiscMakerModel_targetGoesOn_195 (by decide) ?_
                              have hP9 := hP.sub (ws' := [(h0, .inr (11, MO ma sv_thrown sv_length sv_nodes sv_many sv_directories sv_runsFrom sv_runs sv_read sv_wrong sv_isNamed sv_goes sv_goesSize sv_goesAt ltp jr)), ((ma 16), .inl (cJ, 46080, .inr (.inl F))), ((ma 30), .inl (cB, 40000, .inl gT_58)), ((ma 31), .inl (cI, 100, .inl gTS_59))]) [1, 0, 2, 3] rfl
                              have hD9 := hD.sub (ws' := [(h0, .inr (11, MO ma sv_thrown sv_length sv_nodes sv_many sv_directories sv_runsFrom sv_runs sv_read sv_wrong sv_isNamed sv_goes sv_goesSize sv_goesAt ltp jr)), ((ma 16), .inl (cJ, 46080, .inr (.inl F))), ((ma 30), .inl (cB, 40000, .inl gT_58)), ((ma 31), .inl (cI, 100, .inl gTS_59))]) [1, 0, 2, 3] (by decide +kernel) rfl
                              exact W.zret (v := 0) hx hb hr (by first | rfl | decide | exact i_narZ (by omega)) (fun t ht hW => ⟨⟨0, (ltp, jr, gT_58, gTS_59), rfl, ⟨(by (try dsimp only); first | assumption | omega | trivial), (by (try dsimp only); first | assumption | omega | trivial)⟩, by rw [ht]; exact hP9, hD9⟩, hS.F ht⟩) hS.2.2 d_DiscMakerModel_targetGoesOn_196
                        · skip
                          intro kk178
                          refine lv_iload hx hb d_DiscMakerModel_targetGoesOn_161 (lv_at hl 7 rfl) ?_
                          refine lv_if_eq (tgt := 178) hx hb d_DiscMakerModel_targetGoesOn_163 (by decide) (fun h_9 => absurd h_9 (by decide)) (fun _ => ?_)
                          refine lv_aload_n hx hb d_DiscMakerModel_targetGoesOn_166 rfl (lv_at hl 0 rfl) ?_
                          refine lv_iload_n hx hb d_DiscMakerModel_targetGoesOn_167 rfl (lv_at hl 1 rfl) ?_
                          refine lv_bipush (v := 47) hx hb d_DiscMakerModel_targetGoesOn_168 (by decide) ?_
                          have hPc := hP.sub (ws' := [(h0, .inr (11, MO ma sv_thrown sv_length sv_nodes sv_many sv_directories sv_runsFrom sv_runs sv_read sv_wrong sv_isNamed sv_goes sv_goesSize sv_goesAt ltp jr)), ((ma 30), .inl (cB, 40000, .inl lT)), ((ma 31), .inl (cI, 100, .inl lTS))]) [2, 0, 1] rfl
                          have hDc := hD.sub (ws' := [(h0, .inr (11, MO ma sv_thrown sv_length sv_nodes sv_many sv_directories sv_runsFrom sv_runs sv_read sv_wrong sv_isNamed sv_goes sv_goesSize sv_goesAt ltp jr)), ((ma 30), .inl (cB, 40000, .inl lT)), ((ma 31), .inl (cI, 100, .inl lTS))]) [2, 0, 1] (by decide +kernel) rfl
                          have hFc := va_free (wc := [(h0, .inr (11, MO ma sv_thrown sv_length sv_nodes sv_many sv_directories sv_runsFrom sv_runs sv_read sv_wrong sv_isNamed sv_goes sv_goesSize sv_goesAt ltp jr)), ((ma 30), .inl (cB, 40000, .inl lT)), ((ma 31), .inl (cI, 100, .inl lTS))]) hD hS hA [2, 0, 1] rfl
                          have hkc : 0 ≤ 0 := by decide
                          have hks : 0 ≤ 0 := by decide
                          refine va_calli (va_runV (C := "DiscMakerModel") (As := [.int x, .int 47]) (rest := []) ⟨hx, hb, hml, hown, hts⟩ (m_letterOf l D cB cI cJ cZ cN cF H.size h0 ma sv_thrown sv_length sv_nodes sv_many sv_directories sv_runsFrom sv_runs sv_read sv_wrong sv_isNamed sv_goes sv_goesSize sv_goesAt ltp jr lT lTS x 47 (by (try dsimp only); first | assumption | omega | trivial) (by (try dsimp only); first | assumption | omega | trivial)) (cwV 2 hts (lg_goodV k1882 k1884 k110 k125 kc_DiscMakerModel_letterOf) rfl rfl rfl (by decide +kernel) ⟨Nat.le_of_ble_eq_true rfl, Nat.le_of_ble_eq_true rfl⟩) ⟨fun a U g mk q => by obtain ⟨q0, q1, qP, qK, qN, qD⟩ := q; exact ⟨q0, q1, qP, va_K.moved (u := U) (U := U.calling g mk a) (Vm.Alike.refl U.vm) qK, qN.calling, qD⟩, va_recv hK hP (ci := 11) (q0 := 2) rfl rfl, fun U hU hW => ⟨rfl, by rw [hU], by rw [hU]; exact hPc, va_K.moved hW.alike hK, NN.warm hW hN, hDc.weaken (fun _ _ _ _ => trivial)⟩⟩ rfl rfl hl.1 rfl (lv_room (Nat.le_of_ble_eq_true rfl)) d_DiscMakerModel_targetGoesOn_170 ⟨hkc, hks⟩) hS (fun q _ h => hFc q h) hFc (fun r62 u t H1 locs ht hvm hp_r62 hB hz1 hk1 hS => ?_)
                          obtain ⟨gT_63, gTS_64⟩ := u
                          obtain ⟨hP1, hD1⟩ := hB
                          rw [ht] at hP1
                          obtain ⟨hP, hD⟩ := va_join (wr := [((ma 16), .inl (cJ, 46080, .inr (.inl F)))]) (w1 := [(h0, .inr (11, MO ma sv_thrown sv_length sv_nodes sv_many sv_directories sv_runsFrom sv_runs sv_read sv_wrong sv_isNamed sv_goes sv_goesSize sv_goesAt ltp jr)), ((ma 30), .inl (cB, 40000, .inl gT_63)), ((ma 31), .inl (cI, 100, .inl gTS_64))]) hP hD [2, 0, 1] [3] rfl rfl (by decide +kernel) (by decide +kernel) hk1 hFc hP1 hD1
                          clear hPc hDc hFc hP1 hD1 hk1 hz1 hkc hks
                          generalize H1 = H at hP hS ⊢
                          have hP : va_P D CL [((ma 16), .inl (cJ, 46080, .inr (.inl F))), (h0, .inr (11, MO ma sv_thrown sv_length sv_nodes sv_many sv_directories sv_runsFrom sv_runs sv_read sv_wrong sv_isNamed sv_goes sv_goesSize sv_goesAt ltp jr)), ((ma 30), .inl (cB, 40000, .inl gT_63)), ((ma 31), .inl (cI, 100, .inl gTS_64))] H := hP
                          have hD : va_D A [((ma 16), .inl (cJ, 46080, .inr (.inl F))), (h0, .inr (11, MO ma sv_thrown sv_length sv_nodes sv_many sv_directories sv_runsFrom sv_runs sv_read sv_wrong sv_isNamed sv_goes sv_goesSize sv_goesAt ltp jr)), ((ma 30), .inl (cB, 40000, .inl gT_63)), ((ma 31), .inl (cI, 100, .inl gTS_64))] := hD
                          try dsimp only at hp_r62
                          obtain ⟨hr_65, hgTS_66⟩ := hp_r62
                          refine lv_if_ne (tgt := 178) hx hb d_DiscMakerModel_targetGoesOn_173 (by decide) (fun h_9 => ?_) (fun h_9 => ?_)
                          · skip
                            have g173_220 : ¬ r62.toInt = 0 := fun h8 => h_9 ((i_eq rfl (by decide)).mpr h8)
                            have hP := hP.sub (ws' := [((ma 30), .inl (cB, 40000, .inl gT_63)), ((ma 31), .inl (cI, 100, .inl gTS_64)), (h0, .inr (11, MO ma sv_thrown sv_length sv_nodes sv_many sv_directories sv_runsFrom sv_runs sv_read sv_wrong sv_isNamed sv_goes sv_goesSize sv_goesAt ltp jr)), ((ma 16), .inl (cJ, 46080, .inr (.inl F)))]) [2, 3, 1, 0] rfl
                            have hD := hD.sub (ws' := [((ma 30), .inl (cB, 40000, .inl gT_63)), ((ma 31), .inl (cI, 100, .inl gTS_64)), (h0, .inr (11, MO ma sv_thrown sv_length sv_nodes sv_many sv_directories sv_runsFrom sv_runs sv_read sv_wrong sv_isNamed sv_goes sv_goesSize sv_goesAt ltp jr)), ((ma 16), .inl (cJ, 46080, .inr (.inl F)))]) [2, 3, 1, 0] (by decide +kernel) rfl
                            have hl := lv_sub hl [0, 1, 2, 3, 4, 5, 6, 7] rfl
                            exact kk178 _ gT_63 gTS_64 _ _ _ rfl ((by (try dsimp only); first | assumption | omega | trivial)) hP hD hS hl
                          · skip
                            have g173_220 : r62.toInt = 0 := (i_eq rfl (by decide)).mp h_9
                            refine lv_iconst (v := 0) hx hb d_DiscMakerModel_targetGoesOn_176 (by decide) ?_
                            have hP9 := hP.sub (ws' := [(h0, .inr (11, MO ma sv_thrown sv_length sv_nodes sv_many sv_directories sv_runsFrom sv_runs sv_read sv_wrong sv_isNamed sv_goes sv_goesSize sv_goesAt ltp jr)), ((ma 16), .inl (cJ, 46080, .inr (.inl F))), ((ma 30), .inl (cB, 40000, .inl gT_63)), ((ma 31), .inl (cI, 100, .inl gTS_64))]) [1, 0, 2, 3] rfl
                            have hD9 := hD.sub (ws' := [(h0, .inr (11, MO ma sv_thrown sv_length sv_nodes sv_many sv_directories sv_runsFrom sv_runs sv_read sv_wrong sv_isNamed sv_goes sv_goesSize sv_goesAt ltp jr)), ((ma 16), .inl (cJ, 46080, .inr (.inl F))), ((ma 30), .inl (cB, 40000, .inl gT_63)), ((ma 31), .inl (cI, 100, .inl gTS_64))]) [1, 0, 2, 3] (by decide +kernel) rfl
                            exact W.zret (v := 0) hx hb hr (by first | rfl | decide | exact i_narZ (by omega)) (fun t ht hW => ⟨⟨0, (ltp, jr, gT_63, gTS_64), rfl, ⟨(by (try dsimp only); first | assumption | omega | trivial), (by (try dsimp only); first | assumption | omega | trivial)⟩, by rw [ht]; exact hP9, hD9⟩, hS.F ht⟩) hS.2.2 d_DiscMakerModel_targetGoesOn_177
                      · skip
                        intro kk158
                        refine lv_aload_n hx hb d_DiscMakerModel_targetGoesOn_138 rfl (lv_at hl 1 rfl) ?_
                        refine lv_aload_n hx hb d_DiscMakerModel_targetGoesOn_139 rfl (lv_at hl 1 rfl) ?_
                        refine va_get (D := D) (ci := 11) (v := .int ltp) (C := "DiscMakerModel") (T := F_DiscMakerModel) (N := 48) hx hb ht9 in_DiscMakerModel hown hK hP 2 rfl rfl 46 (by decide) (ht9 _ k1477) (fun _ h9 => h9) rfl d_DiscMakerModel_targetGoesOn_140 ?_
                        refine lv_if_ne (tgt := 157) hx hb d_DiscMakerModel_targetGoesOn_143 (by decide) (fun h_9 => ?_) (fun h_9 => ?_)
                        · skip
                          have g143_227 : ¬ ltp.toInt = 0 := fun h8 => h_9 ((i_eq rfl (by decide)).mpr h8)
                          refine lv_iconst (v := 0) hx hb d_DiscMakerModel_targetGoesOn_157 (by decide) ?_
                          have hP := hP.sub (ws' := [((ma 30), .inl (cB, 40000, .inl lT)), ((ma 31), .inl (cI, 100, .inl lTS)), (h0, .inr (11, MO ma sv_thrown sv_length sv_nodes sv_many sv_directories sv_runsFrom sv_runs sv_read sv_wrong sv_isNamed sv_goes sv_goesSize sv_goesAt ltp lro)), ((ma 16), .inl (cJ, 46080, .inr (.inl F)))]) [0, 1, 2, 3] rfl
                          have hD := hD.sub (ws' := [((ma 30), .inl (cB, 40000, .inl lT)), ((ma 31), .inl (cI, 100, .inl lTS)), (h0, .inr (11, MO ma sv_thrown sv_length sv_nodes sv_many sv_directories sv_runsFrom sv_runs sv_read sv_wrong sv_isNamed sv_goes sv_goesSize sv_goesAt ltp lro)), ((ma 16), .inl (cJ, 46080, .inr (.inl F)))]) [0, 1, 2, 3] (by decide +kernel) rfl
                          have hl := lv_sub hl [1, 2, 3, 4, 5, 6, 7, 0] rfl
                          exact kk158 _ 0 _ _ _ rfl ((by (try dsimp only); first | assumption | omega | trivial)) hP hD hS hl
                        · skip
                          have g143_227 : ltp.toInt = 0 := (i_eq rfl (by decide)).mp h_9
                          refine lv_iload hx hb d_DiscMakerModel_targetGoesOn_146 (lv_at hl 6 rfl) ?_
                          refine lv_bipush (v := 8) hx hb d_DiscMakerModel_targetGoesOn_148 (by decide) ?_
                          refine lv_icmp_ne (tgt := 157) hx hb d_DiscMakerModel_targetGoesOn_150 (by decide) (fun h_9 => ?_) (fun h_9 => ?_)
                          · skip
                            have g150_232 : ¬ r10.toInt = 8 := fun h8 => h_9 ((i_eq rfl (by decide)).mpr h8)
                            refine lv_iconst (v := 0) hx hb d_DiscMakerModel_targetGoesOn_157 (by decide) ?_
                            have hP := hP.sub (ws' := [((ma 30), .inl (cB, 40000, .inl lT)), ((ma 31), .inl (cI, 100, .inl lTS)), (h0, .inr (11, MO ma sv_thrown sv_length sv_nodes sv_many sv_directories sv_runsFrom sv_runs sv_read sv_wrong sv_isNamed sv_goes sv_goesSize sv_goesAt ltp lro)), ((ma 16), .inl (cJ, 46080, .inr (.inl F)))]) [0, 1, 2, 3] rfl
                            have hD := hD.sub (ws' := [((ma 30), .inl (cB, 40000, .inl lT)), ((ma 31), .inl (cI, 100, .inl lTS)), (h0, .inr (11, MO ma sv_thrown sv_length sv_nodes sv_many sv_directories sv_runsFrom sv_runs sv_read sv_wrong sv_isNamed sv_goes sv_goesSize sv_goesAt ltp lro)), ((ma 16), .inl (cJ, 46080, .inr (.inl F)))]) [0, 1, 2, 3] (by decide +kernel) rfl
                            have hl := lv_sub hl [1, 2, 3, 4, 5, 6, 7, 0] rfl
                            exact kk158 _ 0 _ _ _ rfl ((by (try dsimp only); first | assumption | omega | trivial)) hP hD hS hl
                          · skip
                            have g150_232 : r10.toInt = 8 := (i_eq rfl (by decide)).mp h_9
                            refine lv_iconst (v := 1) hx hb d_DiscMakerModel_targetGoesOn_153 (by decide) ?_
                            refine lv_goto (tgt := 158) hx hb d_DiscMakerModel_targetGoesOn_154 (by decide) ?_
                            have hP := hP.sub (ws' := [((ma 30), .inl (cB, 40000, .inl lT)), ((ma 31), .inl (cI, 100, .inl lTS)), (h0, .inr (11, MO ma sv_thrown sv_length sv_nodes sv_many sv_directories sv_runsFrom sv_runs sv_read sv_wrong sv_isNamed sv_goes sv_goesSize sv_goesAt ltp lro)), ((ma 16), .inl (cJ, 46080, .inr (.inl F)))]) [0, 1, 2, 3] rfl
                            have hD := hD.sub (ws' := [((ma 30), .inl (cB, 40000, .inl lT)), ((ma 31), .inl (cI, 100, .inl lTS)), (h0, .inr (11, MO ma sv_thrown sv_length sv_nodes sv_many sv_directories sv_runsFrom sv_runs sv_read sv_wrong sv_isNamed sv_goes sv_goesSize sv_goesAt ltp lro)), ((ma 16), .inl (cJ, 46080, .inr (.inl F)))]) [0, 1, 2, 3] (by decide +kernel) rfl
                            have hl := lv_sub hl [1, 2, 3, 4, 5, 6, 7, 0] rfl
                            exact kk158 _ 1 _ _ _ rfl ((by (try dsimp only); first | assumption | omega | trivial)) hP hD hS hl
                  · skip
                    have g121_143 : ltp.toInt = 1 := (i_eq rfl (by decide)).mp h_9
                    refine lv_aload_n hx hb d_DiscMakerModel_targetGoesOn_124 rfl (lv_at hl 0 rfl) ?_
                    refine va_get (D := D) (ci := 11) (v := .int lro) (C := "DiscMakerModel") (T := F_DiscMakerModel) (N := 48) hx hb ht9 in_DiscMakerModel hown hK hP 2 rfl rfl 47 (by decide) (ht9 _ k1478) (fun _ h9 => h9) rfl d_DiscMakerModel_targetGoesOn_125 ?_
                    refine lv_if_ne (tgt := 135) hx hb d_DiscMakerModel_targetGoesOn_128 (by decide) (fun h_9 => ?_) (fun h_9 => ?_)
                    · skip
                      have g128_240 : ¬ lro.toInt = 0 := fun h8 => h_9 ((i_eq rfl (by decide)).mpr h8)
                      refine lv_iconst (v := 0) hx hb d_DiscMakerModel_targetGoesOn_135 (by decide) ?_
                      refine zz_labM (B := fun (lk : Nat) (K : Heap → List Loc → Array Slot → List Value → Prop) => ∀ (jro : Int32) (jT : Nat → Int32) (jTS : Nat → Int32) (H : Heap) (locs : List Loc) (ls : Array Slot), lk = 0 → (Rg 0 400 100 jTS) → va_P D CL [((ma 30), .inl (cB, 40000, .inl jT)), ((ma 31), .inl (cI, 100, .inl jTS)), (h0, .inr (11, MO ma sv_thrown sv_length sv_nodes sv_many sv_directories sv_runsFrom sv_runs sv_read sv_wrong sv_isNamed sv_goes sv_goesSize sv_goesAt ltp jro)), ((ma 16), .inl (cJ, 46080, .inr (.inl F)))] H → va_D A [((ma 30), .inl (cB, 40000, .inl jT)), ((ma 31), .inl (cI, 100, .inl jTS)), (h0, .inr (11, MO ma sv_thrown sv_length sv_nodes sv_many sv_directories sv_runsFrom sv_runs sv_read sv_wrong sv_isNamed sv_goes sv_goesSize sv_goesAt ltp jro)), ((ma 16), .inl (cJ, 46080, .inr (.inl F)))] → va_S A s.heap H locs → lv_has ls 9 [(0, .ref h0), (1, .int x), (2, .int y), (3, .int z), (4, .int lq), (5, .int r10), (6, .int r15)] → K H locs ls []) 197 ?_ ?_
                      · skip
                        intro lk ih197 jro jT jTS H locs ls hm197 hjTS hP hD hS hl
                        refine lv_iconst (v := 0) hx hb d_DiscMakerModel_targetGoesOn_197 (by decide) ?_
                        refine lv_istore hx hb d_DiscMakerModel_targetGoesOn_198 hl (by decide) rfl (fun ls hl => ?_)
                        have hl : lv_has ls 9 [(8, .int 0), (0, .ref h0), (1, .int x), (2, .int y), (3, .int z), (4, .int lq), (5, .int r10), (6, .int r15)] := hl
                        refine zz_labM (B := fun (lk : Nat) (K : Heap → List Loc → Array Slot → List Value → Prop) => ∀ (kx : Int32) (nT : Nat → Int32) (nTS : Nat → Int32) (H : Heap) (locs : List Loc) (ls : Array Slot), lk = (256 - kx.toInt).toNat → (0 ≤ kx.toInt ∧ kx.toInt ≤ 255) → (Rg 0 400 100 nTS) → va_P D CL [((ma 30), .inl (cB, 40000, .inl nT)), ((ma 31), .inl (cI, 100, .inl nTS)), (h0, .inr (11, MO ma sv_thrown sv_length sv_nodes sv_many sv_directories sv_runsFrom sv_runs sv_read sv_wrong sv_isNamed sv_goes sv_goesSize sv_goesAt ltp jro)), ((ma 16), .inl (cJ, 46080, .inr (.inl F)))] H → va_D A [((ma 30), .inl (cB, 40000, .inl nT)), ((ma 31), .inl (cI, 100, .inl nTS)), (h0, .inr (11, MO ma sv_thrown sv_length sv_nodes sv_many sv_directories sv_runsFrom sv_runs sv_read sv_wrong sv_isNamed sv_goes sv_goesSize sv_goesAt ltp jro)), ((ma 16), .inl (cJ, 46080, .inr (.inl F)))] → va_S A s.heap H locs → lv_has ls 9 [(0, .ref h0), (1, .int x), (2, .int y), (3, .int z), (4, .int lq), (5, .int r10), (6, .int r15), (8, .int kx)] → K H locs ls []) 200 ?_ ?_
                        · skip
                          intro lk ih200 kx nT nTS H locs ls hm200 f4 hnTS hP hD hS hl
                          refine lv_iload hx hb d_DiscMakerModel_targetGoesOn_200 (lv_at hl 7 rfl) ?_
                          refine zz_labM (B := fun (lk : Nat) (K : Heap → List Loc → Array Slot → List Value → Prop) => ∀ (lm : Int32) (H : Heap) (locs : List Loc) (ls : Array Slot), lk = 0 → (lm.toInt ≤ 255 ∧ (r10.toInt = 0 → lm.toInt = r15.toInt)) → va_P D CL [((ma 30), .inl (cB, 40000, .inl nT)), ((ma 31), .inl (cI, 100, .inl nTS)), (h0, .inr (11, MO ma sv_thrown sv_length sv_nodes sv_many sv_directories sv_runsFrom sv_runs sv_read sv_wrong sv_isNamed sv_goes sv_goesSize sv_goesAt ltp jro)), ((ma 16), .inl (cJ, 46080, .inr (.inl F)))] H → va_D A [((ma 30), .inl (cB, 40000, .inl nT)), ((ma 31), .inl (cI, 100, .inl nTS)), (h0, .inr (11, MO ma sv_thrown sv_length sv_nodes sv_many sv_directories sv_runsFrom sv_runs sv_read sv_wrong sv_isNamed sv_goes sv_goesSize sv_goesAt ltp jro)), ((ma 16), .inl (cJ, 46080, .inr (.inl F)))] → va_S A s.heap H locs → lv_has ls 9 [(0, .ref h0), (1, .int x), (2, .int y), (3, .int z), (4, .int lq), (5, .int r10), (6, .int r15), (8, .int kx)] → K H locs ls [.int lm, .int kx]) 224 ?_ ?_
                          · skip
                            intro lk ih224 lm H locs ls hm224 f6 hP hD hS hl
                            refine lv_icmp_ge (tgt := 264) hx hb d_DiscMakerModel_targetGoesOn_224 (by decide) (fun h_9 => ?_) (fun h_9 => ?_)
                            · skip
                              have g224_245 : lm.toInt ≤ kx.toInt := (i_le rfl rfl).mp h_9
                              refine lv_aload_n hx hb d_DiscMakerModel_targetGoesOn_264 rfl (lv_at hl 0 rfl) ?_
                              refine lv_dup hx hb d_DiscMakerModel_targetGoesOn_265 rfl ?_
                              refine va_get (D := D) (ci := 11) (v := .int ltp) (C := "DiscMakerModel") (T := F_DiscMakerModel) (N := 48) hx hb ht9 in_DiscMakerModel hown hK hP 2 rfl rfl 46 (by decide) (ht9 _ k1477) (fun _ h9 => h9) rfl d_DiscMakerModel_targetGoesOn_266 ?_
                              refine lv_iconst (v := 1) hx hb d_DiscMakerModel_targetGoesOn_269 (by decide) ?_
                              refine lv_iadd hx hb d_DiscMakerModel_targetGoesOn_270 ?_
                              refine lv_topi (fun v67 e_v67 => ?_)
                              refine va_put (D := D) (ci := 11) (v := .int v67) (ty := .int) (C := "DiscMakerModel") (T := F_DiscMakerModel) (N := 48) hx hb ht9 in_DiscMakerModel t_DiscMakerModel t_DiscMakerModel_ok n_DiscMakerModel hown hK hP hD hS 2 rfl rfl 46 (by decide) (ht9 _ k1477) (fun _ h9 => h9) rfl (by decide +kernel) rfl rfl (Nat.le_of_ble_eq_true rfl) d_DiscMakerModel_targetGoesOn_271 (fun H locs hP hD hS => ?_)
                              have hP : va_P D CL [((ma 30), .inl (cB, 40000, .inl nT)), ((ma 31), .inl (cI, 100, .inl nTS)), (h0, .inr (11, MO ma sv_thrown sv_length sv_nodes sv_many sv_directories sv_runsFrom sv_runs sv_read sv_wrong sv_isNamed sv_goes sv_goesSize sv_goesAt v67 jro)), ((ma 16), .inl (cJ, 46080, .inr (.inl F)))] H := hP
                              have hD : va_D A [((ma 30), .inl (cB, 40000, .inl nT)), ((ma 31), .inl (cI, 100, .inl nTS)), (h0, .inr (11, MO ma sv_thrown sv_length sv_nodes sv_many sv_directories sv_runsFrom sv_runs sv_read sv_wrong sv_isNamed sv_goes sv_goesSize sv_goesAt v67 jro)), ((ma 16), .inl (cJ, 46080, .inr (.inl F)))] := hD
                              refine lv_iload hx hb d_DiscMakerModel_targetGoesOn_274 (lv_at hl 4 rfl) ?_
                              refine lv_iconst (v := 2) hx hb d_DiscMakerModel_targetGoesOn_276 (by decide) ?_
                              refine lv_iload hx hb d_DiscMakerModel_targetGoesOn_277 (lv_at hl 6 rfl) ?_
                              refine lv_iadd hx hb d_DiscMakerModel_targetGoesOn_279 ?_
                              refine lv_topi (fun v68 e_v68 => ?_)
                              have t_v68 : v68.toInt = 2 + r15.toInt := by rw [e_v68]; exact i_add (by decide) rfl (by omega) (by omega)
                              refine lv_iadd hx hb d_DiscMakerModel_targetGoesOn_280 ?_
                              refine lv_topi (fun v69 e_v69 => ?_)
                              have t_v69 : v69.toInt = lq.toInt + v68.toInt := by rw [e_v69]; exact i_add rfl rfl (by omega) (by omega)
                              refine lv_istore hx hb d_DiscMakerModel_targetGoesOn_281 hl (by decide) rfl (fun ls hl => ?_)
                              have hl : lv_has ls 9 [(4, .int v69), (0, .ref h0), (1, .int x), (2, .int y), (3, .int z), (5, .int r10), (6, .int r15), (8, .int kx)] := hl
                              refine lv_goto (tgt := 22) hx hb d_DiscMakerModel_targetGoesOn_283 (by decide) ?_
                              have hP := hP.sub (ws' := [((ma 30), .inl (cB, 40000, .inl nT)), ((ma 31), .inl (cI, 100, .inl nTS)), (h0, .inr (11, MO ma sv_thrown sv_length sv_nodes sv_many sv_directories sv_runsFrom sv_runs sv_read sv_wrong sv_isNamed sv_goes sv_goesSize sv_goesAt v67 jro)), ((ma 16), .inl (cJ, 46080, .inr (.inl F)))]) [0, 1, 2, 3] rfl
                              have hD := hD.sub (ws' := [((ma 30), .inl (cB, 40000, .inl nT)), ((ma 31), .inl (cI, 100, .inl nTS)), (h0, .inr (11, MO ma sv_thrown sv_length sv_nodes sv_many sv_directories sv_runsFrom sv_runs sv_read sv_wrong sv_isNamed sv_goes sv_goesSize sv_goesAt v67 jro)), ((ma 16), .inl (cJ, 46080, .inr (.inl F)))]) [0, 1, 2, 3] (by decide +kernel) rfl
                              have hl := lv_sub hl [1, 2, 3, 4, 0] rfl
                              exact ih22 _ (by first | omega | (dsimp only; omega)) v69 v67 jro nT nTS _ _ _ rfl ((by (try dsimp only); first | assumption | omega | trivial)) ((by (try dsimp only); first | assumption | omega | trivial)) hP hD hS hl
                            · skip
                              have g224_245 : ¬ lm.toInt ≤ kx.toInt := fun h8 => h_9 ((i_le rfl rfl).mpr h8)
                              refine lv_aload_n hx hb d_DiscMakerModel_targetGoesOn_227 rfl (lv_at hl 0 rfl) ?_
                              refine lv_iload_n hx hb d_DiscMakerModel_targetGoesOn_228 rfl (lv_at hl 1 rfl) ?_
                              refine zz_labM (B := fun (lk : Nat) (K : Heap → List Loc → Array Slot → List Value → Prop) => ∀ (ch : Int32) (H : Heap) (locs : List Loc) (ls : Array Slot), lk = 0 → va_P D CL [((ma 30), .inl (cB, 40000, .inl nT)), ((ma 31), .inl (cI, 100, .inl nTS)), (h0, .inr (11, MO ma sv_thrown sv_length sv_nodes sv_many sv_directories sv_runsFrom sv_runs sv_read sv_wrong sv_isNamed sv_goes sv_goesSize sv_goesAt ltp jro)), ((ma 16), .inl (cJ, 46080, .inr (.inl F)))] H → va_D A [((ma 30), .inl (cB, 40000, .inl nT)), ((ma 31), .inl (cI, 100, .inl nTS)), (h0, .inr (11, MO ma sv_thrown sv_length sv_nodes sv_many sv_directories sv_runsFrom sv_runs sv_read sv_wrong sv_isNamed sv_goes sv_goesSize sv_goesAt ltp jro)), ((ma 16), .inl (cJ, 46080, .inr (.inl F)))] → va_S A s.heap H locs → lv_has ls 9 [(0, .ref h0), (1, .int x), (2, .int y), (3, .int z), (4, .int lq), (5, .int r10), (6, .int r15), (8, .int kx)] → K H locs ls [.int ch, .int x, .ref h0]) 250 ?_ ?_
                              · skip
                                intro lk ih250 ch H locs ls hm250 hP hD hS hl
                                have hPc := hP.sub (ws' := [(h0, .inr (11, MO ma sv_thrown sv_length sv_nodes sv_many sv_directories sv_runsFrom sv_runs sv_read sv_wrong sv_isNamed sv_goes sv_goesSize sv_goesAt ltp jro)), ((ma 30), .inl (cB, 40000, .inl nT)), ((ma 31), .inl (cI, 100, .inl nTS))]) [2, 0, 1] rfl
                                have hDc := hD.sub (ws' := [(h0, .inr (11, MO ma sv_thrown sv_length sv_nodes sv_many sv_directories sv_runsFrom sv_runs sv_read sv_wrong sv_isNamed sv_goes sv_goesSize sv_goesAt ltp jro)), ((ma 30), .inl (cB, 40000, .inl nT)), ((ma 31), .inl (cI, 100, .inl nTS))]) [2, 0, 1] (by decide +kernel) rfl
                                have hFc := va_free (wc := [(h0, .inr (11, MO ma sv_thrown sv_length sv_nodes sv_many sv_directories sv_runsFrom sv_runs sv_read sv_wrong sv_isNamed sv_goes sv_goesSize sv_goesAt ltp jro)), ((ma 30), .inl (cB, 40000, .inl nT)), ((ma 31), .inl (cI, 100, .inl nTS))]) hD hS hA [2, 0, 1] rfl
                                have hkc : 0 ≤ 0 := by decide
                                have hks : 0 ≤ 0 := by decide
                                refine va_calli (va_runV (C := "DiscMakerModel") (As := [.int x, .int ch]) (rest := []) ⟨hx, hb, hml, hown, hts⟩ (m_letterOf l D cB cI cJ cZ cN cF H.size h0 ma sv_thrown sv_length sv_nodes sv_many sv_directories sv_runsFrom sv_runs sv_read sv_wrong sv_isNamed sv_goes sv_goesSize sv_goesAt ltp jro nT nTS x ch (by (try dsimp only); first | assumption | omega | trivial) (by (try dsimp only); first | assumption | omega | trivial)) (cwV 2 hts (lg_goodV k1882 k1884 k110 k125 kc_DiscMakerModel_letterOf) rfl rfl rfl (by decide +kernel) ⟨Nat.le_of_ble_eq_true rfl, Nat.le_of_ble_eq_true rfl⟩) ⟨fun a U g mk q => by obtain ⟨q0, q1, qP, qK, qN, qD⟩ := q; exact ⟨q0, q1, qP, va_K.moved (u := U) (U := U.calling g mk a) (Vm.Alike.refl U.vm) qK, qN.calling, qD⟩, va_recv hK hP (ci := 11) (q0 := 2) rfl rfl, fun U hU hW => ⟨rfl, by rw [hU], by rw [hU]; exact hPc, va_K.moved hW.alike hK, NN.warm hW hN, hDc.weaken (fun _ _ _ _ => trivial)⟩⟩ rfl rfl hl.1 rfl (lv_room (Nat.le_of_ble_eq_true rfl)) d_DiscMakerModel_targetGoesOn_250 ⟨hkc, hks⟩) hS (fun q _ h => hFc q h) hFc (fun r70 u t H1 locs ht hvm hp_r70 hB hz1 hk1 hS => ?_)
                                obtain ⟨gT_71, gTS_72⟩ := u
                                obtain ⟨hP1, hD1⟩ := hB
                                rw [ht] at hP1
                                obtain ⟨hP, hD⟩ := va_join (wr := [((ma 16), .inl (cJ, 46080, .inr (.inl F)))]) (w1 := [(h0, .inr (11, MO ma sv_thrown sv_length sv_nodes sv_many sv_directories sv_runsFrom sv_runs sv_read sv_wrong sv_isNamed sv_goes sv_goesSize sv_goesAt ltp jro)), ((ma 30), .inl (cB, 40000, .inl gT_71)), ((ma 31), .inl (cI, 100, .inl gTS_72))]) hP hD [2, 0, 1] [3] rfl rfl (by decide +kernel) (by decide +kernel) hk1 hFc hP1 hD1
                                clear hPc hDc hFc hP1 hD1 hk1 hz1 hkc hks
                                generalize H1 = H at hP hS ⊢
                                have hP : va_P D CL [((ma 16), .inl (cJ, 46080, .inr (.inl F))), (h0, .inr (11, MO ma sv_thrown sv_length sv_nodes sv_many sv_directories sv_runsFrom sv_runs sv_read sv_wrong sv_isNamed sv_goes sv_goesSize sv_goesAt ltp jro)), ((ma 30), .inl (cB, 40000, .inl gT_71)), ((ma 31), .inl (cI, 100, .inl gTS_72))] H := hP
                                have hD : va_D A [((ma 16), .inl (cJ, 46080, .inr (.inl F))), (h0, .inr (11, MO ma sv_thrown sv_length sv_nodes sv_many sv_directories sv_runsFrom sv_runs sv_read sv_wrong sv_isNamed sv_goes sv_goesSize sv_goesAt ltp jro)), ((ma 30), .inl (cB, 40000, .inl gT_71)), ((ma 31), .inl (cI, 100, .inl gTS_72))] := hD
                                try dsimp only at hp_r70
                                obtain ⟨hr_73, hgTS_74⟩ := hp_r70
                                refine lv_if_ne (tgt := 258) hx hb d_DiscMakerModel_targetGoesOn_253 (by decide) (fun h_9 => ?_) (fun h_9 => ?_)
                                · skip
                                  have g253_263 : ¬ r70.toInt = 0 := fun h8 => h_9 ((i_eq rfl (by decide)).mpr h8)
                                  obtain ⟨v75, e_v75⟩ : ∃ z : Int32, z = kx + 1 := ⟨_, rfl⟩
                                  refine lv_iinc (v := v75) hx hb d_DiscMakerModel_targetGoesOn_258 hl (k := 7) rfl e_v75.symm (by decide +kernel) rfl (fun ls hl => ?_)
                                  have t_v75 : v75.toInt = kx.toInt + 1 := by rw [e_v75]; exact i_add rfl (by decide) (by omega) (by omega)
                                  have hl : lv_has ls 9 [(8, .int v75), (0, .ref h0), (1, .int x), (2, .int y), (3, .int z), (4, .int lq), (5, .int r10), (6, .int r15)] := hl
                                  refine lv_goto (tgt := 200) hx hb d_DiscMakerModel_targetGoesOn_261 (by decide) ?_
                                  have hP := hP.sub (ws' := [((ma 30), .inl (cB, 40000, .inl gT_71)), ((ma 31), .inl (cI, 100, .inl gTS_72)), (h0, .inr (11, MO ma sv_thrown sv_length sv_nodes sv_many sv_directories sv_runsFrom sv_runs sv_read sv_wrong sv_isNamed sv_goes sv_goesSize sv_goesAt ltp jro)), ((ma 16), .inl (cJ, 46080, .inr (.inl F)))]) [2, 3, 1, 0] rfl
                                  have hD := hD.sub (ws' := [((ma 30), .inl (cB, 40000, .inl gT_71)), ((ma 31), .inl (cI, 100, .inl gTS_72)), (h0, .inr (11, MO ma sv_thrown sv_length sv_nodes sv_many sv_directories sv_runsFrom sv_runs sv_read sv_wrong sv_isNamed sv_goes sv_goesSize sv_goesAt ltp jro)), ((ma 16), .inl (cJ, 46080, .inr (.inl F)))]) [2, 3, 1, 0] (by decide +kernel) rfl
                                  have hl := lv_sub hl [1, 2, 3, 4, 5, 6, 7, 0] rfl
                                  exact ih200 _ (by first | omega | (dsimp only; omega)) v75 gT_71 gTS_72 _ _ _ rfl ((by (try dsimp only); first | assumption | omega | trivial)) ((by (try dsimp only); first | assumption | omega | trivial)) hP hD hS hl
                                · skip
                                  have g253_263 : r70.toInt = 0 := (i_eq rfl (by decide)).mp h_9
                                  refine lv_iconst (v := 0) hx hb d_DiscMakerModel_targetGoesOn_256 (by decide) ?_
                                  have hP9 := hP.sub (ws' := [(h0, .inr (11, MO ma sv_thrown sv_length sv_nodes sv_many sv_directories sv_runsFrom sv_runs sv_read sv_wrong sv_isNamed sv_goes sv_goesSize sv_goesAt ltp jro)), ((ma 16), .inl (cJ, 46080, .inr (.inl F))), ((ma 30), .inl (cB, 40000, .inl gT_71)), ((ma 31), .inl (cI, 100, .inl gTS_72))]) [1, 0, 2, 3] rfl
                                  have hD9 := hD.sub (ws' := [(h0, .inr (11, MO ma sv_thrown sv_length sv_nodes sv_many sv_directories sv_runsFrom sv_runs sv_read sv_wrong sv_isNamed sv_goes sv_goesSize sv_goesAt ltp jro)), ((ma 16), .inl (cJ, 46080, .inr (.inl F))), ((ma 30), .inl (cB, 40000, .inl gT_71)), ((ma 31), .inl (cI, 100, .inl gTS_72))]) [1, 0, 2, 3] (by decide +kernel) rfl
                                  exact W.zret (v := 0) hx hb hr (by first | rfl | decide | exact i_narZ (by omega)) (fun t ht hW => ⟨⟨0, (ltp, jro, gT_71, gTS_72), rfl, ⟨(by (try dsimp only); first | assumption | omega | trivial), (by (try dsimp only); first | assumption | omega | trivial)⟩, by rw [ht]; exact hP9, hD9⟩, hS.F ht⟩) hS.2.2 d_DiscMakerModel_targetGoesOn_257
                              · skip
                                intro kk250
                                refine lv_iload hx hb d_DiscMakerModel_targetGoesOn_229 (lv_at hl 5 rfl) ?_
                                refine lv_if_ne (tgt := 248) hx hb d_DiscMakerModel_targetGoesOn_231 (by decide) (fun h_9 => ?_) (fun h_9 => ?_)
                                · skip
                                  have g231_270 : ¬ r10.toInt = 0 := fun h8 => h_9 ((i_eq rfl (by decide)).mpr h8)
                                  refine lv_bipush (v := 46) hx hb d_DiscMakerModel_targetGoesOn_248 (by decide) ?_
                                  have hP := hP.sub (ws' := [((ma 30), .inl (cB, 40000, .inl nT)), ((ma 31), .inl (cI, 100, .inl nTS)), (h0, .inr (11, MO ma sv_thrown sv_length sv_nodes sv_many sv_directories sv_runsFrom sv_runs sv_read sv_wrong sv_isNamed sv_goes sv_goesSize sv_goesAt ltp jro)), ((ma 16), .inl (cJ, 46080, .inr (.inl F)))]) [0, 1, 2, 3] rfl
                                  have hD := hD.sub (ws' := [((ma 30), .inl (cB, 40000, .inl nT)), ((ma 31), .inl (cI, 100, .inl nTS)), (h0, .inr (11, MO ma sv_thrown sv_length sv_nodes sv_many sv_directories sv_runsFrom sv_runs sv_read sv_wrong sv_isNamed sv_goes sv_goesSize sv_goesAt ltp jro)), ((ma 16), .inl (cJ, 46080, .inr (.inl F)))]) [0, 1, 2, 3] (by decide +kernel) rfl
                                  have hl := lv_sub hl [0, 1, 2, 3, 4, 5, 6, 7] rfl
                                  exact kk250 _ 46 _ _ _ rfl  hP hD hS hl
                                · skip
                                  have g231_270 : r10.toInt = 0 := (i_eq rfl (by decide)).mp h_9
                                  refine lv_aload_n hx hb d_DiscMakerModel_targetGoesOn_234 rfl (lv_at hl 0 rfl) ?_
                                  refine lv_iload hx hb d_DiscMakerModel_targetGoesOn_235 (lv_at hl 4 rfl) ?_
                                  refine lv_iconst (v := 2) hx hb d_DiscMakerModel_targetGoesOn_237 (by decide) ?_
                                  refine lv_iadd hx hb d_DiscMakerModel_targetGoesOn_238 ?_
                                  refine lv_topi (fun v76 e_v76 => ?_)
                                  have t_v76 : v76.toInt = lq.toInt + 2 := by rw [e_v76]; exact i_add rfl (by decide) (by omega) (by omega)
                                  refine lv_iload hx hb d_DiscMakerModel_targetGoesOn_239 (lv_at hl 7 rfl) ?_
                                  refine lv_iadd hx hb d_DiscMakerModel_targetGoesOn_241 ?_
                                  refine lv_topi (fun v77 e_v77 => ?_)
                                  have t_v77 : v77.toInt = v76.toInt + kx.toInt := by rw [e_v77]; exact i_add rfl rfl (by omega) (by omega)
                                  have hPc := hP.sub (ws' := [(h0, .inr (11, MO ma sv_thrown sv_length sv_nodes sv_many sv_directories sv_runsFrom sv_runs sv_read sv_wrong sv_isNamed sv_goes sv_goesSize sv_goesAt ltp jro)), ((ma 16), .inl (cJ, 46080, .inr (.inl F)))]) [2, 3] rfl
                                  have hDc := hD.sub (ws' := [(h0, .inr (11, MO ma sv_thrown sv_length sv_nodes sv_many sv_directories sv_runsFrom sv_runs sv_read sv_wrong sv_isNamed sv_goes sv_goesSize sv_goesAt ltp jro)), ((ma 16), .inl (cJ, 46080, .inr (.inl F)))]) [2, 3] (by decide +kernel) rfl
                                  have hFc := va_free (wc := [(h0, .inr (11, MO ma sv_thrown sv_length sv_nodes sv_many sv_directories sv_runsFrom sv_runs sv_read sv_wrong sv_isNamed sv_goes sv_goesSize sv_goesAt ltp jro)), ((ma 16), .inl (cJ, 46080, .inr (.inl F)))]) hD hS hA [2, 3] rfl
                                  have hkc : 0 ≤ 0 := by decide
                                  have hks : 0 ≤ 0 := by decide
                                  refine va_calli (va_runV (C := "DiscMakerModel") (As := [.int v77]) (rest := [.int x, .ref h0]) ⟨hx, hb, hml, hown, hts⟩ (m_at l D cB cI cJ cZ cN cF H.size h0 ma sv_thrown sv_length sv_nodes sv_many sv_directories sv_runsFrom sv_runs sv_read sv_wrong sv_isNamed sv_goes sv_goesSize sv_goesAt ltp jro F v77 (by (try dsimp only); first | assumption | omega | trivial) (by (try dsimp only); first | assumption | omega | trivial)) (cwV 1 hts (lg_goodV k1809 k1811 k95 k125 kc_DiscMakerModel_at) rfl rfl rfl (by decide +kernel) ⟨Nat.le_of_ble_eq_true rfl, Nat.le_of_ble_eq_true rfl⟩) ⟨fun a U g mk q => by obtain ⟨q0, q1, qP, qK, qN, qD⟩ := q; exact ⟨q0, q1, qP, va_K.moved (u := U) (U := U.calling g mk a) (Vm.Alike.refl U.vm) qK, qN.calling, qD⟩, va_recv hK hP (ci := 11) (q0 := 2) rfl rfl, fun U hU hW => ⟨rfl, by rw [hU], by rw [hU]; exact hPc, va_K.moved hW.alike hK, NN.warm hW hN, hDc.weaken (fun _ _ _ _ => trivial)⟩⟩ rfl rfl hl.1 rfl (lv_room (Nat.le_of_ble_eq_true rfl)) d_DiscMakerModel_targetGoesOn_242 ⟨hkc, hks⟩) hS (fun q _ h => hFc q h) hFc (fun r78 u t H1 locs ht hvm hp_r78 hB hz1 hk1 hS => ?_)
                                  obtain ⟨hP1, hD1⟩ := hB
                                  rw [ht] at hP1
                                  obtain ⟨hP, hD⟩ := va_join (wr := [((ma 30), .inl (cB, 40000, .inl nT)), ((ma 31), .inl (cI, 100, .inl nTS))]) (w1 := [(h0, .inr (11, MO ma sv_thrown sv_length sv_nodes sv_many sv_directories sv_runsFrom sv_runs sv_read sv_wrong sv_isNamed sv_goes sv_goesSize sv_goesAt ltp jro)), ((ma 16), .inl (cJ, 46080, .inr (.inl F)))]) hP hD [2, 3] [0, 1] rfl rfl (by decide +kernel) (by decide +kernel) hk1 hFc hP1 hD1
                                  clear hPc hDc hFc hP1 hD1 hk1 hz1 hkc hks
                                  generalize H1 = H at hP hS ⊢
                                  have hP : va_P D CL [((ma 30), .inl (cB, 40000, .inl nT)), ((ma 31), .inl (cI, 100, .inl nTS)), (h0, .inr (11, MO ma sv_thrown sv_length sv_nodes sv_many sv_directories sv_runsFrom sv_runs sv_read sv_wrong sv_isNamed sv_goes sv_goesSize sv_goesAt ltp jro)), ((ma 16), .inl (cJ, 46080, .inr (.inl F)))] H := hP
                                  have hD : va_D A [((ma 30), .inl (cB, 40000, .inl nT)), ((ma 31), .inl (cI, 100, .inl nTS)), (h0, .inr (11, MO ma sv_thrown sv_length sv_nodes sv_many sv_directories sv_runsFrom sv_runs sv_read sv_wrong sv_isNamed sv_goes sv_goesSize sv_goesAt ltp jro)), ((ma 16), .inl (cJ, 46080, .inr (.inl F)))] := hD
                                  try dsimp only at hp_r78
                                  obtain ⟨hr_79, hv_80, hw_81⟩ := hp_r78
                                  refine lv_goto (tgt := 250) hx hb d_DiscMakerModel_targetGoesOn_245 (by decide) ?_
                                  have hP := hP.sub (ws' := [((ma 30), .inl (cB, 40000, .inl nT)), ((ma 31), .inl (cI, 100, .inl nTS)), (h0, .inr (11, MO ma sv_thrown sv_length sv_nodes sv_many sv_directories sv_runsFrom sv_runs sv_read sv_wrong sv_isNamed sv_goes sv_goesSize sv_goesAt ltp jro)), ((ma 16), .inl (cJ, 46080, .inr (.inl F)))]) [0, 1, 2, 3] rfl
                                  have hD := hD.sub (ws' := [((ma 30), .inl (cB, 40000, .inl nT)), ((ma 31), .inl (cI, 100, .inl nTS)), (h0, .inr (11, MO ma sv_thrown sv_length sv_nodes sv_many sv_directories sv_runsFrom sv_runs sv_read sv_wrong sv_isNamed sv_goes sv_goesSize sv_goesAt ltp jro)), ((ma 16), .inl (cJ, 46080, .inr (.inl F)))]) [0, 1, 2, 3] (by decide +kernel) rfl
                                  have hl := lv_sub hl [0, 1, 2, 3, 4, 5, 6, 7] rfl
                                  exact kk250 _ r78 _ _ _ rfl  hP hD hS hl
                          · skip
                            intro kk224
                            refine lv_iload hx hb d_DiscMakerModel_targetGoesOn_202 (lv_at hl 5 rfl) ?_
                            refine lv_iconst (v := 2) hx hb d_DiscMakerModel_targetGoesOn_204 (by decide) ?_
                            refine lv_icmp_ne (tgt := 212) hx hb d_DiscMakerModel_targetGoesOn_205 (by decide) (fun h_9 => ?_) (fun h_9 => ?_)
                            · skip
                              have g205_284 : ¬ r10.toInt = 2 := fun h8 => h_9 ((i_eq rfl (by decide)).mpr h8)
                              refine lv_iload hx hb d_DiscMakerModel_targetGoesOn_212 (lv_at hl 5 rfl) ?_
                              refine lv_iconst (v := 4) hx hb d_DiscMakerModel_targetGoesOn_214 (by decide) ?_
                              refine lv_icmp_ne (tgt := 222) hx hb d_DiscMakerModel_targetGoesOn_215 (by decide) (fun h_9 => ?_) (fun h_9 => ?_)
                              · skip
                                have g215_287 : ¬ r10.toInt = 4 := fun h8 => h_9 ((i_eq rfl (by decide)).mpr h8)
                                refine lv_iload hx hb d_DiscMakerModel_targetGoesOn_222 (lv_at hl 6 rfl) ?_
                                have hP := hP.sub (ws' := [((ma 30), .inl (cB, 40000, .inl nT)), ((ma 31), .inl (cI, 100, .inl nTS)), (h0, .inr (11, MO ma sv_thrown sv_length sv_nodes sv_many sv_directories sv_runsFrom sv_runs sv_read sv_wrong sv_isNamed sv_goes sv_goesSize sv_goesAt ltp jro)), ((ma 16), .inl (cJ, 46080, .inr (.inl F)))]) [0, 1, 2, 3] rfl
                                have hD := hD.sub (ws' := [((ma 30), .inl (cB, 40000, .inl nT)), ((ma 31), .inl (cI, 100, .inl nTS)), (h0, .inr (11, MO ma sv_thrown sv_length sv_nodes sv_many sv_directories sv_runsFrom sv_runs sv_read sv_wrong sv_isNamed sv_goes sv_goesSize sv_goesAt ltp jro)), ((ma 16), .inl (cJ, 46080, .inr (.inl F)))]) [0, 1, 2, 3] (by decide +kernel) rfl
                                have hl := lv_sub hl [0, 1, 2, 3, 4, 5, 6, 7] rfl
                                exact kk224 _ r15 _ _ _ rfl ((by (try dsimp only); first | assumption | omega | trivial)) hP hD hS hl
                              · skip
                                have g215_287 : r10.toInt = 4 := (i_eq rfl (by decide)).mp h_9
                                refine lv_iconst (v := 2) hx hb d_DiscMakerModel_targetGoesOn_218 (by decide) ?_
                                refine lv_goto (tgt := 224) hx hb d_DiscMakerModel_targetGoesOn_219 (by decide) ?_
                                have hP := hP.sub (ws' := [((ma 30), .inl (cB, 40000, .inl nT)), ((ma 31), .inl (cI, 100, .inl nTS)), (h0, .inr (11, MO ma sv_thrown sv_length sv_nodes sv_many sv_directories sv_runsFrom sv_runs sv_read sv_wrong sv_isNamed sv_goes sv_goesSize sv_goesAt ltp jro)), ((ma 16), .inl (cJ, 46080, .inr (.inl F)))]) [0, 1, 2, 3] rfl
                                have hD := hD.sub (ws' := [((ma 30), .inl (cB, 40000, .inl nT)), ((ma 31), .inl (cI, 100, .inl nTS)), (h0, .inr (11, MO ma sv_thrown sv_length sv_nodes sv_many sv_directories sv_runsFrom sv_runs sv_read sv_wrong sv_isNamed sv_goes sv_goesSize sv_goesAt ltp jro)), ((ma 16), .inl (cJ, 46080, .inr (.inl F)))]) [0, 1, 2, 3] (by decide +kernel) rfl
                                have hl := lv_sub hl [0, 1, 2, 3, 4, 5, 6, 7] rfl
                                exact kk224 _ 2 _ _ _ rfl ((by (try dsimp only); first | assumption | omega | trivial)) hP hD hS hl
                            · skip
                              have g205_284 : r10.toInt = 2 := (i_eq rfl (by decide)).mp h_9
                              refine lv_iconst (v := 1) hx hb d_DiscMakerModel_targetGoesOn_208 (by decide) ?_
                              refine lv_goto (tgt := 224) hx hb d_DiscMakerModel_targetGoesOn_209 (by decide) ?_
                              have hP := hP.sub (ws' := [((ma 30), .inl (cB, 40000, .inl nT)), ((ma 31), .inl (cI, 100, .inl nTS)), (h0, .inr (11, MO ma sv_thrown sv_length sv_nodes sv_many sv_directories sv_runsFrom sv_runs sv_read sv_wrong sv_isNamed sv_goes sv_goesSize sv_goesAt ltp jro)), ((ma 16), .inl (cJ, 46080, .inr (.inl F)))]) [0, 1, 2, 3] rfl
                              have hD := hD.sub (ws' := [((ma 30), .inl (cB, 40000, .inl nT)), ((ma 31), .inl (cI, 100, .inl nTS)), (h0, .inr (11, MO ma sv_thrown sv_length sv_nodes sv_many sv_directories sv_runsFrom sv_runs sv_read sv_wrong sv_isNamed sv_goes sv_goesSize sv_goesAt ltp jro)), ((ma 16), .inl (cJ, 46080, .inr (.inl F)))]) [0, 1, 2, 3] (by decide +kernel) rfl
                              have hl := lv_sub hl [0, 1, 2, 3, 4, 5, 6, 7] rfl
                              exact kk224 _ 1 _ _ _ rfl ((by (try dsimp only); first | assumption | omega | trivial)) hP hD hS hl
                        · skip
                          intro kk200
                          have hP := hP.sub (ws' := [((ma 30), .inl (cB, 40000, .inl jT)), ((ma 31), .inl (cI, 100, .inl jTS)), (h0, .inr (11, MO ma sv_thrown sv_length sv_nodes sv_many sv_directories sv_runsFrom sv_runs sv_read sv_wrong sv_isNamed sv_goes sv_goesSize sv_goesAt ltp jro)), ((ma 16), .inl (cJ, 46080, .inr (.inl F)))]) [0, 1, 2, 3] rfl
                          have hD := hD.sub (ws' := [((ma 30), .inl (cB, 40000, .inl jT)), ((ma 31), .inl (cI, 100, .inl jTS)), (h0, .inr (11, MO ma sv_thrown sv_length sv_nodes sv_many sv_directories sv_runsFrom sv_runs sv_read sv_wrong sv_isNamed sv_goes sv_goesSize sv_goesAt ltp jro)), ((ma 16), .inl (cJ, 46080, .inr (.inl F)))]) [0, 1, 2, 3] (by decide +kernel) rfl
                          have hl := lv_sub hl [1, 2, 3, 4, 5, 6, 7, 0] rfl
                          exact kk200 _ 0 jT jTS _ _ _ rfl ((by (try dsimp only); first | assumption | omega | trivial)) ((by (try dsimp only); first | assumption | omega | trivial)) hP hD hS hl
                      · skip
                        intro kk197
                        refine lv_istore hx hb d_DiscMakerModel_targetGoesOn_136 hl (by decide) rfl (fun ls hl => ?_)
                        have hl : lv_has ls 9 [(7, .int 0), (0, .ref h0), (1, .int x), (2, .int y), (3, .int z), (4, .int lq), (5, .int r10), (6, .int r15)] := hl
                        refine zz_labM (B := fun (lk : Nat) (K : Heap → List Loc → Array Slot → List Value → Prop) => ∀ (jr : Int32) (H : Heap) (locs : List Loc) (ls : Array Slot), lk = 0 → (0 ≤ jr.toInt ∧ jr.toInt ≤ 1) → va_P D CL [((ma 30), .inl (cB, 40000, .inl lT)), ((ma 31), .inl (cI, 100, .inl lTS)), (h0, .inr (11, MO ma sv_thrown sv_length sv_nodes sv_many sv_directories sv_runsFrom sv_runs sv_read sv_wrong sv_isNamed sv_goes sv_goesSize sv_goesAt ltp lro)), ((ma 16), .inl (cJ, 46080, .inr (.inl F)))] H → va_D A [((ma 30), .inl (cB, 40000, .inl lT)), ((ma 31), .inl (cI, 100, .inl lTS)), (h0, .inr (11, MO ma sv_thrown sv_length sv_nodes sv_many sv_directories sv_runsFrom sv_runs sv_read sv_wrong sv_isNamed sv_goes sv_goesSize sv_goesAt ltp lro)), ((ma 16), .inl (cJ, 46080, .inr (.inl F)))] → va_S A s.heap H locs → lv_has ls 9 [(0, .ref h0), (1, .int x), (2, .int y), (3, .int z), (4, .int lq), (5, .int r10), (6, .int r15), (7, .int 0)] → K H locs ls [.int jr, .ref h0]) 158 ?_ ?_
                        · skip
                          intro lk ih158 jr H locs ls hm158 f5 hP hD hS hl
                          refine va_put (D := D) (ci := 11) (v := .int jr) (ty := .boolean) (C := "DiscMakerModel") (T := F_DiscMakerModel) (N := 48) hx hb ht9 in_DiscMakerModel t_DiscMakerModel t_DiscMakerModel_ok n_DiscMakerModel hown hK hP hD hS 2 rfl rfl 47 (by decide) (ht9 _ k1478) (fun _ h9 => h9) rfl (by decide +kernel) (i_narZ (by omega)) (i_fitZ (by omega)) (Nat.le_of_ble_eq_true rfl) d_DiscMakerModel_targetGoesOn_158 (fun H locs hP hD hS => ?_)
                          have hP : va_P D CL [((ma 30), .inl (cB, 40000, .inl lT)), ((ma 31), .inl (cI, 100, .inl lTS)), (h0, .inr (11, MO ma sv_thrown sv_length sv_nodes sv_many sv_directories sv_runsFrom sv_runs sv_read sv_wrong sv_isNamed sv_goes sv_goesSize sv_goesAt ltp jr)), ((ma 16), .inl (cJ, 46080, .inr (.inl F)))] H := hP
                          have hD : va_D A [((ma 30), .inl (cB, 40000, .inl lT)), ((ma 31), .inl (cI, 100, .inl lTS)), (h0, .inr (11, MO ma sv_thrown sv_length sv_nodes sv_many sv_directories sv_runsFrom sv_runs sv_read sv_wrong sv_isNamed sv_goes sv_goesSize sv_goesAt ltp jr)), ((ma 16), .inl (cJ, 46080, .inr (.inl F)))] := hD
                          refine zz_labM (B := fun (lk : Nat) (K : Heap → List Loc → Array Slot → List Value → Prop) => ∀ (iT : Nat → Int32) (iTS : Nat → Int32) (H : Heap) (locs : List Loc) (ls : Array Slot), lk = 0 → (Rg 0 400 100 iTS) → va_P D CL [((ma 30), .inl (cB, 40000, .inl iT)), ((ma 31), .inl (cI, 100, .inl iTS)), (h0, .inr (11, MO ma sv_thrown sv_length sv_nodes sv_many sv_directories sv_runsFrom sv_runs sv_read sv_wrong sv_isNamed sv_goes sv_goesSize sv_goesAt ltp jr)), ((ma 16), .inl (cJ, 46080, .inr (.inl F)))] H → va_D A [((ma 30), .inl (cB, 40000, .inl iT)), ((ma 31), .inl (cI, 100, .inl iTS)), (h0, .inr (11, MO ma sv_thrown sv_length sv_nodes sv_many sv_directories sv_runsFrom sv_runs sv_read sv_wrong sv_isNamed sv_goes sv_goesSize sv_goesAt ltp jr)), ((ma 16), .inl (cJ, 46080, .inr (.inl F)))] → va_S A s.heap H locs → lv_has ls 9 [(0, .ref h0), (1, .int x), (2, .int y), (3, .int z), (4, .int lq), (5, .int r10), (6, .int r15), (7, .int 0)] → K H locs ls []) 178 ?_ ?_
                          · skip
                            intro lk ih178 iT iTS H locs ls hm178 hiTS hP hD hS hl
                            refine lv_aload_n hx hb d_DiscMakerModel_targetGoesOn_178 rfl (lv_at hl 0 rfl) ?_
                            refine va_get (D := D) (ci := 11) (v := .int jr) (C := "DiscMakerModel") (T := F_DiscMakerModel) (N := 48) hx hb ht9 in_DiscMakerModel hown hK hP 2 rfl rfl 47 (by decide) (ht9 _ k1478) (fun _ h9 => h9) rfl d_DiscMakerModel_targetGoesOn_179 ?_
                            refine lv_if_eq (tgt := 197) hx hb d_DiscMakerModel_targetGoesOn_182 (by decide) (fun h_9 => ?_) (fun h_9 => ?_)
                            · skip
                              have g182_300 : jr.toInt = 0 := (i_eq rfl (by decide)).mp h_9
                              have hP := hP.sub (ws' := [((ma 30), .inl (cB, 40000, .inl iT)), ((ma 31), .inl (cI, 100, .inl iTS)), (h0, .inr (11, MO ma sv_thrown sv_length sv_nodes sv_many sv_directories sv_runsFrom sv_runs sv_read sv_wrong sv_isNamed sv_goes sv_goesSize sv_goesAt ltp jr)), ((ma 16), .inl (cJ, 46080, .inr (.inl F)))]) [0, 1, 2, 3] rfl
                              have hD := hD.sub (ws' := [((ma 30), .inl (cB, 40000, .inl iT)), ((ma 31), .inl (cI, 100, .inl iTS)), (h0, .inr (11, MO ma sv_thrown sv_length sv_nodes sv_many sv_directories sv_runsFrom sv_runs sv_read sv_wrong sv_isNamed sv_goes sv_goesSize sv_goesAt ltp jr)), ((ma 16), .inl (cJ, 46080, .inr (.inl F)))]) [0, 1, 2, 3] (by decide +kernel) rfl
                              have hl := lv_sub hl [0, 1, 2, 3, 4, 5, 6] rfl
                              exact kk197 _ jr iT iTS _ _ _ rfl ((by (try dsimp only); first | assumption | omega | trivial)) hP hD hS hl
                            · skip
                              have g182_300 : ¬ jr.toInt = 0 := fun h8 => h_9 ((i_eq rfl (by decide)).mpr h8)
                              refine lv_aload_n hx hb d_DiscMakerModel_targetGoesOn_185 rfl (lv_at hl 0 rfl) ?_
                              refine lv_iload_n hx hb d_DiscMakerModel_targetGoesOn_186 rfl (lv_at hl 1 rfl) ?_
                              refine lv_bipush (v := 47) hx hb d_DiscMakerModel_targetGoesOn_187 (by decide) ?_
                              have hPc := hP.sub (ws' := [(h0, .inr (11, MO ma sv_thrown sv_length sv_nodes sv_many sv_directories sv_runsFrom sv_runs sv_read sv_wrong sv_isNamed sv_goes sv_goesSize sv_goesAt ltp jr)), ((ma 30), .inl (cB, 40000, .inl iT)), ((ma 31), .inl (cI, 100, .inl iTS))]) [2, 0, 1] rfl
                              have hDc := hD.sub (ws' := [(h0, .inr (11, MO ma sv_thrown sv_length sv_nodes sv_many sv_directories sv_runsFrom sv_runs sv_read sv_wrong sv_isNamed sv_goes sv_goesSize sv_goesAt ltp jr)), ((ma 30), .inl (cB, 40000, .inl iT)), ((ma 31), .inl (cI, 100, .inl iTS))]) [2, 0, 1] (by decide +kernel) rfl
                              have hFc := va_free (wc := [(h0, .inr (11, MO ma sv_thrown sv_length sv_nodes sv_many sv_directories sv_runsFrom sv_runs sv_read sv_wrong sv_isNamed sv_goes sv_goesSize sv_goesAt ltp jr)), ((ma 30), .inl (cB, 40000, .inl iT)), ((ma 31), .inl (cI, 100, .inl iTS))]) hD hS hA [2, 0, 1] rfl
                              have hkc : 0 ≤ 0 := by decide
                              have hks : 0 ≤ 0 := by decide
                              refine va_calli (va_runV (C := "DiscMakerModel") (As := [.int x, .int 47]) (rest := []) ⟨hx, hb, hml, hown, hts⟩ (m_letterOf l D cB cI cJ cZ cN cF H.size h0 ma sv_thrown sv_length sv_nodes sv_many sv_directories sv_runsFrom sv_runs sv_read sv_wrong sv_isNamed sv_goes sv_goesSize sv_goesAt ltp jr iT iTS x 47 (by (try dsimp only); first | assumption | omega | trivial) (by (try dsimp only); first | assumption | omega | trivial)) (cwV 2 hts (lg_goodV k1882 k1884 k110 k125 kc_DiscMakerModel_letterOf) rfl rfl rfl (by decide +kernel) ⟨Nat.le_of_ble_eq_true rfl, Nat.le_of_ble_eq_true rfl⟩) ⟨fun a U g mk q => by obtain ⟨q0, q1, qP, qK, qN, qD⟩ := q; exact ⟨q0, q1, qP, va_K.moved (u := U) (U := U.calling g mk a) (Vm.Alike.refl U.vm) qK, qN.calling, qD⟩, va_recv hK hP (ci := 11) (q0 := 2) rfl rfl, fun U hU hW => ⟨rfl, by rw [hU], by rw [hU]; exact hPc, va_K.moved hW.alike hK, NN.warm hW hN, hDc.weaken (fun _ _ _ _ => trivial)⟩⟩ rfl rfl hl.1 rfl (lv_room (Nat.le_of_ble_eq_true rfl)) d_DiscMakerModel_targetGoesOn_189 ⟨hkc, hks⟩) hS (fun q _ h => hFc q h) hFc (fun r82 u t H1 locs ht hvm hp_r82 hB hz1 hk1 hS => ?_)
                              obtain ⟨gT_83, gTS_84⟩ := u
                              obtain ⟨hP1, hD1⟩ := hB
                              rw [ht] at hP1
                              obtain ⟨hP, hD⟩ := va_join (wr := [((ma 16), .inl (cJ, 46080, .inr (.inl F)))]) (w1 := [(h0, .inr (11, MO ma sv_thrown sv_length sv_nodes sv_many sv_directories sv_runsFrom sv_runs sv_read sv_wrong sv_isNamed sv_goes sv_goesSize sv_goesAt ltp jr)), ((ma 30), .inl (cB, 40000, .inl gT_83)), ((ma 31), .inl (cI, 100, .inl gTS_84))]) hP hD [2, 0, 1] [3] rfl rfl (by decide +kernel) (by decide +kernel) hk1 hFc hP1 hD1
                              clear hPc hDc hFc hP1 hD1 hk1 hz1 hkc hks
                              generalize H1 = H at hP hS ⊢
                              have hP : va_P D CL [((ma 16), .inl (cJ, 46080, .inr (.inl F))), (h0, .inr (11, MO ma sv_thrown sv_length sv_nodes sv_many sv_directories sv_runsFrom sv_runs sv_read sv_wrong sv_isNamed sv_goes sv_goesSize sv_goesAt ltp jr)), ((ma 30), .inl (cB, 40000, .inl gT_83)), ((ma 31), .inl (cI, 100, .inl gTS_84))] H := hP
                              have hD : va_D A [((ma 16), .inl (cJ, 46080, .inr (.inl F))), (h0, .inr (11, MO ma sv_thrown sv_length sv_nodes sv_many sv_directories sv_runsFrom sv_runs sv_read sv_wrong sv_isNamed sv_goes sv_goesSize sv_goesAt ltp jr)), ((ma 30), .inl (cB, 40000, .inl gT_83)), ((ma 31), .inl (cI, 100, .inl gTS_84))] := hD
                              try dsimp only at hp_r82
                              obtain ⟨hr_85, hgTS_86⟩ := hp_r82
                              refine lv_if_ne (tgt := 197) hx hb d_DiscMakerModel_targetGoesOn_192 (by decide) (fun h_9 => ?_) (fun h_9 => ?_)
                              · skip
                                have g192_306 : ¬ r82.toInt = 0 := fun h8 => h_9 ((i_eq rfl (by decide)).mpr h8)
                                have hP := hP.sub (ws' := [((ma 30), .inl (cB, 40000, .inl gT_83)), ((ma 31), .inl (cI, 100, .inl gTS_84)), (h0, .inr (11, MO ma sv_thrown sv_length sv_nodes sv_many sv_directories sv_runsFrom sv_runs sv_read sv_wrong sv_isNamed sv_goes sv_goesSize sv_goesAt ltp jr)), ((ma 16), .inl (cJ, 46080, .inr (.inl F)))]) [2, 3, 1, 0] rfl
                                have hD := hD.sub (ws' := [((ma 30), .inl (cB, 40000, .inl gT_83)), ((ma 31), .inl (cI, 100, .inl gTS_84)), (h0, .inr (11, MO ma sv_thrown sv_length sv_nodes sv_many sv_directories sv_runsFrom sv_runs sv_read sv_wrong sv_isNamed sv_goes sv_goesSize sv_goesAt ltp jr)), ((ma 16), .inl (cJ, 46080, .inr (.inl F)))]) [2, 3, 1, 0] (by decide +kernel) rfl
                                have hl := lv_sub hl [0, 1, 2, 3, 4, 5, 6] rfl
                                exact kk197 _ jr gT_83 gTS_84 _ _ _ rfl ((by (try dsimp only); first | assumption | omega | trivial)) hP hD hS hl
                              · skip
                                have g192_306 : r82.toInt = 0 := (i_eq rfl (by decide)).mp h_9
                                refine lv_iconst (v := 0) hx hb d_DiscMakerModel_targetGoesOn_195 (by decide) ?_
                                have hP9 := hP.sub (ws' := [(h0, .inr (11, MO ma sv_thrown sv_length sv_nodes sv_many sv_directories sv_runsFrom sv_runs sv_read sv_wrong sv_isNamed sv_goes sv_goesSize sv_goesAt ltp jr)), ((ma 16), .inl (cJ, 46080, .inr (.inl F))), ((ma 30), .inl (cB, 40000, .inl gT_83)), ((ma 31), .inl (cI, 100, .inl gTS_84))]) [1, 0, 2, 3] rfl
                                have hD9 := hD.sub (ws' := [(h0, .inr (11, MO ma sv_thrown sv_length sv_nodes sv_many sv_directories sv_runsFrom sv_runs sv_read sv_wrong sv_isNamed sv_goes sv_goesSize sv_goesAt ltp jr)), ((ma 16), .inl (cJ, 46080, .inr (.inl F))), ((ma 30), .inl (cB, 40000, .inl gT_83)), ((ma 31), .inl (cI, 100, .inl gTS_84))]) [1, 0, 2, 3] (by decide +kernel) rfl
                                exact W.zret (v := 0) hx hb hr (by first | rfl | decide | exact i_narZ (by omega)) (fun t ht hW => ⟨⟨0, (ltp, jr, gT_83, gTS_84), rfl, ⟨(by (try dsimp only); first | assumption | omega | trivial), (by (try dsimp only); first | assumption | omega | trivial)⟩, by rw [ht]; exact hP9, hD9⟩, hS.F ht⟩) hS.2.2 d_DiscMakerModel_targetGoesOn_196
                          · skip
                            intro kk178
                            refine lv_iload hx hb d_DiscMakerModel_targetGoesOn_161 (lv_at hl 7 rfl) ?_
                            refine lv_if_eq (tgt := 178) hx hb d_DiscMakerModel_targetGoesOn_163 (by decide) (fun _ => ?_) (fun h_9 => absurd (by decide) h_9)
                            have hP := hP.sub (ws' := [((ma 30), .inl (cB, 40000, .inl lT)), ((ma 31), .inl (cI, 100, .inl lTS)), (h0, .inr (11, MO ma sv_thrown sv_length sv_nodes sv_many sv_directories sv_runsFrom sv_runs sv_read sv_wrong sv_isNamed sv_goes sv_goesSize sv_goesAt ltp jr)), ((ma 16), .inl (cJ, 46080, .inr (.inl F)))]) [0, 1, 2, 3] rfl
                            have hD := hD.sub (ws' := [((ma 30), .inl (cB, 40000, .inl lT)), ((ma 31), .inl (cI, 100, .inl lTS)), (h0, .inr (11, MO ma sv_thrown sv_length sv_nodes sv_many sv_directories sv_runsFrom sv_runs sv_read sv_wrong sv_isNamed sv_goes sv_goesSize sv_goesAt ltp jr)), ((ma 16), .inl (cJ, 46080, .inr (.inl F)))]) [0, 1, 2, 3] (by decide +kernel) rfl
                            have hl := lv_sub hl [0, 1, 2, 3, 4, 5, 6, 7] rfl
                            exact kk178 _ lT lTS _ _ _ rfl ((by (try dsimp only); first | assumption | omega | trivial)) hP hD hS hl
                        · skip
                          intro kk158
                          refine lv_aload_n hx hb d_DiscMakerModel_targetGoesOn_138 rfl (lv_at hl 1 rfl) ?_
                          refine lv_aload_n hx hb d_DiscMakerModel_targetGoesOn_139 rfl (lv_at hl 1 rfl) ?_
                          refine va_get (D := D) (ci := 11) (v := .int ltp) (C := "DiscMakerModel") (T := F_DiscMakerModel) (N := 48) hx hb ht9 in_DiscMakerModel hown hK hP 2 rfl rfl 46 (by decide) (ht9 _ k1477) (fun _ h9 => h9) rfl d_DiscMakerModel_targetGoesOn_140 ?_
                          refine lv_if_ne (tgt := 157) hx hb d_DiscMakerModel_targetGoesOn_143 (by decide) (fun h_9 => ?_) (fun h_9 => ?_)
                          · skip
                            have g143_316 : ¬ ltp.toInt = 0 := fun h8 => h_9 ((i_eq rfl (by decide)).mpr h8)
                            refine lv_iconst (v := 0) hx hb d_DiscMakerModel_targetGoesOn_157 (by decide) ?_
                            have hP := hP.sub (ws' := [((ma 30), .inl (cB, 40000, .inl lT)), ((ma 31), .inl (cI, 100, .inl lTS)), (h0, .inr (11, MO ma sv_thrown sv_length sv_nodes sv_many sv_directories sv_runsFrom sv_runs sv_read sv_wrong sv_isNamed sv_goes sv_goesSize sv_goesAt ltp lro)), ((ma 16), .inl (cJ, 46080, .inr (.inl F)))]) [0, 1, 2, 3] rfl
                            have hD := hD.sub (ws' := [((ma 30), .inl (cB, 40000, .inl lT)), ((ma 31), .inl (cI, 100, .inl lTS)), (h0, .inr (11, MO ma sv_thrown sv_length sv_nodes sv_many sv_directories sv_runsFrom sv_runs sv_read sv_wrong sv_isNamed sv_goes sv_goesSize sv_goesAt ltp lro)), ((ma 16), .inl (cJ, 46080, .inr (.inl F)))]) [0, 1, 2, 3] (by decide +kernel) rfl
                            have hl := lv_sub hl [1, 2, 3, 4, 5, 6, 7, 0] rfl
                            exact kk158 _ 0 _ _ _ rfl ((by (try dsimp only); first | assumption | omega | trivial)) hP hD hS hl
                          · skip
                            have g143_316 : ltp.toInt = 0 := (i_eq rfl (by decide)).mp h_9
                            refine lv_iload hx hb d_DiscMakerModel_targetGoesOn_146 (lv_at hl 6 rfl) ?_
                            refine lv_bipush (v := 8) hx hb d_DiscMakerModel_targetGoesOn_148 (by decide) ?_
                            refine lv_icmp_ne (tgt := 157) hx hb d_DiscMakerModel_targetGoesOn_150 (by decide) (fun h_9 => ?_) (fun h_9 => ?_)
                            · skip
                              have g150_321 : ¬ r10.toInt = 8 := fun h8 => h_9 ((i_eq rfl (by decide)).mpr h8)
                              refine lv_iconst (v := 0) hx hb d_DiscMakerModel_targetGoesOn_157 (by decide) ?_
                              have hP := hP.sub (ws' := [((ma 30), .inl (cB, 40000, .inl lT)), ((ma 31), .inl (cI, 100, .inl lTS)), (h0, .inr (11, MO ma sv_thrown sv_length sv_nodes sv_many sv_directories sv_runsFrom sv_runs sv_read sv_wrong sv_isNamed sv_goes sv_goesSize sv_goesAt ltp lro)), ((ma 16), .inl (cJ, 46080, .inr (.inl F)))]) [0, 1, 2, 3] rfl
                              have hD := hD.sub (ws' := [((ma 30), .inl (cB, 40000, .inl lT)), ((ma 31), .inl (cI, 100, .inl lTS)), (h0, .inr (11, MO ma sv_thrown sv_length sv_nodes sv_many sv_directories sv_runsFrom sv_runs sv_read sv_wrong sv_isNamed sv_goes sv_goesSize sv_goesAt ltp lro)), ((ma 16), .inl (cJ, 46080, .inr (.inl F)))]) [0, 1, 2, 3] (by decide +kernel) rfl
                              have hl := lv_sub hl [1, 2, 3, 4, 5, 6, 7, 0] rfl
                              exact kk158 _ 0 _ _ _ rfl ((by (try dsimp only); first | assumption | omega | trivial)) hP hD hS hl
                            · skip
                              have g150_321 : r10.toInt = 8 := (i_eq rfl (by decide)).mp h_9
                              refine lv_iconst (v := 1) hx hb d_DiscMakerModel_targetGoesOn_153 (by decide) ?_
                              refine lv_goto (tgt := 158) hx hb d_DiscMakerModel_targetGoesOn_154 (by decide) ?_
                              have hP := hP.sub (ws' := [((ma 30), .inl (cB, 40000, .inl lT)), ((ma 31), .inl (cI, 100, .inl lTS)), (h0, .inr (11, MO ma sv_thrown sv_length sv_nodes sv_many sv_directories sv_runsFrom sv_runs sv_read sv_wrong sv_isNamed sv_goes sv_goesSize sv_goesAt ltp lro)), ((ma 16), .inl (cJ, 46080, .inr (.inl F)))]) [0, 1, 2, 3] rfl
                              have hD := hD.sub (ws' := [((ma 30), .inl (cB, 40000, .inl lT)), ((ma 31), .inl (cI, 100, .inl lTS)), (h0, .inr (11, MO ma sv_thrown sv_length sv_nodes sv_many sv_directories sv_runsFrom sv_runs sv_read sv_wrong sv_isNamed sv_goes sv_goesSize sv_goesAt ltp lro)), ((ma 16), .inl (cJ, 46080, .inr (.inl F)))]) [0, 1, 2, 3] (by decide +kernel) rfl
                              have hl := lv_sub hl [1, 2, 3, 4, 5, 6, 7, 0] rfl
                              exact kk158 _ 1 _ _ _ rfl ((by (try dsimp only); first | assumption | omega | trivial)) hP hD hS hl
                    · skip
                      have g128_240 : lro.toInt = 0 := (i_eq rfl (by decide)).mp h_9
                      refine lv_iconst (v := 1) hx hb d_DiscMakerModel_targetGoesOn_131 (by decide) ?_
                      refine lv_goto (tgt := 136) hx hb d_DiscMakerModel_targetGoesOn_132 (by decide) ?_
                      refine zz_labM (B := fun (lk : Nat) (K : Heap → List Loc → Array Slot → List Value → Prop) => ∀ (jro : Int32) (jT : Nat → Int32) (jTS : Nat → Int32) (H : Heap) (locs : List Loc) (ls : Array Slot), lk = 0 → (Rg 0 400 100 jTS) → va_P D CL [((ma 30), .inl (cB, 40000, .inl jT)), ((ma 31), .inl (cI, 100, .inl jTS)), (h0, .inr (11, MO ma sv_thrown sv_length sv_nodes sv_many sv_directories sv_runsFrom sv_runs sv_read sv_wrong sv_isNamed sv_goes sv_goesSize sv_goesAt ltp jro)), ((ma 16), .inl (cJ, 46080, .inr (.inl F)))] H → va_D A [((ma 30), .inl (cB, 40000, .inl jT)), ((ma 31), .inl (cI, 100, .inl jTS)), (h0, .inr (11, MO ma sv_thrown sv_length sv_nodes sv_many sv_directories sv_runsFrom sv_runs sv_read sv_wrong sv_isNamed sv_goes sv_goesSize sv_goesAt ltp jro)), ((ma 16), .inl (cJ, 46080, .inr (.inl F)))] → va_S A s.heap H locs → lv_has ls 9 [(0, .ref h0), (1, .int x), (2, .int y), (3, .int z), (4, .int lq), (5, .int r10), (6, .int r15)] → K H locs ls []) 197 ?_ ?_
                      · skip
                        intro lk ih197 jro jT jTS H locs ls hm197 hjTS hP hD hS hl
                        refine lv_iconst (v := 0) hx hb d_DiscMakerModel_targetGoesOn_197 (by decide) ?_
                        refine lv_istore hx hb d_DiscMakerModel_targetGoesOn_198 hl (by decide) rfl (fun ls hl => ?_)
                        have hl : lv_has ls 9 [(8, .int 0), (0, .ref h0), (1, .int x), (2, .int y), (3, .int z), (4, .int lq), (5, .int r10), (6, .int r15)] := hl
                        refine zz_labM (B := fun (lk : Nat) (K : Heap → List Loc → Array Slot → List Value → Prop) => ∀ (kx : Int32) (nT : Nat → Int32) (nTS : Nat → Int32) (H : Heap) (locs : List Loc) (ls : Array Slot), lk = (256 - kx.toInt).toNat → (0 ≤ kx.toInt ∧ kx.toInt ≤ 255) → (Rg 0 400 100 nTS) → va_P D CL [((ma 30), .inl (cB, 40000, .inl nT)), ((ma 31), .inl (cI, 100, .inl nTS)), (h0, .inr (11, MO ma sv_thrown sv_length sv_nodes sv_many sv_directories sv_runsFrom sv_runs sv_read sv_wrong sv_isNamed sv_goes sv_goesSize sv_goesAt ltp jro)), ((ma 16), .inl (cJ, 46080, .inr (.inl F)))] H → va_D A [((ma 30), .inl (cB, 40000, .inl nT)), ((ma 31), .inl (cI, 100, .inl nTS)), (h0, .inr (11, MO ma sv_thrown sv_length sv_nodes sv_many sv_directories sv_runsFrom sv_runs sv_read sv_wrong sv_isNamed sv_goes sv_goesSize sv_goesAt ltp jro)), ((ma 16), .inl (cJ, 46080, .inr (.inl F)))] → va_S A s.heap H locs → lv_has ls 9 [(0, .ref h0), (1, .int x), (2, .int y), (3, .int z), (4, .int lq), (5, .int r10), (6, .int r15), (8, .int kx)] → K H locs ls []) 200 ?_ ?_
                        · skip
                          intro lk ih200 kx nT nTS H locs ls hm200 f4 hnTS hP hD hS hl
                          refine lv_iload hx hb d_DiscMakerModel_targetGoesOn_200 (lv_at hl 7 rfl) ?_
                          refine zz_labM (B := fun (lk : Nat) (K : Heap → List Loc → Array Slot → List Value → Prop) => ∀ (lm : Int32) (H : Heap) (locs : List Loc) (ls : Array Slot), lk = 0 → (lm.toInt ≤ 255 ∧ (r10.toInt = 0 → lm.toInt = r15.toInt)) → va_P D CL [((ma 30), .inl (cB, 40000, .inl nT)), ((ma 31), .inl (cI, 100, .inl nTS)), (h0, .inr (11, MO ma sv_thrown sv_length sv_nodes sv_many sv_directories sv_runsFrom sv_runs sv_read sv_wrong sv_isNamed sv_goes sv_goesSize sv_goesAt ltp jro)), ((ma 16), .inl (cJ, 46080, .inr (.inl F)))] H → va_D A [((ma 30), .inl (cB, 40000, .inl nT)), ((ma 31), .inl (cI, 100, .inl nTS)), (h0, .inr (11, MO ma sv_thrown sv_length sv_nodes sv_many sv_directories sv_runsFrom sv_runs sv_read sv_wrong sv_isNamed sv_goes sv_goesSize sv_goesAt ltp jro)), ((ma 16), .inl (cJ, 46080, .inr (.inl F)))] → va_S A s.heap H locs → lv_has ls 9 [(0, .ref h0), (1, .int x), (2, .int y), (3, .int z), (4, .int lq), (5, .int r10), (6, .int r15), (8, .int kx)] → K H locs ls [.int lm, .int kx]) 224 ?_ ?_
                          · skip
                            intro lk ih224 lm H locs ls hm224 f6 hP hD hS hl
                            refine lv_icmp_ge (tgt := 264) hx hb d_DiscMakerModel_targetGoesOn_224 (by decide) (fun h_9 => ?_) (fun h_9 => ?_)
                            · skip
                              have g224_332 : lm.toInt ≤ kx.toInt := (i_le rfl rfl).mp h_9
                              refine lv_aload_n hx hb d_DiscMakerModel_targetGoesOn_264 rfl (lv_at hl 0 rfl) ?_
                              refine lv_dup hx hb d_DiscMakerModel_targetGoesOn_265 rfl ?_
                              refine va_get (D := D) (ci := 11) (v := .int ltp) (C := "DiscMakerModel") (T := F_DiscMakerModel) (N := 48) hx hb ht9 in_DiscMakerModel hown hK hP 2 rfl rfl 46 (by decide) (ht9 _ k1477) (fun _ h9 => h9) rfl d_DiscMakerModel_targetGoesOn_266 ?_
                              refine lv_iconst (v := 1) hx hb d_DiscMakerModel_targetGoesOn_269 (by decide) ?_
                              refine lv_iadd hx hb d_DiscMakerModel_targetGoesOn_270 ?_
                              refine lv_topi (fun v87 e_v87 => ?_)
                              refine va_put (D := D) (ci := 11) (v := .int v87) (ty := .int) (C := "DiscMakerModel") (T := F_DiscMakerModel) (N := 48) hx hb ht9 in_DiscMakerModel t_DiscMakerModel t_DiscMakerModel_ok n_DiscMakerModel hown hK hP hD hS 2 rfl rfl 46 (by decide) (ht9 _ k1477) (fun _ h9 => h9) rfl (by decide +kernel) rfl rfl (Nat.le_of_ble_eq_true rfl) d_DiscMakerModel_targetGoesOn_271 (fun H locs hP hD hS => ?_)
                              have hP : va_P D CL [((ma 30), .inl (cB, 40000, .inl nT)), ((ma 31), .inl (cI, 100, .inl nTS)), (h0, .inr (11, MO ma sv_thrown sv_length sv_nodes sv_many sv_directories sv_runsFrom sv_runs sv_read sv_wrong sv_isNamed sv_goes sv_goesSize sv_goesAt v87 jro)), ((ma 16), .inl (cJ, 46080, .inr (.inl F)))] H := hP
                              have hD : va_D A [((ma 30), .inl (cB, 40000, .inl nT)), ((ma 31), .inl (cI, 100, .inl nTS)), (h0, .inr (11, MO ma sv_thrown sv_length sv_nodes sv_many sv_directories sv_runsFrom sv_runs sv_read sv_wrong sv_isNamed sv_goes sv_goesSize sv_goesAt v87 jro)), ((ma 16), .inl (cJ, 46080, .inr (.inl F)))] := hD
                              refine lv_iload hx hb d_DiscMakerModel_targetGoesOn_274 (lv_at hl 4 rfl) ?_
                              refine lv_iconst (v := 2) hx hb d_DiscMakerModel_targetGoesOn_276 (by decide) ?_
                              refine lv_iload hx hb d_DiscMakerModel_targetGoesOn_277 (lv_at hl 6 rfl) ?_
                              refine lv_iadd hx hb d_DiscMakerModel_targetGoesOn_279 ?_
                              refine lv_topi (fun v88 e_v88 => ?_)
                              have t_v88 : v88.toInt = 2 + r15.toInt := by rw [e_v88]; exact i_add (by decide) rfl (by omega) (by omega)
                              refine lv_iadd hx hb d_DiscMakerModel_targetGoesOn_280 ?_
                              refine lv_topi (fun v89 e_v89 => ?_)
                              have t_v89 : v89.toInt = lq.toInt + v88.toInt := by rw [e_v89]; exact i_add rfl rfl (by omega) (by omega)
                              refine lv_istore hx hb d_DiscMakerModel_targetGoesOn_281 hl (by decide) rfl (fun ls hl => ?_)
                              have hl : lv_has ls 9 [(4, .int v89), (0, .ref h0), (1, .int x), (2, .int y), (3, .int z), (5, .int r10), (6, .int r15), (8, .int kx)] := hl
                              refine lv_goto (tgt := 22) hx hb d_DiscMakerModel_targetGoesOn_283 (by decide) ?_
                              have hP := hP.sub (ws' := [((ma 30), .inl (cB, 40000, .inl nT)), ((ma 31), .inl (cI, 100, .inl nTS)), (h0, .inr (11, MO ma sv_thrown sv_length sv_nodes sv_many sv_directories sv_runsFrom sv_runs sv_read sv_wrong sv_isNamed sv_goes sv_goesSize sv_goesAt v87 jro)), ((ma 16), .inl (cJ, 46080, .inr (.inl F)))]) [0, 1, 2, 3] rfl
                              have hD := hD.sub (ws' := [((ma 30), .inl (cB, 40000, .inl nT)), ((ma 31), .inl (cI, 100, .inl nTS)), (h0, .inr (11, MO ma sv_thrown sv_length sv_nodes sv_many sv_directories sv_runsFrom sv_runs sv_read sv_wrong sv_isNamed sv_goes sv_goesSize sv_goesAt v87 jro)), ((ma 16), .inl (cJ, 46080, .inr (.inl F)))]) [0, 1, 2, 3] (by decide +kernel) rfl
                              have hl := lv_sub hl [1, 2, 3, 4, 0] rfl
                              exact ih22 _ (by first | omega | (dsimp only; omega)) v89 v87 jro nT nTS _ _ _ rfl ((by (try dsimp only); first | assumption | omega | trivial)) ((by (try dsimp only); first | assumption | omega | trivial)) hP hD hS hl
                            · skip
                              have g224_332 : ¬ lm.toInt ≤ kx.toInt := fun h8 => h_9 ((i_le rfl rfl).mpr h8)
                              refine lv_aload_n hx hb d_DiscMakerModel_targetGoesOn_227 rfl (lv_at hl 0 rfl) ?_
                              refine lv_iload_n hx hb d_DiscMakerModel_targetGoesOn_228 rfl (lv_at hl 1 rfl) ?_
                              refine zz_labM (B := fun (lk : Nat) (K : Heap → List Loc → Array Slot → List Value → Prop) => ∀ (ch : Int32) (H : Heap) (locs : List Loc) (ls : Array Slot), lk = 0 → va_P D CL [((ma 30), .inl (cB, 40000, .inl nT)), ((ma 31), .inl (cI, 100, .inl nTS)), (h0, .inr (11, MO ma sv_thrown sv_length sv_nodes sv_many sv_directories sv_runsFrom sv_runs sv_read sv_wrong sv_isNamed sv_goes sv_goesSize sv_goesAt ltp jro)), ((ma 16), .inl (cJ, 46080, .inr (.inl F)))] H → va_D A [((ma 30), .inl (cB, 40000, .inl nT)), ((ma 31), .inl (cI, 100, .inl nTS)), (h0, .inr (11, MO ma sv_thrown sv_length sv_nodes sv_many sv_directories sv_runsFrom sv_runs sv_read sv_wrong sv_isNamed sv_goes sv_goesSize sv_goesAt ltp jro)), ((ma 16), .inl (cJ, 46080, .inr (.inl F)))] → va_S A s.heap H locs → lv_has ls 9 [(0, .ref h0), (1, .int x), (2, .int y), (3, .int z), (4, .int lq), (5, .int r10), (6, .int r15), (8, .int kx)] → K H locs ls [.int ch, .int x, .ref h0]) 250 ?_ ?_
                              · skip
                                intro lk ih250 ch H locs ls hm250 hP hD hS hl
                                have hPc := hP.sub (ws' := [(h0, .inr (11, MO ma sv_thrown sv_length sv_nodes sv_many sv_directories sv_runsFrom sv_runs sv_read sv_wrong sv_isNamed sv_goes sv_goesSize sv_goesAt ltp jro)), ((ma 30), .inl (cB, 40000, .inl nT)), ((ma 31), .inl (cI, 100, .inl nTS))]) [2, 0, 1] rfl
                                have hDc := hD.sub (ws' := [(h0, .inr (11, MO ma sv_thrown sv_length sv_nodes sv_many sv_directories sv_runsFrom sv_runs sv_read sv_wrong sv_isNamed sv_goes sv_goesSize sv_goesAt ltp jro)), ((ma 30), .inl (cB, 40000, .inl nT)), ((ma 31), .inl (cI, 100, .inl nTS))]) [2, 0, 1] (by decide +kernel) rfl
                                have hFc := va_free (wc := [(h0, .inr (11, MO ma sv_thrown sv_length sv_nodes sv_many sv_directories sv_runsFrom sv_runs sv_read sv_wrong sv_isNamed sv_goes sv_goesSize sv_goesAt ltp jro)), ((ma 30), .inl (cB, 40000, .inl nT)), ((ma 31), .inl (cI, 100, .inl nTS))]) hD hS hA [2, 0, 1] rfl
                                have hkc : 0 ≤ 0 := by decide
                                have hks : 0 ≤ 0 := by decide
                                refine va_calli (va_runV (C := "DiscMakerModel") (As := [.int x, .int ch]) (rest := []) ⟨hx, hb, hml, hown, hts⟩ (m_letterOf l D cB cI cJ cZ cN cF H.size h0 ma sv_thrown sv_length sv_nodes sv_many sv_directories sv_runsFrom sv_runs sv_read sv_wrong sv_isNamed sv_goes sv_goesSize sv_goesAt ltp jro nT nTS x ch (by (try dsimp only); first | assumption | omega | trivial) (by (try dsimp only); first | assumption | omega | trivial)) (cwV 2 hts (lg_goodV k1882 k1884 k110 k125 kc_DiscMakerModel_letterOf) rfl rfl rfl (by decide +kernel) ⟨Nat.le_of_ble_eq_true rfl, Nat.le_of_ble_eq_true rfl⟩) ⟨fun a U g mk q => by obtain ⟨q0, q1, qP, qK, qN, qD⟩ := q; exact ⟨q0, q1, qP, va_K.moved (u := U) (U := U.calling g mk a) (Vm.Alike.refl U.vm) qK, qN.calling, qD⟩, va_recv hK hP (ci := 11) (q0 := 2) rfl rfl, fun U hU hW => ⟨rfl, by rw [hU], by rw [hU]; exact hPc, va_K.moved hW.alike hK, NN.warm hW hN, hDc.weaken (fun _ _ _ _ => trivial)⟩⟩ rfl rfl hl.1 rfl (lv_room (Nat.le_of_ble_eq_true rfl)) d_DiscMakerModel_targetGoesOn_250 ⟨hkc, hks⟩) hS (fun q _ h => hFc q h) hFc (fun r90 u t H1 locs ht hvm hp_r90 hB hz1 hk1 hS => ?_)
                                obtain ⟨gT_91, gTS_92⟩ := u
                                obtain ⟨hP1, hD1⟩ := hB
                                rw [ht] at hP1
                                obtain ⟨hP, hD⟩ := va_join (wr := [((ma 16), .inl (cJ, 46080, .inr (.inl F)))]) (w1 := [(h0, .inr (11, MO ma sv_thrown sv_length sv_nodes sv_many sv_directories sv_runsFrom sv_runs sv_read sv_wrong sv_isNamed sv_goes sv_goesSize sv_goesAt ltp jro)), ((ma 30), .inl (cB, 40000, .inl gT_91)), ((ma 31), .inl (cI, 100, .inl gTS_92))]) hP hD [2, 0, 1] [3] rfl rfl (by decide +kernel) (by decide +kernel) hk1 hFc hP1 hD1
                                clear hPc hDc hFc hP1 hD1 hk1 hz1 hkc hks
                                generalize H1 = H at hP hS ⊢
                                have hP : va_P D CL [((ma 16), .inl (cJ, 46080, .inr (.inl F))), (h0, .inr (11, MO ma sv_thrown sv_length sv_nodes sv_many sv_directories sv_runsFrom sv_runs sv_read sv_wrong sv_isNamed sv_goes sv_goesSize sv_goesAt ltp jro)), ((ma 30), .inl (cB, 40000, .inl gT_91)), ((ma 31), .inl (cI, 100, .inl gTS_92))] H := hP
                                have hD : va_D A [((ma 16), .inl (cJ, 46080, .inr (.inl F))), (h0, .inr (11, MO ma sv_thrown sv_length sv_nodes sv_many sv_directories sv_runsFrom sv_runs sv_read sv_wrong sv_isNamed sv_goes sv_goesSize sv_goesAt ltp jro)), ((ma 30), .inl (cB, 40000, .inl gT_91)), ((ma 31), .inl (cI, 100, .inl gTS_92))] := hD
                                try dsimp only at hp_r90
                                obtain ⟨hr_93, hgTS_94⟩ := hp_r90
                                refine lv_if_ne (tgt := 258) hx hb d_DiscMakerModel_targetGoesOn_253 (by decide) (fun h_9 => ?_) (fun h_9 => ?_)
                                · skip
                                  have g253_350 : ¬ r90.toInt = 0 := fun h8 => h_9 ((i_eq rfl (by decide)).mpr h8)
                                  obtain ⟨v95, e_v95⟩ : ∃ z : Int32, z = kx + 1 := ⟨_, rfl⟩
                                  refine lv_iinc (v := v95) hx hb d_DiscMakerModel_targetGoesOn_258 hl (k := 7) rfl e_v95.symm (by decide +kernel) rfl (fun ls hl => ?_)
                                  have t_v95 : v95.toInt = kx.toInt + 1 := by rw [e_v95]; exact i_add rfl (by decide) (by omega) (by omega)
                                  have hl : lv_has ls 9 [(8, .int v95), (0, .ref h0), (1, .int x), (2, .int y), (3, .int z), (4, .int lq), (5, .int r10), (6, .int r15)] := hl
                                  refine lv_goto (tgt := 200) hx hb d_DiscMakerModel_targetGoesOn_261 (by decide) ?_
                                  have hP := hP.sub (ws' := [((ma 30), .inl (cB, 40000, .inl gT_91)), ((ma 31), .inl (cI, 100, .inl gTS_92)), (h0, .inr (11, MO ma sv_thrown sv_length sv_nodes sv_many sv_directories sv_runsFrom sv_runs sv_read sv_wrong sv_isNamed sv_goes sv_goesSize sv_goesAt ltp jro)), ((ma 16), .inl (cJ, 46080, .inr (.inl F)))]) [2, 3, 1, 0] rfl
                                  have hD := hD.sub (ws' := [((ma 30), .inl (cB, 40000, .inl gT_91)), ((ma 31), .inl (cI, 100, .inl gTS_92)), (h0, .inr (11, MO ma sv_thrown sv_length sv_nodes sv_many sv_directories sv_runsFrom sv_runs sv_read sv_wrong sv_isNamed sv_goes sv_goesSize sv_goesAt ltp jro)), ((ma 16), .inl (cJ, 46080, .inr (.inl F)))]) [2, 3, 1, 0] (by decide +kernel) rfl
                                  have hl := lv_sub hl [1, 2, 3, 4, 5, 6, 7, 0] rfl
                                  exact ih200 _ (by first | omega | (dsimp only; omega)) v95 gT_91 gTS_92 _ _ _ rfl ((by (try dsimp only); first | assumption | omega | trivial)) ((by (try dsimp only); first | assumption | omega | trivial)) hP hD hS hl
                                · skip
                                  have g253_350 : r90.toInt = 0 := (i_eq rfl (by decide)).mp h_9
                                  refine lv_iconst (v := 0) hx hb d_DiscMakerModel_targetGoesOn_256 (by decide) ?_
                                  have hP9 := hP.sub (ws' := [(h0, .inr (11, MO ma sv_thrown sv_length sv_nodes sv_many sv_directories sv_runsFrom sv_runs sv_read sv_wrong sv_isNamed sv_goes sv_goesSize sv_goesAt ltp jro)), ((ma 16), .inl (cJ, 46080, .inr (.inl F))), ((ma 30), .inl (cB, 40000, .inl gT_91)), ((ma 31), .inl (cI, 100, .inl gTS_92))]) [1, 0, 2, 3] rfl
                                  have hD9 := hD.sub (ws' := [(h0, .inr (11, MO ma sv_thrown sv_length sv_nodes sv_many sv_directories sv_runsFrom sv_runs sv_read sv_wrong sv_isNamed sv_goes sv_goesSize sv_goesAt ltp jro)), ((ma 16), .inl (cJ, 46080, .inr (.inl F))), ((ma 30), .inl (cB, 40000, .inl gT_91)), ((ma 31), .inl (cI, 100, .inl gTS_92))]) [1, 0, 2, 3] (by decide +kernel) rfl
                                  exact W.zret (v := 0) hx hb hr (by first | rfl | decide | exact i_narZ (by omega)) (fun t ht hW => ⟨⟨0, (ltp, jro, gT_91, gTS_92), rfl, ⟨(by (try dsimp only); first | assumption | omega | trivial), (by (try dsimp only); first | assumption | omega | trivial)⟩, by rw [ht]; exact hP9, hD9⟩, hS.F ht⟩) hS.2.2 d_DiscMakerModel_targetGoesOn_257
                              · skip
                                intro kk250
                                refine lv_iload hx hb d_DiscMakerModel_targetGoesOn_229 (lv_at hl 5 rfl) ?_
                                refine lv_if_ne (tgt := 248) hx hb d_DiscMakerModel_targetGoesOn_231 (by decide) (fun h_9 => ?_) (fun h_9 => ?_)
                                · skip
                                  have g231_357 : ¬ r10.toInt = 0 := fun h8 => h_9 ((i_eq rfl (by decide)).mpr h8)
                                  refine lv_bipush (v := 46) hx hb d_DiscMakerModel_targetGoesOn_248 (by decide) ?_
                                  have hP := hP.sub (ws' := [((ma 30), .inl (cB, 40000, .inl nT)), ((ma 31), .inl (cI, 100, .inl nTS)), (h0, .inr (11, MO ma sv_thrown sv_length sv_nodes sv_many sv_directories sv_runsFrom sv_runs sv_read sv_wrong sv_isNamed sv_goes sv_goesSize sv_goesAt ltp jro)), ((ma 16), .inl (cJ, 46080, .inr (.inl F)))]) [0, 1, 2, 3] rfl
                                  have hD := hD.sub (ws' := [((ma 30), .inl (cB, 40000, .inl nT)), ((ma 31), .inl (cI, 100, .inl nTS)), (h0, .inr (11, MO ma sv_thrown sv_length sv_nodes sv_many sv_directories sv_runsFrom sv_runs sv_read sv_wrong sv_isNamed sv_goes sv_goesSize sv_goesAt ltp jro)), ((ma 16), .inl (cJ, 46080, .inr (.inl F)))]) [0, 1, 2, 3] (by decide +kernel) rfl
                                  have hl := lv_sub hl [0, 1, 2, 3, 4, 5, 6, 7] rfl
                                  exact kk250 _ 46 _ _ _ rfl  hP hD hS hl
                                · skip
                                  have g231_357 : r10.toInt = 0 := (i_eq rfl (by decide)).mp h_9
                                  refine lv_aload_n hx hb d_DiscMakerModel_targetGoesOn_234 rfl (lv_at hl 0 rfl) ?_
                                  refine lv_iload hx hb d_DiscMakerModel_targetGoesOn_235 (lv_at hl 4 rfl) ?_
                                  refine lv_iconst (v := 2) hx hb d_DiscMakerModel_targetGoesOn_237 (by decide) ?_
                                  refine lv_iadd hx hb d_DiscMakerModel_targetGoesOn_238 ?_
                                  refine lv_topi (fun v96 e_v96 => ?_)
                                  have t_v96 : v96.toInt = lq.toInt + 2 := by rw [e_v96]; exact i_add rfl (by decide) (by omega) (by omega)
                                  refine lv_iload hx hb d_DiscMakerModel_targetGoesOn_239 (lv_at hl 7 rfl) ?_
                                  refine lv_iadd hx hb d_DiscMakerModel_targetGoesOn_241 ?_
                                  refine lv_topi (fun v97 e_v97 => ?_)
                                  have t_v97 : v97.toInt = v96.toInt + kx.toInt := by rw [e_v97]; exact i_add rfl rfl (by omega) (by omega)
                                  have hPc := hP.sub (ws' := [(h0, .inr (11, MO ma sv_thrown sv_length sv_nodes sv_many sv_directories sv_runsFrom sv_runs sv_read sv_wrong sv_isNamed sv_goes sv_goesSize sv_goesAt ltp jro)), ((ma 16), .inl (cJ, 46080, .inr (.inl F)))]) [2, 3] rfl
                                  have hDc := hD.sub (ws' := [(h0, .inr (11, MO ma sv_thrown sv_length sv_nodes sv_many sv_directories sv_runsFrom sv_runs sv_read sv_wrong sv_isNamed sv_goes sv_goesSize sv_goesAt ltp jro)), ((ma 16), .inl (cJ, 46080, .inr (.inl F)))]) [2, 3] (by decide +kernel) rfl
                                  have hFc := va_free (wc := [(h0, .inr (11, MO ma sv_thrown sv_length sv_nodes sv_many sv_directories sv_runsFrom sv_runs sv_read sv_wrong sv_isNamed sv_goes sv_goesSize sv_goesAt ltp jro)), ((ma 16), .inl (cJ, 46080, .inr (.inl F)))]) hD hS hA [2, 3] rfl
                                  have hkc : 0 ≤ 0 := by decide
                                  have hks : 0 ≤ 0 := by decide
                                  refine va_calli (va_runV (C := "DiscMakerModel") (As := [.int v97]) (rest := [.int x, .ref h0]) ⟨hx, hb, hml, hown, hts⟩ (m_at l D cB cI cJ cZ cN cF H.size h0 ma sv_thrown sv_length sv_nodes sv_many sv_directories sv_runsFrom sv_runs sv_read sv_wrong sv_isNamed sv_goes sv_goesSize sv_goesAt ltp jro F v97 (by (try dsimp only); first | assumption | omega | trivial) (by (try dsimp only); first | assumption | omega | trivial)) (cwV 1 hts (lg_goodV k1809 k1811 k95 k125 kc_DiscMakerModel_at) rfl rfl rfl (by decide +kernel) ⟨Nat.le_of_ble_eq_true rfl, Nat.le_of_ble_eq_true rfl⟩) ⟨fun a U g mk q => by obtain ⟨q0, q1, qP, qK, qN, qD⟩ := q; exact ⟨q0, q1, qP, va_K.moved (u := U) (U := U.calling g mk a) (Vm.Alike.refl U.vm) qK, qN.calling, qD⟩, va_recv hK hP (ci := 11) (q0 := 2) rfl rfl, fun U hU hW => ⟨rfl, by rw [hU], by rw [hU]; exact hPc, va_K.moved hW.alike hK, NN.warm hW hN, hDc.weaken (fun _ _ _ _ => trivial)⟩⟩ rfl rfl hl.1 rfl (lv_room (Nat.le_of_ble_eq_true rfl)) d_DiscMakerModel_targetGoesOn_242 ⟨hkc, hks⟩) hS (fun q _ h => hFc q h) hFc (fun r98 u t H1 locs ht hvm hp_r98 hB hz1 hk1 hS => ?_)
                                  obtain ⟨hP1, hD1⟩ := hB
                                  rw [ht] at hP1
                                  obtain ⟨hP, hD⟩ := va_join (wr := [((ma 30), .inl (cB, 40000, .inl nT)), ((ma 31), .inl (cI, 100, .inl nTS))]) (w1 := [(h0, .inr (11, MO ma sv_thrown sv_length sv_nodes sv_many sv_directories sv_runsFrom sv_runs sv_read sv_wrong sv_isNamed sv_goes sv_goesSize sv_goesAt ltp jro)), ((ma 16), .inl (cJ, 46080, .inr (.inl F)))]) hP hD [2, 3] [0, 1] rfl rfl (by decide +kernel) (by decide +kernel) hk1 hFc hP1 hD1
                                  clear hPc hDc hFc hP1 hD1 hk1 hz1 hkc hks
                                  generalize H1 = H at hP hS ⊢
                                  have hP : va_P D CL [((ma 30), .inl (cB, 40000, .inl nT)), ((ma 31), .inl (cI, 100, .inl nTS)), (h0, .inr (11, MO ma sv_thrown sv_length sv_nodes sv_many sv_directories sv_runsFrom sv_runs sv_read sv_wrong sv_isNamed sv_goes sv_goesSize sv_goesAt ltp jro)), ((ma 16), .inl (cJ, 46080, .inr (.inl F)))] H := hP
                                  have hD : va_D A [((ma 30), .inl (cB, 40000, .inl nT)), ((ma 31), .inl (cI, 100, .inl nTS)), (h0, .inr (11, MO ma sv_thrown sv_length sv_nodes sv_many sv_directories sv_runsFrom sv_runs sv_read sv_wrong sv_isNamed sv_goes sv_goesSize sv_goesAt ltp jro)), ((ma 16), .inl (cJ, 46080, .inr (.inl F)))] := hD
                                  try dsimp only at hp_r98
                                  obtain ⟨hr_99, hv_100, hw_101⟩ := hp_r98
                                  refine lv_goto (tgt := 250) hx hb d_DiscMakerModel_targetGoesOn_245 (by decide) ?_
                                  have hP := hP.sub (ws' := [((ma 30), .inl (cB, 40000, .inl nT)), ((ma 31), .inl (cI, 100, .inl nTS)), (h0, .inr (11, MO ma sv_thrown sv_length sv_nodes sv_many sv_directories sv_runsFrom sv_runs sv_read sv_wrong sv_isNamed sv_goes sv_goesSize sv_goesAt ltp jro)), ((ma 16), .inl (cJ, 46080, .inr (.inl F)))]) [0, 1, 2, 3] rfl
                                  have hD := hD.sub (ws' := [((ma 30), .inl (cB, 40000, .inl nT)), ((ma 31), .inl (cI, 100, .inl nTS)), (h0, .inr (11, MO ma sv_thrown sv_length sv_nodes sv_many sv_directories sv_runsFrom sv_runs sv_read sv_wrong sv_isNamed sv_goes sv_goesSize sv_goesAt ltp jro)), ((ma 16), .inl (cJ, 46080, .inr (.inl F)))]) [0, 1, 2, 3] (by decide +kernel) rfl
                                  have hl := lv_sub hl [0, 1, 2, 3, 4, 5, 6, 7] rfl
                                  exact kk250 _ r98 _ _ _ rfl  hP hD hS hl
                          · skip
                            intro kk224
                            refine lv_iload hx hb d_DiscMakerModel_targetGoesOn_202 (lv_at hl 5 rfl) ?_
                            refine lv_iconst (v := 2) hx hb d_DiscMakerModel_targetGoesOn_204 (by decide) ?_
                            refine lv_icmp_ne (tgt := 212) hx hb d_DiscMakerModel_targetGoesOn_205 (by decide) (fun h_9 => ?_) (fun h_9 => ?_)
                            · skip
                              have g205_371 : ¬ r10.toInt = 2 := fun h8 => h_9 ((i_eq rfl (by decide)).mpr h8)
                              refine lv_iload hx hb d_DiscMakerModel_targetGoesOn_212 (lv_at hl 5 rfl) ?_
                              refine lv_iconst (v := 4) hx hb d_DiscMakerModel_targetGoesOn_214 (by decide) ?_
                              refine lv_icmp_ne (tgt := 222) hx hb d_DiscMakerModel_targetGoesOn_215 (by decide) (fun h_9 => ?_) (fun h_9 => ?_)
                              · skip
                                have g215_374 : ¬ r10.toInt = 4 := fun h8 => h_9 ((i_eq rfl (by decide)).mpr h8)
                                refine lv_iload hx hb d_DiscMakerModel_targetGoesOn_222 (lv_at hl 6 rfl) ?_
                                have hP := hP.sub (ws' := [((ma 30), .inl (cB, 40000, .inl nT)), ((ma 31), .inl (cI, 100, .inl nTS)), (h0, .inr (11, MO ma sv_thrown sv_length sv_nodes sv_many sv_directories sv_runsFrom sv_runs sv_read sv_wrong sv_isNamed sv_goes sv_goesSize sv_goesAt ltp jro)), ((ma 16), .inl (cJ, 46080, .inr (.inl F)))]) [0, 1, 2, 3] rfl
                                have hD := hD.sub (ws' := [((ma 30), .inl (cB, 40000, .inl nT)), ((ma 31), .inl (cI, 100, .inl nTS)), (h0, .inr (11, MO ma sv_thrown sv_length sv_nodes sv_many sv_directories sv_runsFrom sv_runs sv_read sv_wrong sv_isNamed sv_goes sv_goesSize sv_goesAt ltp jro)), ((ma 16), .inl (cJ, 46080, .inr (.inl F)))]) [0, 1, 2, 3] (by decide +kernel) rfl
                                have hl := lv_sub hl [0, 1, 2, 3, 4, 5, 6, 7] rfl
                                exact kk224 _ r15 _ _ _ rfl ((by (try dsimp only); first | assumption | omega | trivial)) hP hD hS hl
                              · skip
                                have g215_374 : r10.toInt = 4 := (i_eq rfl (by decide)).mp h_9
                                refine lv_iconst (v := 2) hx hb d_DiscMakerModel_targetGoesOn_218 (by decide) ?_
                                refine lv_goto (tgt := 224) hx hb d_DiscMakerModel_targetGoesOn_219 (by decide) ?_
                                have hP := hP.sub (ws' := [((ma 30), .inl (cB, 40000, .inl nT)), ((ma 31), .inl (cI, 100, .inl nTS)), (h0, .inr (11, MO ma sv_thrown sv_length sv_nodes sv_many sv_directories sv_runsFrom sv_runs sv_read sv_wrong sv_isNamed sv_goes sv_goesSize sv_goesAt ltp jro)), ((ma 16), .inl (cJ, 46080, .inr (.inl F)))]) [0, 1, 2, 3] rfl
                                have hD := hD.sub (ws' := [((ma 30), .inl (cB, 40000, .inl nT)), ((ma 31), .inl (cI, 100, .inl nTS)), (h0, .inr (11, MO ma sv_thrown sv_length sv_nodes sv_many sv_directories sv_runsFrom sv_runs sv_read sv_wrong sv_isNamed sv_goes sv_goesSize sv_goesAt ltp jro)), ((ma 16), .inl (cJ, 46080, .inr (.inl F)))]) [0, 1, 2, 3] (by decide +kernel) rfl
                                have hl := lv_sub hl [0, 1, 2, 3, 4, 5, 6, 7] rfl
                                exact kk224 _ 2 _ _ _ rfl ((by (try dsimp only); first | assumption | omega | trivial)) hP hD hS hl
                            · skip
                              have g205_371 : r10.toInt = 2 := (i_eq rfl (by decide)).mp h_9
                              refine lv_iconst (v := 1) hx hb d_DiscMakerModel_targetGoesOn_208 (by decide) ?_
                              refine lv_goto (tgt := 224) hx hb d_DiscMakerModel_targetGoesOn_209 (by decide) ?_
                              have hP := hP.sub (ws' := [((ma 30), .inl (cB, 40000, .inl nT)), ((ma 31), .inl (cI, 100, .inl nTS)), (h0, .inr (11, MO ma sv_thrown sv_length sv_nodes sv_many sv_directories sv_runsFrom sv_runs sv_read sv_wrong sv_isNamed sv_goes sv_goesSize sv_goesAt ltp jro)), ((ma 16), .inl (cJ, 46080, .inr (.inl F)))]) [0, 1, 2, 3] rfl
                              have hD := hD.sub (ws' := [((ma 30), .inl (cB, 40000, .inl nT)), ((ma 31), .inl (cI, 100, .inl nTS)), (h0, .inr (11, MO ma sv_thrown sv_length sv_nodes sv_many sv_directories sv_runsFrom sv_runs sv_read sv_wrong sv_isNamed sv_goes sv_goesSize sv_goesAt ltp jro)), ((ma 16), .inl (cJ, 46080, .inr (.inl F)))]) [0, 1, 2, 3] (by decide +kernel) rfl
                              have hl := lv_sub hl [0, 1, 2, 3, 4, 5, 6, 7] rfl
                              exact kk224 _ 1 _ _ _ rfl ((by (try dsimp only); first | assumption | omega | trivial)) hP hD hS hl
                        · skip
                          intro kk200
                          have hP := hP.sub (ws' := [((ma 30), .inl (cB, 40000, .inl jT)), ((ma 31), .inl (cI, 100, .inl jTS)), (h0, .inr (11, MO ma sv_thrown sv_length sv_nodes sv_many sv_directories sv_runsFrom sv_runs sv_read sv_wrong sv_isNamed sv_goes sv_goesSize sv_goesAt ltp jro)), ((ma 16), .inl (cJ, 46080, .inr (.inl F)))]) [0, 1, 2, 3] rfl
                          have hD := hD.sub (ws' := [((ma 30), .inl (cB, 40000, .inl jT)), ((ma 31), .inl (cI, 100, .inl jTS)), (h0, .inr (11, MO ma sv_thrown sv_length sv_nodes sv_many sv_directories sv_runsFrom sv_runs sv_read sv_wrong sv_isNamed sv_goes sv_goesSize sv_goesAt ltp jro)), ((ma 16), .inl (cJ, 46080, .inr (.inl F)))]) [0, 1, 2, 3] (by decide +kernel) rfl
                          have hl := lv_sub hl [1, 2, 3, 4, 5, 6, 7, 0] rfl
                          exact kk200 _ 0 jT jTS _ _ _ rfl ((by (try dsimp only); first | assumption | omega | trivial)) ((by (try dsimp only); first | assumption | omega | trivial)) hP hD hS hl
                      · skip
                        intro kk197
                        refine lv_istore hx hb d_DiscMakerModel_targetGoesOn_136 hl (by decide) rfl (fun ls hl => ?_)
                        have hl : lv_has ls 9 [(7, .int 1), (0, .ref h0), (1, .int x), (2, .int y), (3, .int z), (4, .int lq), (5, .int r10), (6, .int r15)] := hl
                        refine zz_labM (B := fun (lk : Nat) (K : Heap → List Loc → Array Slot → List Value → Prop) => ∀ (jr : Int32) (H : Heap) (locs : List Loc) (ls : Array Slot), lk = 0 → (0 ≤ jr.toInt ∧ jr.toInt ≤ 1) → va_P D CL [((ma 30), .inl (cB, 40000, .inl lT)), ((ma 31), .inl (cI, 100, .inl lTS)), (h0, .inr (11, MO ma sv_thrown sv_length sv_nodes sv_many sv_directories sv_runsFrom sv_runs sv_read sv_wrong sv_isNamed sv_goes sv_goesSize sv_goesAt ltp lro)), ((ma 16), .inl (cJ, 46080, .inr (.inl F)))] H → va_D A [((ma 30), .inl (cB, 40000, .inl lT)), ((ma 31), .inl (cI, 100, .inl lTS)), (h0, .inr (11, MO ma sv_thrown sv_length sv_nodes sv_many sv_directories sv_runsFrom sv_runs sv_read sv_wrong sv_isNamed sv_goes sv_goesSize sv_goesAt ltp lro)), ((ma 16), .inl (cJ, 46080, .inr (.inl F)))] → va_S A s.heap H locs → lv_has ls 9 [(0, .ref h0), (1, .int x), (2, .int y), (3, .int z), (4, .int lq), (5, .int r10), (6, .int r15), (7, .int 1)] → K H locs ls [.int jr, .ref h0]) 158 ?_ ?_
                        · skip
                          intro lk ih158 jr H locs ls hm158 f5 hP hD hS hl
                          refine va_put (D := D) (ci := 11) (v := .int jr) (ty := .boolean) (C := "DiscMakerModel") (T := F_DiscMakerModel) (N := 48) hx hb ht9 in_DiscMakerModel t_DiscMakerModel t_DiscMakerModel_ok n_DiscMakerModel hown hK hP hD hS 2 rfl rfl 47 (by decide) (ht9 _ k1478) (fun _ h9 => h9) rfl (by decide +kernel) (i_narZ (by omega)) (i_fitZ (by omega)) (Nat.le_of_ble_eq_true rfl) d_DiscMakerModel_targetGoesOn_158 (fun H locs hP hD hS => ?_)
                          have hP : va_P D CL [((ma 30), .inl (cB, 40000, .inl lT)), ((ma 31), .inl (cI, 100, .inl lTS)), (h0, .inr (11, MO ma sv_thrown sv_length sv_nodes sv_many sv_directories sv_runsFrom sv_runs sv_read sv_wrong sv_isNamed sv_goes sv_goesSize sv_goesAt ltp jr)), ((ma 16), .inl (cJ, 46080, .inr (.inl F)))] H := hP
                          have hD : va_D A [((ma 30), .inl (cB, 40000, .inl lT)), ((ma 31), .inl (cI, 100, .inl lTS)), (h0, .inr (11, MO ma sv_thrown sv_length sv_nodes sv_many sv_directories sv_runsFrom sv_runs sv_read sv_wrong sv_isNamed sv_goes sv_goesSize sv_goesAt ltp jr)), ((ma 16), .inl (cJ, 46080, .inr (.inl F)))] := hD
                          refine zz_labM (B := fun (lk : Nat) (K : Heap → List Loc → Array Slot → List Value → Prop) => ∀ (iT : Nat → Int32) (iTS : Nat → Int32) (H : Heap) (locs : List Loc) (ls : Array Slot), lk = 0 → (Rg 0 400 100 iTS) → va_P D CL [((ma 30), .inl (cB, 40000, .inl iT)), ((ma 31), .inl (cI, 100, .inl iTS)), (h0, .inr (11, MO ma sv_thrown sv_length sv_nodes sv_many sv_directories sv_runsFrom sv_runs sv_read sv_wrong sv_isNamed sv_goes sv_goesSize sv_goesAt ltp jr)), ((ma 16), .inl (cJ, 46080, .inr (.inl F)))] H → va_D A [((ma 30), .inl (cB, 40000, .inl iT)), ((ma 31), .inl (cI, 100, .inl iTS)), (h0, .inr (11, MO ma sv_thrown sv_length sv_nodes sv_many sv_directories sv_runsFrom sv_runs sv_read sv_wrong sv_isNamed sv_goes sv_goesSize sv_goesAt ltp jr)), ((ma 16), .inl (cJ, 46080, .inr (.inl F)))] → va_S A s.heap H locs → lv_has ls 9 [(0, .ref h0), (1, .int x), (2, .int y), (3, .int z), (4, .int lq), (5, .int r10), (6, .int r15), (7, .int 1)] → K H locs ls []) 178 ?_ ?_
                          · skip
                            intro lk ih178 iT iTS H locs ls hm178 hiTS hP hD hS hl
                            refine lv_aload_n hx hb d_DiscMakerModel_targetGoesOn_178 rfl (lv_at hl 0 rfl) ?_
                            refine va_get (D := D) (ci := 11) (v := .int jr) (C := "DiscMakerModel") (T := F_DiscMakerModel) (N := 48) hx hb ht9 in_DiscMakerModel hown hK hP 2 rfl rfl 47 (by decide) (ht9 _ k1478) (fun _ h9 => h9) rfl d_DiscMakerModel_targetGoesOn_179 ?_
                            refine lv_if_eq (tgt := 197) hx hb d_DiscMakerModel_targetGoesOn_182 (by decide) (fun h_9 => ?_) (fun h_9 => ?_)
                            · skip
                              have g182_387 : jr.toInt = 0 := (i_eq rfl (by decide)).mp h_9
                              have hP := hP.sub (ws' := [((ma 30), .inl (cB, 40000, .inl iT)), ((ma 31), .inl (cI, 100, .inl iTS)), (h0, .inr (11, MO ma sv_thrown sv_length sv_nodes sv_many sv_directories sv_runsFrom sv_runs sv_read sv_wrong sv_isNamed sv_goes sv_goesSize sv_goesAt ltp jr)), ((ma 16), .inl (cJ, 46080, .inr (.inl F)))]) [0, 1, 2, 3] rfl
                              have hD := hD.sub (ws' := [((ma 30), .inl (cB, 40000, .inl iT)), ((ma 31), .inl (cI, 100, .inl iTS)), (h0, .inr (11, MO ma sv_thrown sv_length sv_nodes sv_many sv_directories sv_runsFrom sv_runs sv_read sv_wrong sv_isNamed sv_goes sv_goesSize sv_goesAt ltp jr)), ((ma 16), .inl (cJ, 46080, .inr (.inl F)))]) [0, 1, 2, 3] (by decide +kernel) rfl
                              have hl := lv_sub hl [0, 1, 2, 3, 4, 5, 6] rfl
                              exact kk197 _ jr iT iTS _ _ _ rfl ((by (try dsimp only); first | assumption | omega | trivial)) hP hD hS hl
                            · skip
                              have g182_387 : ¬ jr.toInt = 0 := fun h8 => h_9 ((i_eq rfl (by decide)).mpr h8)
                              refine lv_aload_n hx hb d_DiscMakerModel_targetGoesOn_185 rfl (lv_at hl 0 rfl) ?_
                              refine lv_iload_n hx hb d_DiscMakerModel_targetGoesOn_186 rfl (lv_at hl 1 rfl) ?_
                              refine lv_bipush (v := 47) hx hb d_DiscMakerModel_targetGoesOn_187 (by decide) ?_
                              have hPc := hP.sub (ws' := [(h0, .inr (11, MO ma sv_thrown sv_length sv_nodes sv_many sv_directories sv_runsFrom sv_runs sv_read sv_wrong sv_isNamed sv_goes sv_goesSize sv_goesAt ltp jr)), ((ma 30), .inl (cB, 40000, .inl iT)), ((ma 31), .inl (cI, 100, .inl iTS))]) [2, 0, 1] rfl
                              have hDc := hD.sub (ws' := [(h0, .inr (11, MO ma sv_thrown sv_length sv_nodes sv_many sv_directories sv_runsFrom sv_runs sv_read sv_wrong sv_isNamed sv_goes sv_goesSize sv_goesAt ltp jr)), ((ma 30), .inl (cB, 40000, .inl iT)), ((ma 31), .inl (cI, 100, .inl iTS))]) [2, 0, 1] (by decide +kernel) rfl
                              have hFc := va_free (wc := [(h0, .inr (11, MO ma sv_thrown sv_length sv_nodes sv_many sv_directories sv_runsFrom sv_runs sv_read sv_wrong sv_isNamed sv_goes sv_goesSize sv_goesAt ltp jr)), ((ma 30), .inl (cB, 40000, .inl iT)), ((ma 31), .inl (cI, 100, .inl iTS))]) hD hS hA [2, 0, 1] rfl
                              have hkc : 0 ≤ 0 := by decide
                              have hks : 0 ≤ 0 := by decide
                              refine va_calli (va_runV (C := "DiscMakerModel") (As := [.int x, .int 47]) (rest := []) ⟨hx, hb, hml, hown, hts⟩ (m_letterOf l D cB cI cJ cZ cN cF H.size h0 ma sv_thrown sv_length sv_nodes sv_many sv_directories sv_runsFrom sv_runs sv_read sv_wrong sv_isNamed sv_goes sv_goesSize sv_goesAt ltp jr iT iTS x 47 (by (try dsimp only); first | assumption | omega | trivial) (by (try dsimp only); first | assumption | omega | trivial)) (cwV 2 hts (lg_goodV k1882 k1884 k110 k125 kc_DiscMakerModel_letterOf) rfl rfl rfl (by decide +kernel) ⟨Nat.le_of_ble_eq_true rfl, Nat.le_of_ble_eq_true rfl⟩) ⟨fun a U g mk q => by obtain ⟨q0, q1, qP, qK, qN, qD⟩ := q; exact ⟨q0, q1, qP, va_K.moved (u := U) (U := U.calling g mk a) (Vm.Alike.refl U.vm) qK, qN.calling, qD⟩, va_recv hK hP (ci := 11) (q0 := 2) rfl rfl, fun U hU hW => ⟨rfl, by rw [hU], by rw [hU]; exact hPc, va_K.moved hW.alike hK, NN.warm hW hN, hDc.weaken (fun _ _ _ _ => trivial)⟩⟩ rfl rfl hl.1 rfl (lv_room (Nat.le_of_ble_eq_true rfl)) d_DiscMakerModel_targetGoesOn_189 ⟨hkc, hks⟩) hS (fun q _ h => hFc q h) hFc (fun r102 u t H1 locs ht hvm hp_r102 hB hz1 hk1 hS => ?_)
                              obtain ⟨gT_103, gTS_104⟩ := u
                              obtain ⟨hP1, hD1⟩ := hB
                              rw [ht] at hP1
                              obtain ⟨hP, hD⟩ := va_join (wr := [((ma 16), .inl (cJ, 46080, .inr (.inl F)))]) (w1 := [(h0, .inr (11, MO ma sv_thrown sv_length sv_nodes sv_many sv_directories sv_runsFrom sv_runs sv_read sv_wrong sv_isNamed sv_goes sv_goesSize sv_goesAt ltp jr)), ((ma 30), .inl (cB, 40000, .inl gT_103)), ((ma 31), .inl (cI, 100, .inl gTS_104))]) hP hD [2, 0, 1] [3] rfl rfl (by decide +kernel) (by decide +kernel) hk1 hFc hP1 hD1
                              clear hPc hDc hFc hP1 hD1 hk1 hz1 hkc hks
                              generalize H1 = H at hP hS ⊢
                              have hP : va_P D CL [((ma 16), .inl (cJ, 46080, .inr (.inl F))), (h0, .inr (11, MO ma sv_thrown sv_length sv_nodes sv_many sv_directories sv_runsFrom sv_runs sv_read sv_wrong sv_isNamed sv_goes sv_goesSize sv_goesAt ltp jr)), ((ma 30), .inl (cB, 40000, .inl gT_103)), ((ma 31), .inl (cI, 100, .inl gTS_104))] H := hP
                              have hD : va_D A [((ma 16), .inl (cJ, 46080, .inr (.inl F))), (h0, .inr (11, MO ma sv_thrown sv_length sv_nodes sv_many sv_directories sv_runsFrom sv_runs sv_read sv_wrong sv_isNamed sv_goes sv_goesSize sv_goesAt ltp jr)), ((ma 30), .inl (cB, 40000, .inl gT_103)), ((ma 31), .inl (cI, 100, .inl gTS_104))] := hD
                              try dsimp only at hp_r102
                              obtain ⟨hr_105, hgTS_106⟩ := hp_r102
                              refine lv_if_ne (tgt := 197) hx hb d_DiscMakerModel_targetGoesOn_192 (by decide) (fun h_9 => ?_) (fun h_9 => ?_)
                              · skip
                                have g192_393 : ¬ r102.toInt = 0 := fun h8 => h_9 ((i_eq rfl (by decide)).mpr h8)
                                have hP := hP.sub (ws' := [((ma 30), .inl (cB, 40000, .inl gT_103)), ((ma 31), .inl (cI, 100, .inl gTS_104)), (h0, .inr (11, MO ma sv_thrown sv_length sv_nodes sv_many sv_directories sv_runsFrom sv_runs sv_read sv_wrong sv_isNamed sv_goes sv_goesSize sv_goesAt ltp jr)), ((ma 16), .inl (cJ, 46080, .inr (.inl F)))]) [2, 3, 1, 0] rfl
                                have hD := hD.sub (ws' := [((ma 30), .inl (cB, 40000, .inl gT_103)), ((ma 31), .inl (cI, 100, .inl gTS_104)), (h0, .inr (11, MO ma sv_thrown sv_length sv_nodes sv_many sv_directories sv_runsFrom sv_runs sv_read sv_wrong sv_isNamed sv_goes sv_goesSize sv_goesAt ltp jr)), ((ma 16), .inl (cJ, 46080, .inr (.inl F)))]) [2, 3, 1, 0] (by decide +kernel) rfl
                                have hl := lv_sub hl [0, 1, 2, 3, 4, 5, 6] rfl
                                exact kk197 _ jr gT_103 gTS_104 _ _ _ rfl ((by (try dsimp only); first | assumption | omega | trivial)) hP hD hS hl
                              · skip
                                have g192_393 : r102.toInt = 0 := (i_eq rfl (by decide)).mp h_9
                                refine lv_iconst (v := 0) hx hb d_DiscMakerModel_targetGoesOn_195 (by decide) ?_
                                have hP9 := hP.sub (ws' := [(h0, .inr (11, MO ma sv_thrown sv_length sv_nodes sv_many sv_directories sv_runsFrom sv_runs sv_read sv_wrong sv_isNamed sv_goes sv_goesSize sv_goesAt ltp jr)), ((ma 16), .inl (cJ, 46080, .inr (.inl F))), ((ma 30), .inl (cB, 40000, .inl gT_103)), ((ma 31), .inl (cI, 100, .inl gTS_104))]) [1, 0, 2, 3] rfl
                                have hD9 := hD.sub (ws' := [(h0, .inr (11, MO ma sv_thrown sv_length sv_nodes sv_many sv_directories sv_runsFrom sv_runs sv_read sv_wrong sv_isNamed sv_goes sv_goesSize sv_goesAt ltp jr)), ((ma 16), .inl (cJ, 46080, .inr (.inl F))), ((ma 30), .inl (cB, 40000, .inl gT_103)), ((ma 31), .inl (cI, 100, .inl gTS_104))]) [1, 0, 2, 3] (by decide +kernel) rfl
                                exact W.zret (v := 0) hx hb hr (by first | rfl | decide | exact i_narZ (by omega)) (fun t ht hW => ⟨⟨0, (ltp, jr, gT_103, gTS_104), rfl, ⟨(by (try dsimp only); first | assumption | omega | trivial), (by (try dsimp only); first | assumption | omega | trivial)⟩, by rw [ht]; exact hP9, hD9⟩, hS.F ht⟩) hS.2.2 d_DiscMakerModel_targetGoesOn_196
                          · skip
                            intro kk178
                            refine lv_iload hx hb d_DiscMakerModel_targetGoesOn_161 (lv_at hl 7 rfl) ?_
                            refine lv_if_eq (tgt := 178) hx hb d_DiscMakerModel_targetGoesOn_163 (by decide) (fun h_9 => absurd h_9 (by decide)) (fun _ => ?_)
                            refine lv_aload_n hx hb d_DiscMakerModel_targetGoesOn_166 rfl (lv_at hl 0 rfl) ?_
                            refine lv_iload_n hx hb d_DiscMakerModel_targetGoesOn_167 rfl (lv_at hl 1 rfl) ?_
                            refine lv_bipush (v := 47) hx hb d_DiscMakerModel_targetGoesOn_168 (by decide) ?_
                            have hPc := hP.sub (ws' := [(h0, .inr (11, MO ma sv_thrown sv_length sv_nodes sv_many sv_directories sv_runsFrom sv_runs sv_read sv_wrong sv_isNamed sv_goes sv_goesSize sv_goesAt ltp jr)), ((ma 30), .inl (cB, 40000, .inl lT)), ((ma 31), .inl (cI, 100, .inl lTS))]) [2, 0, 1] rfl
                            have hDc := hD.sub (ws' := [(h0, .inr (11, MO ma sv_thrown sv_length sv_nodes sv_many sv_directories sv_runsFrom sv_runs sv_read sv_wrong sv_isNamed sv_goes sv_goesSize sv_goesAt ltp jr)), ((ma 30), .inl (cB, 40000, .inl lT)), ((ma 31), .inl (cI, 100, .inl lTS))]) [2, 0, 1] (by decide +kernel) rfl
                            have hFc := va_free (wc := [(h0, .inr (11, MO ma sv_thrown sv_length sv_nodes sv_many sv_directories sv_runsFrom sv_runs sv_read sv_wrong sv_isNamed sv_goes sv_goesSize sv_goesAt ltp jr)), ((ma 30), .inl (cB, 40000, .inl lT)), ((ma 31), .inl (cI, 100, .inl lTS))]) hD hS hA [2, 0, 1] rfl
                            have hkc : 0 ≤ 0 := by decide
                            have hks : 0 ≤ 0 := by decide
                            refine va_calli (va_runV (C := "DiscMakerModel") (As := [.int x, .int 47]) (rest := []) ⟨hx, hb, hml, hown, hts⟩ (m_letterOf l D cB cI cJ cZ cN cF H.size h0 ma sv_thrown sv_length sv_nodes sv_many sv_directories sv_runsFrom sv_runs sv_read sv_wrong sv_isNamed sv_goes sv_goesSize sv_goesAt ltp jr lT lTS x 47 (by (try dsimp only); first | assumption | omega | trivial) (by (try dsimp only); first | assumption | omega | trivial)) (cwV 2 hts (lg_goodV k1882 k1884 k110 k125 kc_DiscMakerModel_letterOf) rfl rfl rfl (by decide +kernel) ⟨Nat.le_of_ble_eq_true rfl, Nat.le_of_ble_eq_true rfl⟩) ⟨fun a U g mk q => by obtain ⟨q0, q1, qP, qK, qN, qD⟩ := q; exact ⟨q0, q1, qP, va_K.moved (u := U) (U := U.calling g mk a) (Vm.Alike.refl U.vm) qK, qN.calling, qD⟩, va_recv hK hP (ci := 11) (q0 := 2) rfl rfl, fun U hU hW => ⟨rfl, by rw [hU], by rw [hU]; exact hPc, va_K.moved hW.alike hK, NN.warm hW hN, hDc.weaken (fun _ _ _ _ => trivial)⟩⟩ rfl rfl hl.1 rfl (lv_room (Nat.le_of_ble_eq_true rfl)) d_DiscMakerModel_targetGoesOn_170 ⟨hkc, hks⟩) hS (fun q _ h => hFc q h) hFc (fun r107 u t H1 locs ht hvm hp_r107 hB hz1 hk1 hS => ?_)
                            obtain ⟨gT_108, gTS_109⟩ := u
                            obtain ⟨hP1, hD1⟩ := hB
                            rw [ht] at hP1
                            obtain ⟨hP, hD⟩ := va_join (wr := [((ma 16), .inl (cJ, 46080, .inr (.inl F)))]) (w1 := [(h0, .inr (11, MO ma sv_thrown sv_length sv_nodes sv_many sv_directories sv_runsFrom sv_runs sv_read sv_wrong sv_isNamed sv_goes sv_goesSize sv_goesAt ltp jr)), ((ma 30), .inl (cB, 40000, .inl gT_108)), ((ma 31), .inl (cI, 100, .inl gTS_109))]) hP hD [2, 0, 1] [3] rfl rfl (by decide +kernel) (by decide +kernel) hk1 hFc hP1 hD1
                            clear hPc hDc hFc hP1 hD1 hk1 hz1 hkc hks
                            generalize H1 = H at hP hS ⊢
                            have hP : va_P D CL [((ma 16), .inl (cJ, 46080, .inr (.inl F))), (h0, .inr (11, MO ma sv_thrown sv_length sv_nodes sv_many sv_directories sv_runsFrom sv_runs sv_read sv_wrong sv_isNamed sv_goes sv_goesSize sv_goesAt ltp jr)), ((ma 30), .inl (cB, 40000, .inl gT_108)), ((ma 31), .inl (cI, 100, .inl gTS_109))] H := hP
                            have hD : va_D A [((ma 16), .inl (cJ, 46080, .inr (.inl F))), (h0, .inr (11, MO ma sv_thrown sv_length sv_nodes sv_many sv_directories sv_runsFrom sv_runs sv_read sv_wrong sv_isNamed sv_goes sv_goesSize sv_goesAt ltp jr)), ((ma 30), .inl (cB, 40000, .inl gT_108)), ((ma 31), .inl (cI, 100, .inl gTS_109))] := hD
                            try dsimp only at hp_r107
                            obtain ⟨hr_110, hgTS_111⟩ := hp_r107
                            refine lv_if_ne (tgt := 178) hx hb d_DiscMakerModel_targetGoesOn_173 (by decide) (fun h_9 => ?_) (fun h_9 => ?_)
                            · skip
                              have g173_403 : ¬ r107.toInt = 0 := fun h8 => h_9 ((i_eq rfl (by decide)).mpr h8)
                              have hP := hP.sub (ws' := [((ma 30), .inl (cB, 40000, .inl gT_108)), ((ma 31), .inl (cI, 100, .inl gTS_109)), (h0, .inr (11, MO ma sv_thrown sv_length sv_nodes sv_many sv_directories sv_runsFrom sv_runs sv_read sv_wrong sv_isNamed sv_goes sv_goesSize sv_goesAt ltp jr)), ((ma 16), .inl (cJ, 46080, .inr (.inl F)))]) [2, 3, 1, 0] rfl
                              have hD := hD.sub (ws' := [((ma 30), .inl (cB, 40000, .inl gT_108)), ((ma 31), .inl (cI, 100, .inl gTS_109)), (h0, .inr (11, MO ma sv_thrown sv_length sv_nodes sv_many sv_directories sv_runsFrom sv_runs sv_read sv_wrong sv_isNamed sv_goes sv_goesSize sv_goesAt ltp jr)), ((ma 16), .inl (cJ, 46080, .inr (.inl F)))]) [2, 3, 1, 0] (by decide +kernel) rfl
                              have hl := lv_sub hl [0, 1, 2, 3, 4, 5, 6, 7] rfl
                              exact kk178 _ gT_108 gTS_109 _ _ _ rfl ((by (try dsimp only); first | assumption | omega | trivial)) hP hD hS hl
                            · skip
                              have g173_403 : r107.toInt = 0 := (i_eq rfl (by decide)).mp h_9
                              refine lv_iconst (v := 0) hx hb d_DiscMakerModel_targetGoesOn_176 (by decide) ?_
                              have hP9 := hP.sub (ws' := [(h0, .inr (11, MO ma sv_thrown sv_length sv_nodes sv_many sv_directories sv_runsFrom sv_runs sv_read sv_wrong sv_isNamed sv_goes sv_goesSize sv_goesAt ltp jr)), ((ma 16), .inl (cJ, 46080, .inr (.inl F))), ((ma 30), .inl (cB, 40000, .inl gT_108)), ((ma 31), .inl (cI, 100, .inl gTS_109))]) [1, 0, 2, 3] rfl
                              have hD9 := hD.sub (ws' := [(h0, .inr (11, MO ma sv_thrown sv_length sv_nodes sv_many sv_directories sv_runsFrom sv_runs sv_read sv_wrong sv_isNamed sv_goes sv_goesSize sv_goesAt ltp jr)), ((ma 16), .inl (cJ, 46080, .inr (.inl F))), ((ma 30), .inl (cB, 40000, .inl gT_108)), ((ma 31), .inl (cI, 100, .inl gTS_109))]) [1, 0, 2, 3] (by decide +kernel) rfl
                              exact W.zret (v := 0) hx hb hr (by first | rfl | decide | exact i_narZ (by omega)) (fun t ht hW => ⟨⟨0, (ltp, jr, gT_108, gTS_109), rfl, ⟨(by (try dsimp only); first | assumption | omega | trivial), (by (try dsimp only); first | assumption | omega | trivial)⟩, by rw [ht]; exact hP9, hD9⟩, hS.F ht⟩) hS.2.2 d_DiscMakerModel_targetGoesOn_177
                        · skip
                          intro kk158
                          refine lv_aload_n hx hb d_DiscMakerModel_targetGoesOn_138 rfl (lv_at hl 1 rfl) ?_
                          refine lv_aload_n hx hb d_DiscMakerModel_targetGoesOn_139 rfl (lv_at hl 1 rfl) ?_
                          refine va_get (D := D) (ci := 11) (v := .int ltp) (C := "DiscMakerModel") (T := F_DiscMakerModel) (N := 48) hx hb ht9 in_DiscMakerModel hown hK hP 2 rfl rfl 46 (by decide) (ht9 _ k1477) (fun _ h9 => h9) rfl d_DiscMakerModel_targetGoesOn_140 ?_
                          refine lv_if_ne (tgt := 157) hx hb d_DiscMakerModel_targetGoesOn_143 (by decide) (fun h_9 => ?_) (fun h_9 => ?_)
                          · skip
                            have g143_410 : ¬ ltp.toInt = 0 := fun h8 => h_9 ((i_eq rfl (by decide)).mpr h8)
                            refine lv_iconst (v := 0) hx hb d_DiscMakerModel_targetGoesOn_157 (by decide) ?_
                            have hP := hP.sub (ws' := [((ma 30), .inl (cB, 40000, .inl lT)), ((ma 31), .inl (cI, 100, .inl lTS)), (h0, .inr (11, MO ma sv_thrown sv_length sv_nodes sv_many sv_directories sv_runsFrom sv_runs sv_read sv_wrong sv_isNamed sv_goes sv_goesSize sv_goesAt ltp lro)), ((ma 16), .inl (cJ, 46080, .inr (.inl F)))]) [0, 1, 2, 3] rfl
                            have hD := hD.sub (ws' := [((ma 30), .inl (cB, 40000, .inl lT)), ((ma 31), .inl (cI, 100, .inl lTS)), (h0, .inr (11, MO ma sv_thrown sv_length sv_nodes sv_many sv_directories sv_runsFrom sv_runs sv_read sv_wrong sv_isNamed sv_goes sv_goesSize sv_goesAt ltp lro)), ((ma 16), .inl (cJ, 46080, .inr (.inl F)))]) [0, 1, 2, 3] (by decide +kernel) rfl
                            have hl := lv_sub hl [1, 2, 3, 4, 5, 6, 7, 0] rfl
                            exact kk158 _ 0 _ _ _ rfl ((by (try dsimp only); first | assumption | omega | trivial)) hP hD hS hl
                          · skip
                            have g143_410 : ltp.toInt = 0 := (i_eq rfl (by decide)).mp h_9
                            refine lv_iload hx hb d_DiscMakerModel_targetGoesOn_146 (lv_at hl 6 rfl) ?_
                            refine lv_bipush (v := 8) hx hb d_DiscMakerModel_targetGoesOn_148 (by decide) ?_
                            refine lv_icmp_ne (tgt := 157) hx hb d_DiscMakerModel_targetGoesOn_150 (by decide) (fun h_9 => ?_) (fun h_9 => ?_)
                            · skip
                              have g150_415 : ¬ r10.toInt = 8 := fun h8 => h_9 ((i_eq rfl (by decide)).mpr h8)
                              refine lv_iconst (v := 0) hx hb d_DiscMakerModel_targetGoesOn_157 (by decide) ?_
                              have hP := hP.sub (ws' := [((ma 30), .inl (cB, 40000, .inl lT)), ((ma 31), .inl (cI, 100, .inl lTS)), (h0, .inr (11, MO ma sv_thrown sv_length sv_nodes sv_many sv_directories sv_runsFrom sv_runs sv_read sv_wrong sv_isNamed sv_goes sv_goesSize sv_goesAt ltp lro)), ((ma 16), .inl (cJ, 46080, .inr (.inl F)))]) [0, 1, 2, 3] rfl
                              have hD := hD.sub (ws' := [((ma 30), .inl (cB, 40000, .inl lT)), ((ma 31), .inl (cI, 100, .inl lTS)), (h0, .inr (11, MO ma sv_thrown sv_length sv_nodes sv_many sv_directories sv_runsFrom sv_runs sv_read sv_wrong sv_isNamed sv_goes sv_goesSize sv_goesAt ltp lro)), ((ma 16), .inl (cJ, 46080, .inr (.inl F)))]) [0, 1, 2, 3] (by decide +kernel) rfl
                              have hl := lv_sub hl [1, 2, 3, 4, 5, 6, 7, 0] rfl
                              exact kk158 _ 0 _ _ _ rfl ((by (try dsimp only); first | assumption | omega | trivial)) hP hD hS hl
                            · skip
                              have g150_415 : r10.toInt = 8 := (i_eq rfl (by decide)).mp h_9
                              refine lv_iconst (v := 1) hx hb d_DiscMakerModel_targetGoesOn_153 (by decide) ?_
                              refine lv_goto (tgt := 158) hx hb d_DiscMakerModel_targetGoesOn_154 (by decide) ?_
                              have hP := hP.sub (ws' := [((ma 30), .inl (cB, 40000, .inl lT)), ((ma 31), .inl (cI, 100, .inl lTS)), (h0, .inr (11, MO ma sv_thrown sv_length sv_nodes sv_many sv_directories sv_runsFrom sv_runs sv_read sv_wrong sv_isNamed sv_goes sv_goesSize sv_goesAt ltp lro)), ((ma 16), .inl (cJ, 46080, .inr (.inl F)))]) [0, 1, 2, 3] rfl
                              have hD := hD.sub (ws' := [((ma 30), .inl (cB, 40000, .inl lT)), ((ma 31), .inl (cI, 100, .inl lTS)), (h0, .inr (11, MO ma sv_thrown sv_length sv_nodes sv_many sv_directories sv_runsFrom sv_runs sv_read sv_wrong sv_isNamed sv_goes sv_goesSize sv_goesAt ltp lro)), ((ma 16), .inl (cJ, 46080, .inr (.inl F)))]) [0, 1, 2, 3] (by decide +kernel) rfl
                              have hl := lv_sub hl [1, 2, 3, 4, 5, 6, 7, 0] rfl
                              exact kk158 _ 1 _ _ _ rfl ((by (try dsimp only); first | assumption | omega | trivial)) hP hD hS hl
              · skip
                intro kk109
                refine lv_iload hx hb d_DiscMakerModel_targetGoesOn_73 (lv_at hl 1 rfl) ?_
                refine lv_if_eq (tgt := 97) hx hb d_DiscMakerModel_targetGoesOn_75 (by decide) (fun h_9 => ?_) (fun h_9 => ?_)
                · skip
                  have g75_422 : r10.toInt = 0 := (i_eq rfl (by decide)).mp h_9
                  refine lv_iload hx hb d_DiscMakerModel_targetGoesOn_97 (lv_at hl 1 rfl) ?_
                  refine lv_if_eq (tgt := 109) hx hb d_DiscMakerModel_targetGoesOn_99 (by decide) (fun h_9 => ?_) (fun h_9 => ?_)
                  · skip
                    have g99_424 : r10.toInt = 0 := (i_eq rfl (by decide)).mp h_9
                    have hP := hP.sub (ws' := [((ma 30), .inl (cB, 40000, .inl lT)), ((ma 31), .inl (cI, 100, .inl lTS)), (h0, .inr (11, MO ma sv_thrown sv_length sv_nodes sv_many sv_directories sv_runsFrom sv_runs sv_read sv_wrong sv_isNamed sv_goes sv_goesSize sv_goesAt ltp lro)), ((ma 16), .inl (cJ, 46080, .inr (.inl F)))]) [0, 1, 2, 3] rfl
                    have hD := hD.sub (ws' := [((ma 30), .inl (cB, 40000, .inl lT)), ((ma 31), .inl (cI, 100, .inl lTS)), (h0, .inr (11, MO ma sv_thrown sv_length sv_nodes sv_many sv_directories sv_runsFrom sv_runs sv_read sv_wrong sv_isNamed sv_goes sv_goesSize sv_goesAt ltp lro)), ((ma 16), .inl (cJ, 46080, .inr (.inl F)))]) [0, 1, 2, 3] (by decide +kernel) rfl
                    have hl := lv_sub hl [2, 3, 4, 5, 6, 1, 0] rfl
                    exact kk109 _  _ _ _ rfl  hP hD hS hl
                  · skip
                    have g99_424 : ¬ r10.toInt = 0 := fun h8 => h_9 ((i_eq rfl (by decide)).mpr h8)
                    refine lv_iload hx hb d_DiscMakerModel_targetGoesOn_102 (lv_at hl 0 rfl) ?_
                    refine lv_if_le (tgt := 109) hx hb d_DiscMakerModel_targetGoesOn_104 (by decide) (fun h_9 => ?_) (fun h_9 => ?_)
                    · skip
                      have g104_427 : r15.toInt ≤ 0 := (i_le rfl (by decide)).mp h_9
                      have hP := hP.sub (ws' := [((ma 30), .inl (cB, 40000, .inl lT)), ((ma 31), .inl (cI, 100, .inl lTS)), (h0, .inr (11, MO ma sv_thrown sv_length sv_nodes sv_many sv_directories sv_runsFrom sv_runs sv_read sv_wrong sv_isNamed sv_goes sv_goesSize sv_goesAt ltp lro)), ((ma 16), .inl (cJ, 46080, .inr (.inl F)))]) [0, 1, 2, 3] rfl
                      have hD := hD.sub (ws' := [((ma 30), .inl (cB, 40000, .inl lT)), ((ma 31), .inl (cI, 100, .inl lTS)), (h0, .inr (11, MO ma sv_thrown sv_length sv_nodes sv_many sv_directories sv_runsFrom sv_runs sv_read sv_wrong sv_isNamed sv_goes sv_goesSize sv_goesAt ltp lro)), ((ma 16), .inl (cJ, 46080, .inr (.inl F)))]) [0, 1, 2, 3] (by decide +kernel) rfl
                      have hl := lv_sub hl [2, 3, 4, 5, 6, 1, 0] rfl
                      exact kk109 _  _ _ _ rfl  hP hD hS hl
                    · skip
                      have g104_427 : ¬ r15.toInt ≤ 0 := fun h8 => h_9 ((i_le rfl (by decide)).mpr h8)
                      refine lv_iconst (v := 0) hx hb d_DiscMakerModel_targetGoesOn_107 (by decide) ?_
                      have hP9 := hP.sub (ws' := [(h0, .inr (11, MO ma sv_thrown sv_length sv_nodes sv_many sv_directories sv_runsFrom sv_runs sv_read sv_wrong sv_isNamed sv_goes sv_goesSize sv_goesAt ltp lro)), ((ma 16), .inl (cJ, 46080, .inr (.inl F))), ((ma 30), .inl (cB, 40000, .inl lT)), ((ma 31), .inl (cI, 100, .inl lTS))]) [2, 3, 0, 1] rfl
                      have hD9 := hD.sub (ws' := [(h0, .inr (11, MO ma sv_thrown sv_length sv_nodes sv_many sv_directories sv_runsFrom sv_runs sv_read sv_wrong sv_isNamed sv_goes sv_goesSize sv_goesAt ltp lro)), ((ma 16), .inl (cJ, 46080, .inr (.inl F))), ((ma 30), .inl (cB, 40000, .inl lT)), ((ma 31), .inl (cI, 100, .inl lTS))]) [2, 3, 0, 1] (by decide +kernel) rfl
                      exact W.zret (v := 0) hx hb hr (by first | rfl | decide | exact i_narZ (by omega)) (fun t ht hW => ⟨⟨0, (ltp, lro, lT, lTS), rfl, ⟨(by (try dsimp only); first | assumption | omega | trivial), (by (try dsimp only); first | assumption | omega | trivial)⟩, by rw [ht]; exact hP9, hD9⟩, hS.F ht⟩) hS.2.2 d_DiscMakerModel_targetGoesOn_108
                · skip
                  have g75_422 : ¬ r10.toInt = 0 := fun h8 => h_9 ((i_eq rfl (by decide)).mpr h8)
                  refine lv_iload hx hb d_DiscMakerModel_targetGoesOn_78 (lv_at hl 1 rfl) ?_
                  refine lv_iconst (v := 2) hx hb d_DiscMakerModel_targetGoesOn_80 (by decide) ?_
                  refine lv_icmp_eq (tgt := 97) hx hb d_DiscMakerModel_targetGoesOn_81 (by decide) (fun h_9 => ?_) (fun h_9 => ?_)
                  · skip
                    have g81_433 : r10.toInt = 2 := (i_eq rfl (by decide)).mp h_9
                    refine lv_iload hx hb d_DiscMakerModel_targetGoesOn_97 (lv_at hl 1 rfl) ?_
                    refine lv_if_eq (tgt := 109) hx hb d_DiscMakerModel_targetGoesOn_99 (by decide) (fun h_9 => ?_) (fun h_9 => ?_)
                    · skip
                      have g99_435 : r10.toInt = 0 := (i_eq rfl (by decide)).mp h_9
                      have hP := hP.sub (ws' := [((ma 30), .inl (cB, 40000, .inl lT)), ((ma 31), .inl (cI, 100, .inl lTS)), (h0, .inr (11, MO ma sv_thrown sv_length sv_nodes sv_many sv_directories sv_runsFrom sv_runs sv_read sv_wrong sv_isNamed sv_goes sv_goesSize sv_goesAt ltp lro)), ((ma 16), .inl (cJ, 46080, .inr (.inl F)))]) [0, 1, 2, 3] rfl
                      have hD := hD.sub (ws' := [((ma 30), .inl (cB, 40000, .inl lT)), ((ma 31), .inl (cI, 100, .inl lTS)), (h0, .inr (11, MO ma sv_thrown sv_length sv_nodes sv_many sv_directories sv_runsFrom sv_runs sv_read sv_wrong sv_isNamed sv_goes sv_goesSize sv_goesAt ltp lro)), ((ma 16), .inl (cJ, 46080, .inr (.inl F)))]) [0, 1, 2, 3] (by decide +kernel) rfl
                      have hl := lv_sub hl [2, 3, 4, 5, 6, 1, 0] rfl
                      exact kk109 _  _ _ _ rfl  hP hD hS hl
                    · skip
                      have g99_435 : ¬ r10.toInt = 0 := fun h8 => h_9 ((i_eq rfl (by decide)).mpr h8)
                      refine lv_iload hx hb d_DiscMakerModel_targetGoesOn_102 (lv_at hl 0 rfl) ?_
                      refine lv_if_le (tgt := 109) hx hb d_DiscMakerModel_targetGoesOn_104 (by decide) (fun h_9 => ?_) (fun h_9 => ?_)
                      · skip
                        have g104_438 : r15.toInt ≤ 0 := (i_le rfl (by decide)).mp h_9
                        have hP := hP.sub (ws' := [((ma 30), .inl (cB, 40000, .inl lT)), ((ma 31), .inl (cI, 100, .inl lTS)), (h0, .inr (11, MO ma sv_thrown sv_length sv_nodes sv_many sv_directories sv_runsFrom sv_runs sv_read sv_wrong sv_isNamed sv_goes sv_goesSize sv_goesAt ltp lro)), ((ma 16), .inl (cJ, 46080, .inr (.inl F)))]) [0, 1, 2, 3] rfl
                        have hD := hD.sub (ws' := [((ma 30), .inl (cB, 40000, .inl lT)), ((ma 31), .inl (cI, 100, .inl lTS)), (h0, .inr (11, MO ma sv_thrown sv_length sv_nodes sv_many sv_directories sv_runsFrom sv_runs sv_read sv_wrong sv_isNamed sv_goes sv_goesSize sv_goesAt ltp lro)), ((ma 16), .inl (cJ, 46080, .inr (.inl F)))]) [0, 1, 2, 3] (by decide +kernel) rfl
                        have hl := lv_sub hl [2, 3, 4, 5, 6, 1, 0] rfl
                        exact kk109 _  _ _ _ rfl  hP hD hS hl
                      · skip
                        have g104_438 : ¬ r15.toInt ≤ 0 := fun h8 => h_9 ((i_le rfl (by decide)).mpr h8)
                        refine lv_iconst (v := 0) hx hb d_DiscMakerModel_targetGoesOn_107 (by decide) ?_
                        have hP9 := hP.sub (ws' := [(h0, .inr (11, MO ma sv_thrown sv_length sv_nodes sv_many sv_directories sv_runsFrom sv_runs sv_read sv_wrong sv_isNamed sv_goes sv_goesSize sv_goesAt ltp lro)), ((ma 16), .inl (cJ, 46080, .inr (.inl F))), ((ma 30), .inl (cB, 40000, .inl lT)), ((ma 31), .inl (cI, 100, .inl lTS))]) [2, 3, 0, 1] rfl
                        have hD9 := hD.sub (ws' := [(h0, .inr (11, MO ma sv_thrown sv_length sv_nodes sv_many sv_directories sv_runsFrom sv_runs sv_read sv_wrong sv_isNamed sv_goes sv_goesSize sv_goesAt ltp lro)), ((ma 16), .inl (cJ, 46080, .inr (.inl F))), ((ma 30), .inl (cB, 40000, .inl lT)), ((ma 31), .inl (cI, 100, .inl lTS))]) [2, 3, 0, 1] (by decide +kernel) rfl
                        exact W.zret (v := 0) hx hb hr (by first | rfl | decide | exact i_narZ (by omega)) (fun t ht hW => ⟨⟨0, (ltp, lro, lT, lTS), rfl, ⟨(by (try dsimp only); first | assumption | omega | trivial), (by (try dsimp only); first | assumption | omega | trivial)⟩, by rw [ht]; exact hP9, hD9⟩, hS.F ht⟩) hS.2.2 d_DiscMakerModel_targetGoesOn_108
                  · skip
                    have g81_433 : ¬ r10.toInt = 2 := fun h8 => h_9 ((i_eq rfl (by decide)).mpr h8)
                    refine lv_iload hx hb d_DiscMakerModel_targetGoesOn_84 (lv_at hl 1 rfl) ?_
                    refine lv_iconst (v := 4) hx hb d_DiscMakerModel_targetGoesOn_86 (by decide) ?_
                    refine lv_icmp_eq (tgt := 97) hx hb d_DiscMakerModel_targetGoesOn_87 (by decide) (fun h_9 => ?_) (fun h_9 => ?_)
                    · skip
                      have g87_444 : r10.toInt = 4 := (i_eq rfl (by decide)).mp h_9
                      refine lv_iload hx hb d_DiscMakerModel_targetGoesOn_97 (lv_at hl 1 rfl) ?_
                      refine lv_if_eq (tgt := 109) hx hb d_DiscMakerModel_targetGoesOn_99 (by decide) (fun h_9 => ?_) (fun h_9 => ?_)
                      · skip
                        have g99_446 : r10.toInt = 0 := (i_eq rfl (by decide)).mp h_9
                        have hP := hP.sub (ws' := [((ma 30), .inl (cB, 40000, .inl lT)), ((ma 31), .inl (cI, 100, .inl lTS)), (h0, .inr (11, MO ma sv_thrown sv_length sv_nodes sv_many sv_directories sv_runsFrom sv_runs sv_read sv_wrong sv_isNamed sv_goes sv_goesSize sv_goesAt ltp lro)), ((ma 16), .inl (cJ, 46080, .inr (.inl F)))]) [0, 1, 2, 3] rfl
                        have hD := hD.sub (ws' := [((ma 30), .inl (cB, 40000, .inl lT)), ((ma 31), .inl (cI, 100, .inl lTS)), (h0, .inr (11, MO ma sv_thrown sv_length sv_nodes sv_many sv_directories sv_runsFrom sv_runs sv_read sv_wrong sv_isNamed sv_goes sv_goesSize sv_goesAt ltp lro)), ((ma 16), .inl (cJ, 46080, .inr (.inl F)))]) [0, 1, 2, 3] (by decide +kernel) rfl
                        have hl := lv_sub hl [2, 3, 4, 5, 6, 1, 0] rfl
                        exact kk109 _  _ _ _ rfl  hP hD hS hl
                      · skip
                        have g99_446 : ¬ r10.toInt = 0 := fun h8 => h_9 ((i_eq rfl (by decide)).mpr h8)
                        refine lv_iload hx hb d_DiscMakerModel_targetGoesOn_102 (lv_at hl 0 rfl) ?_
                        refine lv_if_le (tgt := 109) hx hb d_DiscMakerModel_targetGoesOn_104 (by decide) (fun h_9 => ?_) (fun h_9 => ?_)
                        · skip
                          have g104_449 : r15.toInt ≤ 0 := (i_le rfl (by decide)).mp h_9
                          have hP := hP.sub (ws' := [((ma 30), .inl (cB, 40000, .inl lT)), ((ma 31), .inl (cI, 100, .inl lTS)), (h0, .inr (11, MO ma sv_thrown sv_length sv_nodes sv_many sv_directories sv_runsFrom sv_runs sv_read sv_wrong sv_isNamed sv_goes sv_goesSize sv_goesAt ltp lro)), ((ma 16), .inl (cJ, 46080, .inr (.inl F)))]) [0, 1, 2, 3] rfl
                          have hD := hD.sub (ws' := [((ma 30), .inl (cB, 40000, .inl lT)), ((ma 31), .inl (cI, 100, .inl lTS)), (h0, .inr (11, MO ma sv_thrown sv_length sv_nodes sv_many sv_directories sv_runsFrom sv_runs sv_read sv_wrong sv_isNamed sv_goes sv_goesSize sv_goesAt ltp lro)), ((ma 16), .inl (cJ, 46080, .inr (.inl F)))]) [0, 1, 2, 3] (by decide +kernel) rfl
                          have hl := lv_sub hl [2, 3, 4, 5, 6, 1, 0] rfl
                          exact kk109 _  _ _ _ rfl  hP hD hS hl
                        · skip
                          have g104_449 : ¬ r15.toInt ≤ 0 := fun h8 => h_9 ((i_le rfl (by decide)).mpr h8)
                          refine lv_iconst (v := 0) hx hb d_DiscMakerModel_targetGoesOn_107 (by decide) ?_
                          have hP9 := hP.sub (ws' := [(h0, .inr (11, MO ma sv_thrown sv_length sv_nodes sv_many sv_directories sv_runsFrom sv_runs sv_read sv_wrong sv_isNamed sv_goes sv_goesSize sv_goesAt ltp lro)), ((ma 16), .inl (cJ, 46080, .inr (.inl F))), ((ma 30), .inl (cB, 40000, .inl lT)), ((ma 31), .inl (cI, 100, .inl lTS))]) [2, 3, 0, 1] rfl
                          have hD9 := hD.sub (ws' := [(h0, .inr (11, MO ma sv_thrown sv_length sv_nodes sv_many sv_directories sv_runsFrom sv_runs sv_read sv_wrong sv_isNamed sv_goes sv_goesSize sv_goesAt ltp lro)), ((ma 16), .inl (cJ, 46080, .inr (.inl F))), ((ma 30), .inl (cB, 40000, .inl lT)), ((ma 31), .inl (cI, 100, .inl lTS))]) [2, 3, 0, 1] (by decide +kernel) rfl
                          exact W.zret (v := 0) hx hb hr (by first | rfl | decide | exact i_narZ (by omega)) (fun t ht hW => ⟨⟨0, (ltp, lro, lT, lTS), rfl, ⟨(by (try dsimp only); first | assumption | omega | trivial), (by (try dsimp only); first | assumption | omega | trivial)⟩, by rw [ht]; exact hP9, hD9⟩, hS.F ht⟩) hS.2.2 d_DiscMakerModel_targetGoesOn_108
                    · skip
                      have g87_444 : ¬ r10.toInt = 4 := fun h8 => h_9 ((i_eq rfl (by decide)).mpr h8)
                      refine lv_iload hx hb d_DiscMakerModel_targetGoesOn_90 (lv_at hl 1 rfl) ?_
                      refine lv_bipush (v := 8) hx hb d_DiscMakerModel_targetGoesOn_92 (by decide) ?_
                      refine lv_icmp_ne (tgt := 107) hx hb d_DiscMakerModel_targetGoesOn_94 (by decide) (fun h_9 => ?_) (fun h_9 => ?_)
                      · skip
                        have g94_455 : ¬ r10.toInt = 8 := fun h8 => h_9 ((i_eq rfl (by decide)).mpr h8)
                        refine lv_iconst (v := 0) hx hb d_DiscMakerModel_targetGoesOn_107 (by decide) ?_
                        have hP9 := hP.sub (ws' := [(h0, .inr (11, MO ma sv_thrown sv_length sv_nodes sv_many sv_directories sv_runsFrom sv_runs sv_read sv_wrong sv_isNamed sv_goes sv_goesSize sv_goesAt ltp lro)), ((ma 16), .inl (cJ, 46080, .inr (.inl F))), ((ma 30), .inl (cB, 40000, .inl lT)), ((ma 31), .inl (cI, 100, .inl lTS))]) [2, 3, 0, 1] rfl
                        have hD9 := hD.sub (ws' := [(h0, .inr (11, MO ma sv_thrown sv_length sv_nodes sv_many sv_directories sv_runsFrom sv_runs sv_read sv_wrong sv_isNamed sv_goes sv_goesSize sv_goesAt ltp lro)), ((ma 16), .inl (cJ, 46080, .inr (.inl F))), ((ma 30), .inl (cB, 40000, .inl lT)), ((ma 31), .inl (cI, 100, .inl lTS))]) [2, 3, 0, 1] (by decide +kernel) rfl
                        exact W.zret (v := 0) hx hb hr (by first | rfl | decide | exact i_narZ (by omega)) (fun t ht hW => ⟨⟨0, (ltp, lro, lT, lTS), rfl, ⟨(by (try dsimp only); first | assumption | omega | trivial), (by (try dsimp only); first | assumption | omega | trivial)⟩, by rw [ht]; exact hP9, hD9⟩, hS.F ht⟩) hS.2.2 d_DiscMakerModel_targetGoesOn_108
                      · skip
                        have g94_455 : r10.toInt = 8 := (i_eq rfl (by decide)).mp h_9
                        refine lv_iload hx hb d_DiscMakerModel_targetGoesOn_97 (lv_at hl 1 rfl) ?_
                        refine lv_if_eq (tgt := 109) hx hb d_DiscMakerModel_targetGoesOn_99 (by decide) (fun h_9 => ?_) (fun h_9 => ?_)
                        · skip
                          have g99_459 : r10.toInt = 0 := (i_eq rfl (by decide)).mp h_9
                          have hP := hP.sub (ws' := [((ma 30), .inl (cB, 40000, .inl lT)), ((ma 31), .inl (cI, 100, .inl lTS)), (h0, .inr (11, MO ma sv_thrown sv_length sv_nodes sv_many sv_directories sv_runsFrom sv_runs sv_read sv_wrong sv_isNamed sv_goes sv_goesSize sv_goesAt ltp lro)), ((ma 16), .inl (cJ, 46080, .inr (.inl F)))]) [0, 1, 2, 3] rfl
                          have hD := hD.sub (ws' := [((ma 30), .inl (cB, 40000, .inl lT)), ((ma 31), .inl (cI, 100, .inl lTS)), (h0, .inr (11, MO ma sv_thrown sv_length sv_nodes sv_many sv_directories sv_runsFrom sv_runs sv_read sv_wrong sv_isNamed sv_goes sv_goesSize sv_goesAt ltp lro)), ((ma 16), .inl (cJ, 46080, .inr (.inl F)))]) [0, 1, 2, 3] (by decide +kernel) rfl
                          have hl := lv_sub hl [2, 3, 4, 5, 6, 1, 0] rfl
                          exact kk109 _  _ _ _ rfl  hP hD hS hl
                        · skip
                          have g99_459 : ¬ r10.toInt = 0 := fun h8 => h_9 ((i_eq rfl (by decide)).mpr h8)
                          refine lv_iload hx hb d_DiscMakerModel_targetGoesOn_102 (lv_at hl 0 rfl) ?_
                          refine lv_if_le (tgt := 109) hx hb d_DiscMakerModel_targetGoesOn_104 (by decide) (fun h_9 => ?_) (fun h_9 => ?_)
                          · skip
                            have g104_462 : r15.toInt ≤ 0 := (i_le rfl (by decide)).mp h_9
                            have hP := hP.sub (ws' := [((ma 30), .inl (cB, 40000, .inl lT)), ((ma 31), .inl (cI, 100, .inl lTS)), (h0, .inr (11, MO ma sv_thrown sv_length sv_nodes sv_many sv_directories sv_runsFrom sv_runs sv_read sv_wrong sv_isNamed sv_goes sv_goesSize sv_goesAt ltp lro)), ((ma 16), .inl (cJ, 46080, .inr (.inl F)))]) [0, 1, 2, 3] rfl
                            have hD := hD.sub (ws' := [((ma 30), .inl (cB, 40000, .inl lT)), ((ma 31), .inl (cI, 100, .inl lTS)), (h0, .inr (11, MO ma sv_thrown sv_length sv_nodes sv_many sv_directories sv_runsFrom sv_runs sv_read sv_wrong sv_isNamed sv_goes sv_goesSize sv_goesAt ltp lro)), ((ma 16), .inl (cJ, 46080, .inr (.inl F)))]) [0, 1, 2, 3] (by decide +kernel) rfl
                            have hl := lv_sub hl [2, 3, 4, 5, 6, 1, 0] rfl
                            exact kk109 _  _ _ _ rfl  hP hD hS hl
                          · skip
                            have g104_462 : ¬ r15.toInt ≤ 0 := fun h8 => h_9 ((i_le rfl (by decide)).mpr h8)
                            refine lv_iconst (v := 0) hx hb d_DiscMakerModel_targetGoesOn_107 (by decide) ?_
                            have hP9 := hP.sub (ws' := [(h0, .inr (11, MO ma sv_thrown sv_length sv_nodes sv_many sv_directories sv_runsFrom sv_runs sv_read sv_wrong sv_isNamed sv_goes sv_goesSize sv_goesAt ltp lro)), ((ma 16), .inl (cJ, 46080, .inr (.inl F))), ((ma 30), .inl (cB, 40000, .inl lT)), ((ma 31), .inl (cI, 100, .inl lTS))]) [2, 3, 0, 1] rfl
                            have hD9 := hD.sub (ws' := [(h0, .inr (11, MO ma sv_thrown sv_length sv_nodes sv_many sv_directories sv_runsFrom sv_runs sv_read sv_wrong sv_isNamed sv_goes sv_goesSize sv_goesAt ltp lro)), ((ma 16), .inl (cJ, 46080, .inr (.inl F))), ((ma 30), .inl (cB, 40000, .inl lT)), ((ma 31), .inl (cI, 100, .inl lTS))]) [2, 3, 0, 1] (by decide +kernel) rfl
                            exact W.zret (v := 0) hx hb hr (by first | rfl | decide | exact i_narZ (by omega)) (fun t ht hW => ⟨⟨0, (ltp, lro, lT, lTS), rfl, ⟨(by (try dsimp only); first | assumption | omega | trivial), (by (try dsimp only); first | assumption | omega | trivial)⟩, by rw [ht]; exact hP9, hD9⟩, hS.F ht⟩) hS.2.2 d_DiscMakerModel_targetGoesOn_108
          · skip
            have g37_29 : ¬ v8.toInt ≤ v9.toInt := fun h8 => h_9 ((i_le rfl rfl).mpr h8)
            refine lv_iconst (v := 0) hx hb d_DiscMakerModel_targetGoesOn_40 (by decide) ?_
            have hP9 := hP.sub (ws' := [(h0, .inr (11, MO ma sv_thrown sv_length sv_nodes sv_many sv_directories sv_runsFrom sv_runs sv_read sv_wrong sv_isNamed sv_goes sv_goesSize sv_goesAt ltp lro)), ((ma 16), .inl (cJ, 46080, .inr (.inl F))), ((ma 30), .inl (cB, 40000, .inl lT)), ((ma 31), .inl (cI, 100, .inl lTS))]) [2, 3, 0, 1] rfl
            have hD9 := hD.sub (ws' := [(h0, .inr (11, MO ma sv_thrown sv_length sv_nodes sv_many sv_directories sv_runsFrom sv_runs sv_read sv_wrong sv_isNamed sv_goes sv_goesSize sv_goesAt ltp lro)), ((ma 16), .inl (cJ, 46080, .inr (.inl F))), ((ma 30), .inl (cB, 40000, .inl lT)), ((ma 31), .inl (cI, 100, .inl lTS))]) [2, 3, 0, 1] (by decide +kernel) rfl
            exact W.zret (v := 0) hx hb hr (by first | rfl | decide | exact i_narZ (by omega)) (fun t ht hW => ⟨⟨0, (ltp, lro, lT, lTS), rfl, ⟨(by (try dsimp only); first | assumption | omega | trivial), (by (try dsimp only); first | assumption | omega | trivial)⟩, by rw [ht]; exact hP9, hD9⟩, hS.F ht⟩) hS.2.2 d_DiscMakerModel_targetGoesOn_41
      · skip
        intro kk22
        have hP := hP.sub (ws' := [((ma 30), .inl (cB, 40000, .inl fT)), ((ma 31), .inl (cI, 100, .inl fTS)), (h0, .inr (11, MO ma sv_thrown sv_length sv_nodes sv_many sv_directories sv_runsFrom sv_runs sv_read sv_wrong sv_isNamed sv_goes sv_goesSize sv_goesAt sv_targetParts sv_isRoot)), ((ma 16), .inl (cJ, 46080, .inr (.inl F)))]) [0, 1, 2, 3] rfl
        have hD := hD.sub (ws' := [((ma 30), .inl (cB, 40000, .inl fT)), ((ma 31), .inl (cI, 100, .inl fTS)), (h0, .inr (11, MO ma sv_thrown sv_length sv_nodes sv_many sv_directories sv_runsFrom sv_runs sv_read sv_wrong sv_isNamed sv_goes sv_goesSize sv_goesAt sv_targetParts sv_isRoot)), ((ma 16), .inl (cJ, 46080, .inr (.inl F)))]) [0, 1, 2, 3] (by decide +kernel) rfl
        have hl := lv_sub hl [1, 2, 3, 4, 0] rfl
        exact kk22 _ v6 sv_targetParts sv_isRoot fT fTS _ _ _ rfl ((by (try dsimp only); first | assumption | omega | trivial)) ((by (try dsimp only); first | assumption | omega | trivial)) hP hD hS hl
    · skip
      have g12_11 : ¬ r2.toInt = 0 := fun h8 => h_9 ((i_eq rfl (by decide)).mpr h8)
      refine lv_iconst (v := 0) hx hb d_DiscMakerModel_targetGoesOn_15 (by decide) ?_
      have hP9 := hP.sub (ws' := [(h0, .inr (11, MO ma sv_thrown sv_length sv_nodes sv_many sv_directories sv_runsFrom sv_runs sv_read sv_wrong sv_isNamed sv_goes sv_goesSize sv_goesAt sv_targetParts sv_isRoot)), ((ma 16), .inl (cJ, 46080, .inr (.inl F))), ((ma 30), .inl (cB, 40000, .inl fT)), ((ma 31), .inl (cI, 100, .inl fTS))]) [2, 3, 0, 1] rfl
      have hD9 := hD.sub (ws' := [(h0, .inr (11, MO ma sv_thrown sv_length sv_nodes sv_many sv_directories sv_runsFrom sv_runs sv_read sv_wrong sv_isNamed sv_goes sv_goesSize sv_goesAt sv_targetParts sv_isRoot)), ((ma 16), .inl (cJ, 46080, .inr (.inl F))), ((ma 30), .inl (cB, 40000, .inl fT)), ((ma 31), .inl (cI, 100, .inl fTS))]) [2, 3, 0, 1] (by decide +kernel) rfl
      exact W.zret (v := 0) hx hb hr (by first | rfl | decide | exact i_narZ (by omega)) (fun t ht hW => ⟨⟨0, (sv_targetParts, sv_isRoot, fT, fTS), rfl, ⟨(by (try dsimp only); first | assumption | omega | trivial), (by (try dsimp only); first | assumption | omega | trivial)⟩, by rw [ht]; exact hP9, hD9⟩, hS.F ht⟩) hS.2.2 d_DiscMakerModel_targetGoesOn_16

theorem d_DiscMakerModel_isPart_0 : decode b_DiscMakerModel_isPart 0 = .ok (.aload_n 0, 1) := by decide +kernel
theorem d_DiscMakerModel_isPart_1 : decode b_DiscMakerModel_isPart 1 = .ok (.iload_n 1, 1) := by decide +kernel
theorem d_DiscMakerModel_isPart_2 : decode b_DiscMakerModel_isPart 2 = .ok (.invokevirtual 303, 3) := by decide +kernel
theorem d_DiscMakerModel_isPart_5 : decode b_DiscMakerModel_isPart 5 = .ok (.iload_n 2, 1) := by decide +kernel
theorem d_DiscMakerModel_isPart_6 : decode b_DiscMakerModel_isPart 6 = .ok (.if_icmp .ne 18, 3) := by decide +kernel
theorem d_DiscMakerModel_isPart_9 : decode b_DiscMakerModel_isPart 9 = .ok (.aload_n 0, 1) := by decide +kernel
theorem d_DiscMakerModel_isPart_10 : decode b_DiscMakerModel_isPart 10 = .ok (.iload_n 1, 1) := by decide +kernel
theorem d_DiscMakerModel_isPart_11 : decode b_DiscMakerModel_isPart 11 = .ok (.iconst 1, 1) := by decide +kernel
theorem d_DiscMakerModel_isPart_12 : decode b_DiscMakerModel_isPart 12 = .ok (.iadd, 1) := by decide +kernel
theorem d_DiscMakerModel_isPart_13 : decode b_DiscMakerModel_isPart 13 = .ok (.invokevirtual 303, 3) := by decide +kernel
theorem d_DiscMakerModel_isPart_16 : decode b_DiscMakerModel_isPart 16 = .ok (.iload_n 3, 1) := by decide +kernel
theorem d_DiscMakerModel_isPart_17 : decode b_DiscMakerModel_isPart 17 = .ok (.if_icmp .ne 7, 3) := by decide +kernel
theorem d_DiscMakerModel_isPart_20 : decode b_DiscMakerModel_isPart 20 = .ok (.iconst 1, 1) := by decide +kernel
theorem d_DiscMakerModel_isPart_21 : decode b_DiscMakerModel_isPart 21 = .ok (.goto 4, 3) := by decide +kernel
theorem d_DiscMakerModel_isPart_24 : decode b_DiscMakerModel_isPart 24 = .ok (.iconst 0, 1) := by decide +kernel
theorem d_DiscMakerModel_isPart_25 : decode b_DiscMakerModel_isPart 25 = .ok (.ireturn, 1) := by decide +kernel
set_option maxHeartbeats 4000000 in
set_option maxRecDepth 100000 in
theorem m_isPart (l : Launch) (D : va_G) (cB cI cJ cZ cN cF : ClassId) (sz : Nat) (h0 : Nat) (ma : Nat → Nat) (sv_thrown sv_length sv_nodes sv_many sv_directories sv_runsFrom sv_runs sv_read sv_wrong sv_isNamed sv_goes sv_goesSize sv_goesAt sv_targetParts sv_isRoot : Int32) (F : Nat → Int64) (x : Int32) (y : Int32) (z : Int32) (hx0 : 0 ≤ x.toInt ∧ x.toInt + 2 ≤ 368640) : Met l y_DiscMakerModel_isPart w_DiscMakerModel_isPart ({ frames := 1, cells := 0, slots := 0, locals := 21 }) (va_Pc [.ref h0, .int x, .int y, .int z] (fun U => U.heap.size = sz ∧ va_P D CL [(h0, .inr (11, MO ma sv_thrown sv_length sv_nodes sv_many sv_directories sv_runsFrom sv_runs sv_read sv_wrong sv_isNamed sv_goes sv_goesSize sv_goesAt sv_targetParts sv_isRoot)), ((ma 16), .inl (cJ, 46080, .inr (.inl F)))] U.heap ∧ va_K D CL (TY cB cI cJ cZ cN cF) U ∧ NN U ∧ va_D (fun _ => True) [(h0, .inr (11, MO ma sv_thrown sv_length sv_nodes sv_many sv_directories sv_runsFrom sv_runs sv_read sv_wrong sv_isNamed sv_goes sv_goesSize sv_goesAt sv_targetParts sv_isRoot)), ((ma 16), .inl (cJ, 46080, .inr (.inl F)))])) (va_Qi (fun (r : Int32) (u : Unit) => (0 ≤ r.toInt ∧ r.toInt ≤ 1)) (fun (u : Unit) (t : State) => match u with | () => va_P D CL [(h0, .inr (11, MO ma sv_thrown sv_length sv_nodes sv_many sv_directories sv_runsFrom sv_runs sv_read sv_wrong sv_isNamed sv_goes sv_goesSize sv_goesAt sv_targetParts sv_isRoot)), ((ma 16), .inl (cJ, 46080, .inr (.inl F)))] t.heap ∧ va_D (va_A [(h0, .inr (11, MO ma sv_thrown sv_length sv_nodes sv_many sv_directories sv_runsFrom sv_runs sv_read sv_wrong sv_isNamed sv_goes sv_goesSize sv_goesAt sv_targetParts sv_isRoot)), ((ma 16), .inl (cJ, 46080, .inr (.inl F)))] sz) [(h0, .inr (11, MO ma sv_thrown sv_length sv_nodes sv_many sv_directories sv_runsFrom sv_runs sv_read sv_wrong sv_isNamed sv_goes sv_goesSize sv_goesAt sv_targetParts sv_isRoot)), ((ma 16), .inl (cJ, 46080, .inr (.inl F)))]) (va_A [(h0, .inr (11, MO ma sv_thrown sv_length sv_nodes sv_many sv_directories sv_runsFrom sv_runs sv_read sv_wrong sv_isNamed sv_goes sv_goesSize sv_goesAt sv_targetParts sv_isRoot)), ((ma 16), .inl (cJ, 46080, .inr (.inl F)))] sz)) 0 0 (va_A [(h0, .inr (11, MO ma sv_thrown sv_length sv_nodes sv_many sv_directories sv_runsFrom sv_runs sv_read sv_wrong sv_isNamed sv_goes sv_goesSize sv_goesAt sv_targetParts sv_isRoot)), ((ma 16), .inl (cJ, 46080, .inr (.inl F)))] sz) := by
  refine Met.ofW (cc := b_DiscMakerModel_isPart) (maxL := 4) (ret := some .boolean) (by decide) rfl ?_
  intro p e s m args below meth c s₁ B hml hv
  obtain ⟨rfl, hsz, hP, hK, hN, hD0⟩ := hv
  have hx := B.exec
  have hb := B.bytes
  have hr := B.returns
  have hts := atoms_spec (ws := w_DiscMakerModel_isPart) B.pre
  have ht9 := fun (w : Cond) (h : w ∈ lw_g) => hts w (List.mem_cons_of_mem _ h)
  have hown : s.vm.findClass "DiscMakerModel" = some m.cls := findClass_of_methodNamed B.named
  have hlocks := B.notSynchronized
  subst hsz
  have hD := hD0.self (sz := s.heap.size)
  generalize hAe : va_A [(h0, .inr (11, MO ma sv_thrown sv_length sv_nodes sv_many sv_directories sv_runsFrom sv_runs sv_read sv_wrong sv_isNamed sv_goes sv_goesSize sv_goesAt sv_targetParts sv_isRoot)), ((ma 16), .inl (cJ, 46080, .inr (.inl F)))] s.heap.size = A at hD ⊢
  have hA : ∀ q : Nat, s.heap.size ≤ q → A q := fun q h => by rw [← hAe]; exact Or.inr h
  have hS : va_S A s.heap s.heap [] := va_S.rf
  have hP : va_P D CL [(h0, .inr (11, MO ma sv_thrown sv_length sv_nodes sv_many sv_directories sv_runsFrom sv_runs sv_read sv_wrong sv_isNamed sv_goes sv_goesSize sv_goesAt sv_targetParts sv_isRoot)), ((ma 16), .inl (cJ, 46080, .inr (.inl F)))] s.heap := hP
  have hl := lv_entry [.ref h0, .int x, .int y, .int z] (n := 4) (Nat.le_of_ble_eq_true rfl)
  rw [lg_entry_eq]
  generalize (lg_sl [.ref h0, .int x, .int y, .int z] ++ List.replicate (4 - (lg_sl [.ref h0, .int x, .int y, .int z]).length) Slot.unset).toArray = ls at hl ⊢
  have hl : lv_has ls 4 [(0, .ref h0), (1, .int x), (2, .int y), (3, .int z)] := hl
  have L_m1 : ((-1) : Int32).toInt = (-1) := by decide
  have L_0 : (0 : Int32).toInt = 0 := by decide
  have L_1 : (1 : Int32).toInt = 1 := by decide
  refine lv_aload_n hx hb d_DiscMakerModel_isPart_0 rfl (lv_at hl 0 rfl) ?_
  refine lv_iload_n hx hb d_DiscMakerModel_isPart_1 rfl (lv_at hl 1 rfl) ?_
  have hPc := hP.sub (ws' := [(h0, .inr (11, MO ma sv_thrown sv_length sv_nodes sv_many sv_directories sv_runsFrom sv_runs sv_read sv_wrong sv_isNamed sv_goes sv_goesSize sv_goesAt sv_targetParts sv_isRoot)), ((ma 16), .inl (cJ, 46080, .inr (.inl F)))]) [0, 1] rfl
  have hDc := hD.sub (ws' := [(h0, .inr (11, MO ma sv_thrown sv_length sv_nodes sv_many sv_directories sv_runsFrom sv_runs sv_read sv_wrong sv_isNamed sv_goes sv_goesSize sv_goesAt sv_targetParts sv_isRoot)), ((ma 16), .inl (cJ, 46080, .inr (.inl F)))]) [0, 1] (by decide +kernel) rfl
  have hFc := va_free (wc := [(h0, .inr (11, MO ma sv_thrown sv_length sv_nodes sv_many sv_directories sv_runsFrom sv_runs sv_read sv_wrong sv_isNamed sv_goes sv_goesSize sv_goesAt sv_targetParts sv_isRoot)), ((ma 16), .inl (cJ, 46080, .inr (.inl F)))]) hD hS hA [0, 1] rfl
  have hkc : 0 ≤ 0 := by decide
  have hks : 0 ≤ 0 := by decide
  refine va_calli (va_runV (C := "DiscMakerModel") (As := [.int x]) (rest := []) ⟨hx, hb, hml, hown, hts⟩ (m_at l D cB cI cJ cZ cN cF s.heap.size h0 ma sv_thrown sv_length sv_nodes sv_many sv_directories sv_runsFrom sv_runs sv_read sv_wrong sv_isNamed sv_goes sv_goesSize sv_goesAt sv_targetParts sv_isRoot F x (by (try dsimp only); first | assumption | omega | trivial) (by (try dsimp only); first | assumption | omega | trivial)) (cwV 1 hts (lg_goodV k1809 k1811 k95 k125 kc_DiscMakerModel_at) rfl rfl rfl (by decide +kernel) ⟨Nat.le_of_ble_eq_true rfl, Nat.le_of_ble_eq_true rfl⟩) ⟨fun a U g mk q => by obtain ⟨q0, q1, qP, qK, qN, qD⟩ := q; exact ⟨q0, q1, qP, va_K.moved (u := U) (U := U.calling g mk a) (Vm.Alike.refl U.vm) qK, qN.calling, qD⟩, va_recv hK hP (ci := 11) (q0 := 0) rfl rfl, fun U hU hW => ⟨rfl, by rw [hU], by rw [hU]; exact hPc, va_K.moved hW.alike hK, NN.warm hW hN, hDc.weaken (fun _ _ _ _ => trivial)⟩⟩ rfl rfl hl.1 rfl (lv_room (Nat.le_of_ble_eq_true rfl)) d_DiscMakerModel_isPart_2 ⟨hkc, hks⟩) hS (fun q _ h => hFc q h) hFc (fun r1 u t H1 locs ht hvm hp_r1 hB hz1 hk1 hS => ?_)
  obtain ⟨hP1, hD1⟩ := hB
  rw [ht] at hP1
  obtain ⟨hP, hD⟩ := va_join (wr := []) (w1 := [(h0, .inr (11, MO ma sv_thrown sv_length sv_nodes sv_many sv_directories sv_runsFrom sv_runs sv_read sv_wrong sv_isNamed sv_goes sv_goesSize sv_goesAt sv_targetParts sv_isRoot)), ((ma 16), .inl (cJ, 46080, .inr (.inl F)))]) hP hD [0, 1] [] rfl rfl (by decide +kernel) (by decide +kernel) hk1 hFc hP1 hD1
  clear hPc hDc hFc hP1 hD1 hk1 hz1 hkc hks
  generalize H1 = H at hP hS ⊢
  have hP : va_P D CL [(h0, .inr (11, MO ma sv_thrown sv_length sv_nodes sv_many sv_directories sv_runsFrom sv_runs sv_read sv_wrong sv_isNamed sv_goes sv_goesSize sv_goesAt sv_targetParts sv_isRoot)), ((ma 16), .inl (cJ, 46080, .inr (.inl F)))] H := hP
  have hD : va_D A [(h0, .inr (11, MO ma sv_thrown sv_length sv_nodes sv_many sv_directories sv_runsFrom sv_runs sv_read sv_wrong sv_isNamed sv_goes sv_goesSize sv_goesAt sv_targetParts sv_isRoot)), ((ma 16), .inl (cJ, 46080, .inr (.inl F)))] := hD
  try dsimp only at hp_r1
  obtain ⟨hr_2, hv_3, hw_4⟩ := hp_r1
  refine lv_iload_n hx hb d_DiscMakerModel_isPart_5 rfl (lv_at hl 2 rfl) ?_
  refine lv_icmp_ne (tgt := 24) hx hb d_DiscMakerModel_isPart_6 (by decide) (fun h_9 => ?_) (fun h_9 => ?_)
  · skip
    have g6_5 : ¬ r1.toInt = y.toInt := fun h8 => h_9 ((i_eq rfl rfl).mpr h8)
    refine lv_iconst (v := 0) hx hb d_DiscMakerModel_isPart_24 (by decide) ?_
    have hP9 := hP.sub (ws' := [(h0, .inr (11, MO ma sv_thrown sv_length sv_nodes sv_many sv_directories sv_runsFrom sv_runs sv_read sv_wrong sv_isNamed sv_goes sv_goesSize sv_goesAt sv_targetParts sv_isRoot)), ((ma 16), .inl (cJ, 46080, .inr (.inl F)))]) [0, 1] rfl
    have hD9 := hD.sub (ws' := [(h0, .inr (11, MO ma sv_thrown sv_length sv_nodes sv_many sv_directories sv_runsFrom sv_runs sv_read sv_wrong sv_isNamed sv_goes sv_goesSize sv_goesAt sv_targetParts sv_isRoot)), ((ma 16), .inl (cJ, 46080, .inr (.inl F)))]) [0, 1] (by decide +kernel) rfl
    exact W.zret (v := 0) hx hb hr (by first | rfl | decide | exact i_narZ (by omega)) (fun t ht hW => ⟨⟨0, (), rfl, (by (try dsimp only); first | assumption | omega | trivial), by rw [ht]; exact hP9, hD9⟩, hS.F ht⟩) hS.2.2 d_DiscMakerModel_isPart_25
  · skip
    have g6_5 : r1.toInt = y.toInt := (i_eq rfl rfl).mp h_9
    refine lv_aload_n hx hb d_DiscMakerModel_isPart_9 rfl (lv_at hl 0 rfl) ?_
    refine lv_iload_n hx hb d_DiscMakerModel_isPart_10 rfl (lv_at hl 1 rfl) ?_
    refine lv_iconst (v := 1) hx hb d_DiscMakerModel_isPart_11 (by decide) ?_
    refine lv_iadd hx hb d_DiscMakerModel_isPart_12 ?_
    refine lv_topi (fun v5 e_v5 => ?_)
    have t_v5 : v5.toInt = x.toInt + 1 := by rw [e_v5]; exact i_add rfl (by decide) (by omega) (by omega)
    have hPc := hP.sub (ws' := [(h0, .inr (11, MO ma sv_thrown sv_length sv_nodes sv_many sv_directories sv_runsFrom sv_runs sv_read sv_wrong sv_isNamed sv_goes sv_goesSize sv_goesAt sv_targetParts sv_isRoot)), ((ma 16), .inl (cJ, 46080, .inr (.inl F)))]) [0, 1] rfl
    have hDc := hD.sub (ws' := [(h0, .inr (11, MO ma sv_thrown sv_length sv_nodes sv_many sv_directories sv_runsFrom sv_runs sv_read sv_wrong sv_isNamed sv_goes sv_goesSize sv_goesAt sv_targetParts sv_isRoot)), ((ma 16), .inl (cJ, 46080, .inr (.inl F)))]) [0, 1] (by decide +kernel) rfl
    have hFc := va_free (wc := [(h0, .inr (11, MO ma sv_thrown sv_length sv_nodes sv_many sv_directories sv_runsFrom sv_runs sv_read sv_wrong sv_isNamed sv_goes sv_goesSize sv_goesAt sv_targetParts sv_isRoot)), ((ma 16), .inl (cJ, 46080, .inr (.inl F)))]) hD hS hA [0, 1] rfl
    have hkc : 0 ≤ 0 := by decide
    have hks : 0 ≤ 0 := by decide
    refine va_calli (va_runV (C := "DiscMakerModel") (As := [.int v5]) (rest := []) ⟨hx, hb, hml, hown, hts⟩ (m_at l D cB cI cJ cZ cN cF H.size h0 ma sv_thrown sv_length sv_nodes sv_many sv_directories sv_runsFrom sv_runs sv_read sv_wrong sv_isNamed sv_goes sv_goesSize sv_goesAt sv_targetParts sv_isRoot F v5 (by (try dsimp only); first | assumption | omega | trivial) (by (try dsimp only); first | assumption | omega | trivial)) (cwV 1 hts (lg_goodV k1809 k1811 k95 k125 kc_DiscMakerModel_at) rfl rfl rfl (by decide +kernel) ⟨Nat.le_of_ble_eq_true rfl, Nat.le_of_ble_eq_true rfl⟩) ⟨fun a U g mk q => by obtain ⟨q0, q1, qP, qK, qN, qD⟩ := q; exact ⟨q0, q1, qP, va_K.moved (u := U) (U := U.calling g mk a) (Vm.Alike.refl U.vm) qK, qN.calling, qD⟩, va_recv hK hP (ci := 11) (q0 := 0) rfl rfl, fun U hU hW => ⟨rfl, by rw [hU], by rw [hU]; exact hPc, va_K.moved hW.alike hK, NN.warm hW hN, hDc.weaken (fun _ _ _ _ => trivial)⟩⟩ rfl rfl hl.1 rfl (lv_room (Nat.le_of_ble_eq_true rfl)) d_DiscMakerModel_isPart_13 ⟨hkc, hks⟩) hS (fun q _ h => hFc q h) hFc (fun r6 u t H1 locs ht hvm hp_r6 hB hz1 hk1 hS => ?_)
    obtain ⟨hP1, hD1⟩ := hB
    rw [ht] at hP1
    obtain ⟨hP, hD⟩ := va_join (wr := []) (w1 := [(h0, .inr (11, MO ma sv_thrown sv_length sv_nodes sv_many sv_directories sv_runsFrom sv_runs sv_read sv_wrong sv_isNamed sv_goes sv_goesSize sv_goesAt sv_targetParts sv_isRoot)), ((ma 16), .inl (cJ, 46080, .inr (.inl F)))]) hP hD [0, 1] [] rfl rfl (by decide +kernel) (by decide +kernel) hk1 hFc hP1 hD1
    clear hPc hDc hFc hP1 hD1 hk1 hz1 hkc hks
    generalize H1 = H at hP hS ⊢
    have hP : va_P D CL [(h0, .inr (11, MO ma sv_thrown sv_length sv_nodes sv_many sv_directories sv_runsFrom sv_runs sv_read sv_wrong sv_isNamed sv_goes sv_goesSize sv_goesAt sv_targetParts sv_isRoot)), ((ma 16), .inl (cJ, 46080, .inr (.inl F)))] H := hP
    have hD : va_D A [(h0, .inr (11, MO ma sv_thrown sv_length sv_nodes sv_many sv_directories sv_runsFrom sv_runs sv_read sv_wrong sv_isNamed sv_goes sv_goesSize sv_goesAt sv_targetParts sv_isRoot)), ((ma 16), .inl (cJ, 46080, .inr (.inl F)))] := hD
    try dsimp only at hp_r6
    obtain ⟨hr_7, hv_8, hw_9⟩ := hp_r6
    refine lv_iload_n hx hb d_DiscMakerModel_isPart_16 rfl (lv_at hl 3 rfl) ?_
    refine lv_icmp_ne (tgt := 24) hx hb d_DiscMakerModel_isPart_17 (by decide) (fun h_9 => ?_) (fun h_9 => ?_)
    · skip
      have g17_14 : ¬ r6.toInt = z.toInt := fun h8 => h_9 ((i_eq rfl rfl).mpr h8)
      refine lv_iconst (v := 0) hx hb d_DiscMakerModel_isPart_24 (by decide) ?_
      have hP9 := hP.sub (ws' := [(h0, .inr (11, MO ma sv_thrown sv_length sv_nodes sv_many sv_directories sv_runsFrom sv_runs sv_read sv_wrong sv_isNamed sv_goes sv_goesSize sv_goesAt sv_targetParts sv_isRoot)), ((ma 16), .inl (cJ, 46080, .inr (.inl F)))]) [0, 1] rfl
      have hD9 := hD.sub (ws' := [(h0, .inr (11, MO ma sv_thrown sv_length sv_nodes sv_many sv_directories sv_runsFrom sv_runs sv_read sv_wrong sv_isNamed sv_goes sv_goesSize sv_goesAt sv_targetParts sv_isRoot)), ((ma 16), .inl (cJ, 46080, .inr (.inl F)))]) [0, 1] (by decide +kernel) rfl
      exact W.zret (v := 0) hx hb hr (by first | rfl | decide | exact i_narZ (by omega)) (fun t ht hW => ⟨⟨0, (), rfl, (by (try dsimp only); first | assumption | omega | trivial), by rw [ht]; exact hP9, hD9⟩, hS.F ht⟩) hS.2.2 d_DiscMakerModel_isPart_25
    · skip
      have g17_14 : r6.toInt = z.toInt := (i_eq rfl rfl).mp h_9
      refine lv_iconst (v := 1) hx hb d_DiscMakerModel_isPart_20 (by decide) ?_
      refine lv_goto (tgt := 25) hx hb d_DiscMakerModel_isPart_21 (by decide) ?_
      have hP9 := hP.sub (ws' := [(h0, .inr (11, MO ma sv_thrown sv_length sv_nodes sv_many sv_directories sv_runsFrom sv_runs sv_read sv_wrong sv_isNamed sv_goes sv_goesSize sv_goesAt sv_targetParts sv_isRoot)), ((ma 16), .inl (cJ, 46080, .inr (.inl F)))]) [0, 1] rfl
      have hD9 := hD.sub (ws' := [(h0, .inr (11, MO ma sv_thrown sv_length sv_nodes sv_many sv_directories sv_runsFrom sv_runs sv_read sv_wrong sv_isNamed sv_goes sv_goesSize sv_goesAt sv_targetParts sv_isRoot)), ((ma 16), .inl (cJ, 46080, .inr (.inl F)))]) [0, 1] (by decide +kernel) rfl
      exact W.zret (v := 1) hx hb hr (by first | rfl | decide | exact i_narZ (by omega)) (fun t ht hW => ⟨⟨1, (), rfl, (by (try dsimp only); first | assumption | omega | trivial), by rw [ht]; exact hP9, hD9⟩, hS.F ht⟩) hS.2.2 d_DiscMakerModel_isPart_25

theorem d_DiscMakerModel_part_0 : decode b_DiscMakerModel_part 0 = .ok (.aload_n 0, 1) := by decide +kernel
theorem d_DiscMakerModel_part_1 : decode b_DiscMakerModel_part 1 = .ok (.iload_n 2, 1) := by decide +kernel
theorem d_DiscMakerModel_part_2 : decode b_DiscMakerModel_part 2 = .ok (.bipush 78, 2) := by decide +kernel
theorem d_DiscMakerModel_part_4 : decode b_DiscMakerModel_part 4 = .ok (.bipush 77, 2) := by decide +kernel
theorem d_DiscMakerModel_part_6 : decode b_DiscMakerModel_part 6 = .ok (.invokevirtual 370, 3) := by decide +kernel
theorem d_DiscMakerModel_part_9 : decode b_DiscMakerModel_part 9 = .ok (.ifCond .eq 11, 3) := by decide +kernel
theorem d_DiscMakerModel_part_12 : decode b_DiscMakerModel_part 12 = .ok (.aload_n 0, 1) := by decide +kernel
theorem d_DiscMakerModel_part_13 : decode b_DiscMakerModel_part 13 = .ok (.iload_n 1, 1) := by decide +kernel
theorem d_DiscMakerModel_part_14 : decode b_DiscMakerModel_part 14 = .ok (.iload_n 2, 1) := by decide +kernel
theorem d_DiscMakerModel_part_15 : decode b_DiscMakerModel_part 15 = .ok (.iload_n 3, 1) := by decide +kernel
theorem d_DiscMakerModel_part_16 : decode b_DiscMakerModel_part 16 = .ok (.invokevirtual 373, 3) := by decide +kernel
theorem d_DiscMakerModel_part_19 : decode b_DiscMakerModel_part 19 = .ok (.ireturn, 1) := by decide +kernel
theorem d_DiscMakerModel_part_20 : decode b_DiscMakerModel_part 20 = .ok (.aload_n 0, 1) := by decide +kernel
theorem d_DiscMakerModel_part_21 : decode b_DiscMakerModel_part 21 = .ok (.iload_n 2, 1) := by decide +kernel
theorem d_DiscMakerModel_part_22 : decode b_DiscMakerModel_part 22 = .ok (.bipush 83, 2) := by decide +kernel
theorem d_DiscMakerModel_part_24 : decode b_DiscMakerModel_part 24 = .ok (.bipush 76, 2) := by decide +kernel
theorem d_DiscMakerModel_part_26 : decode b_DiscMakerModel_part 26 = .ok (.invokevirtual 370, 3) := by decide +kernel
theorem d_DiscMakerModel_part_29 : decode b_DiscMakerModel_part 29 = .ok (.ifCond .eq 11, 3) := by decide +kernel
theorem d_DiscMakerModel_part_32 : decode b_DiscMakerModel_part 32 = .ok (.aload_n 0, 1) := by decide +kernel
theorem d_DiscMakerModel_part_33 : decode b_DiscMakerModel_part 33 = .ok (.iload_n 1, 1) := by decide +kernel
theorem d_DiscMakerModel_part_34 : decode b_DiscMakerModel_part 34 = .ok (.iload_n 2, 1) := by decide +kernel
theorem d_DiscMakerModel_part_35 : decode b_DiscMakerModel_part 35 = .ok (.iload_n 3, 1) := by decide +kernel
theorem d_DiscMakerModel_part_36 : decode b_DiscMakerModel_part 36 = .ok (.invokevirtual 376, 3) := by decide +kernel
theorem d_DiscMakerModel_part_39 : decode b_DiscMakerModel_part 39 = .ok (.ireturn, 1) := by decide +kernel
theorem d_DiscMakerModel_part_40 : decode b_DiscMakerModel_part 40 = .ok (.aload_n 0, 1) := by decide +kernel
theorem d_DiscMakerModel_part_41 : decode b_DiscMakerModel_part 41 = .ok (.iload_n 2, 1) := by decide +kernel
theorem d_DiscMakerModel_part_42 : decode b_DiscMakerModel_part 42 = .ok (.bipush 80, 2) := by decide +kernel
theorem d_DiscMakerModel_part_44 : decode b_DiscMakerModel_part 44 = .ok (.bipush 88, 2) := by decide +kernel
theorem d_DiscMakerModel_part_46 : decode b_DiscMakerModel_part 46 = .ok (.invokevirtual 370, 3) := by decide +kernel
theorem d_DiscMakerModel_part_49 : decode b_DiscMakerModel_part 49 = .ok (.ifCond .eq 104, 3) := by decide +kernel
theorem d_DiscMakerModel_part_52 : decode b_DiscMakerModel_part 52 = .ok (.iload_n 3, 1) := by decide +kernel
theorem d_DiscMakerModel_part_53 : decode b_DiscMakerModel_part 53 = .ok (.bipush 36, 2) := by decide +kernel
theorem d_DiscMakerModel_part_55 : decode b_DiscMakerModel_part 55 = .ok (.if_icmp .ne 50, 3) := by decide +kernel
theorem d_DiscMakerModel_part_58 : decode b_DiscMakerModel_part 58 = .ok (.aload_n 0, 1) := by decide +kernel
theorem d_DiscMakerModel_part_59 : decode b_DiscMakerModel_part 59 = .ok (.iload_n 2, 1) := by decide +kernel
theorem d_DiscMakerModel_part_60 : decode b_DiscMakerModel_part 60 = .ok (.iconst 4, 1) := by decide +kernel
theorem d_DiscMakerModel_part_61 : decode b_DiscMakerModel_part 61 = .ok (.iadd, 1) := by decide +kernel
theorem d_DiscMakerModel_part_62 : decode b_DiscMakerModel_part 62 = .ok (.iconst 4, 1) := by decide +kernel
theorem d_DiscMakerModel_part_63 : decode b_DiscMakerModel_part 63 = .ok (.invokevirtual 312, 3) := by decide +kernel
theorem d_DiscMakerModel_part_66 : decode b_DiscMakerModel_part 66 = .ok (.ifCond .eq 39, 3) := by decide +kernel
theorem d_DiscMakerModel_part_69 : decode b_DiscMakerModel_part 69 = .ok (.aload_n 0, 1) := by decide +kernel
theorem d_DiscMakerModel_part_70 : decode b_DiscMakerModel_part 70 = .ok (.iload_n 2, 1) := by decide +kernel
theorem d_DiscMakerModel_part_71 : decode b_DiscMakerModel_part 71 = .ok (.bipush 12, 2) := by decide +kernel
theorem d_DiscMakerModel_part_73 : decode b_DiscMakerModel_part 73 = .ok (.iadd, 1) := by decide +kernel
theorem d_DiscMakerModel_part_74 : decode b_DiscMakerModel_part 74 = .ok (.iconst 4, 1) := by decide +kernel
theorem d_DiscMakerModel_part_75 : decode b_DiscMakerModel_part 75 = .ok (.invokevirtual 312, 3) := by decide +kernel
theorem d_DiscMakerModel_part_78 : decode b_DiscMakerModel_part 78 = .ok (.ifCond .eq 27, 3) := by decide +kernel
theorem d_DiscMakerModel_part_81 : decode b_DiscMakerModel_part 81 = .ok (.aload_n 0, 1) := by decide +kernel
theorem d_DiscMakerModel_part_82 : decode b_DiscMakerModel_part 82 = .ok (.iload_n 2, 1) := by decide +kernel
theorem d_DiscMakerModel_part_83 : decode b_DiscMakerModel_part 83 = .ok (.bipush 20, 2) := by decide +kernel
theorem d_DiscMakerModel_part_85 : decode b_DiscMakerModel_part 85 = .ok (.iadd, 1) := by decide +kernel
theorem d_DiscMakerModel_part_86 : decode b_DiscMakerModel_part 86 = .ok (.iconst 4, 1) := by decide +kernel
theorem d_DiscMakerModel_part_87 : decode b_DiscMakerModel_part 87 = .ok (.invokevirtual 312, 3) := by decide +kernel
theorem d_DiscMakerModel_part_90 : decode b_DiscMakerModel_part 90 = .ok (.ifCond .eq 15, 3) := by decide +kernel
theorem d_DiscMakerModel_part_93 : decode b_DiscMakerModel_part 93 = .ok (.aload_n 0, 1) := by decide +kernel
theorem d_DiscMakerModel_part_94 : decode b_DiscMakerModel_part 94 = .ok (.iload_n 2, 1) := by decide +kernel
theorem d_DiscMakerModel_part_95 : decode b_DiscMakerModel_part 95 = .ok (.bipush 28, 2) := by decide +kernel
theorem d_DiscMakerModel_part_97 : decode b_DiscMakerModel_part 97 = .ok (.iadd, 1) := by decide +kernel
theorem d_DiscMakerModel_part_98 : decode b_DiscMakerModel_part 98 = .ok (.iconst 4, 1) := by decide +kernel
theorem d_DiscMakerModel_part_99 : decode b_DiscMakerModel_part 99 = .ok (.invokevirtual 312, 3) := by decide +kernel
theorem d_DiscMakerModel_part_102 : decode b_DiscMakerModel_part 102 = .ok (.ifCond .ne 5, 3) := by decide +kernel
theorem d_DiscMakerModel_part_105 : decode b_DiscMakerModel_part 105 = .ok (.iconst 0, 1) := by decide +kernel
theorem d_DiscMakerModel_part_106 : decode b_DiscMakerModel_part 106 = .ok (.ireturn, 1) := by decide +kernel
theorem d_DiscMakerModel_part_107 : decode b_DiscMakerModel_part 107 = .ok (.aload_n 0, 1) := by decide +kernel
theorem d_DiscMakerModel_part_108 : decode b_DiscMakerModel_part 108 = .ok (.getfield 89, 3) := by decide +kernel
theorem d_DiscMakerModel_part_111 : decode b_DiscMakerModel_part 111 = .ok (.iload_n 1, 1) := by decide +kernel
theorem d_DiscMakerModel_part_112 : decode b_DiscMakerModel_part 112 = .ok (.aload_n 0, 1) := by decide +kernel
theorem d_DiscMakerModel_part_113 : decode b_DiscMakerModel_part 113 = .ok (.iload_n 2, 1) := by decide +kernel
theorem d_DiscMakerModel_part_114 : decode b_DiscMakerModel_part 114 = .ok (.iconst 4, 1) := by decide +kernel
theorem d_DiscMakerModel_part_115 : decode b_DiscMakerModel_part 115 = .ok (.iadd, 1) := by decide +kernel
theorem d_DiscMakerModel_part_116 : decode b_DiscMakerModel_part 116 = .ok (.iconst 4, 1) := by decide +kernel
theorem d_DiscMakerModel_part_117 : decode b_DiscMakerModel_part 117 = .ok (.invokevirtual 315, 3) := by decide +kernel
theorem d_DiscMakerModel_part_120 : decode b_DiscMakerModel_part 120 = .ok (.iastore, 1) := by decide +kernel
theorem d_DiscMakerModel_part_121 : decode b_DiscMakerModel_part 121 = .ok (.aload_n 0, 1) := by decide +kernel
theorem d_DiscMakerModel_part_122 : decode b_DiscMakerModel_part 122 = .ok (.getfield 92, 3) := by decide +kernel
theorem d_DiscMakerModel_part_125 : decode b_DiscMakerModel_part 125 = .ok (.iload_n 1, 1) := by decide +kernel
theorem d_DiscMakerModel_part_126 : decode b_DiscMakerModel_part 126 = .ok (.aload_n 0, 1) := by decide +kernel
theorem d_DiscMakerModel_part_127 : decode b_DiscMakerModel_part 127 = .ok (.iload_n 2, 1) := by decide +kernel
theorem d_DiscMakerModel_part_128 : decode b_DiscMakerModel_part 128 = .ok (.bipush 20, 2) := by decide +kernel
theorem d_DiscMakerModel_part_130 : decode b_DiscMakerModel_part 130 = .ok (.iadd, 1) := by decide +kernel
theorem d_DiscMakerModel_part_131 : decode b_DiscMakerModel_part 131 = .ok (.iconst 4, 1) := by decide +kernel
theorem d_DiscMakerModel_part_132 : decode b_DiscMakerModel_part 132 = .ok (.invokevirtual 315, 3) := by decide +kernel
theorem d_DiscMakerModel_part_135 : decode b_DiscMakerModel_part 135 = .ok (.iastore, 1) := by decide +kernel
theorem d_DiscMakerModel_part_136 : decode b_DiscMakerModel_part 136 = .ok (.aload_n 0, 1) := by decide +kernel
theorem d_DiscMakerModel_part_137 : decode b_DiscMakerModel_part 137 = .ok (.getfield 95, 3) := by decide +kernel
theorem d_DiscMakerModel_part_140 : decode b_DiscMakerModel_part 140 = .ok (.iload_n 1, 1) := by decide +kernel
theorem d_DiscMakerModel_part_141 : decode b_DiscMakerModel_part 141 = .ok (.aload_n 0, 1) := by decide +kernel
theorem d_DiscMakerModel_part_142 : decode b_DiscMakerModel_part 142 = .ok (.iload_n 2, 1) := by decide +kernel
theorem d_DiscMakerModel_part_143 : decode b_DiscMakerModel_part 143 = .ok (.bipush 28, 2) := by decide +kernel
theorem d_DiscMakerModel_part_145 : decode b_DiscMakerModel_part 145 = .ok (.iadd, 1) := by decide +kernel
theorem d_DiscMakerModel_part_146 : decode b_DiscMakerModel_part 146 = .ok (.iconst 4, 1) := by decide +kernel
theorem d_DiscMakerModel_part_147 : decode b_DiscMakerModel_part 147 = .ok (.invokevirtual 315, 3) := by decide +kernel
theorem d_DiscMakerModel_part_150 : decode b_DiscMakerModel_part 150 = .ok (.iastore, 1) := by decide +kernel
theorem d_DiscMakerModel_part_151 : decode b_DiscMakerModel_part 151 = .ok (.iconst 1, 1) := by decide +kernel
theorem d_DiscMakerModel_part_152 : decode b_DiscMakerModel_part 152 = .ok (.ireturn, 1) := by decide +kernel
theorem d_DiscMakerModel_part_153 : decode b_DiscMakerModel_part 153 = .ok (.aload_n 0, 1) := by decide +kernel
theorem d_DiscMakerModel_part_154 : decode b_DiscMakerModel_part 154 = .ok (.iload_n 2, 1) := by decide +kernel
theorem d_DiscMakerModel_part_155 : decode b_DiscMakerModel_part 155 = .ok (.bipush 67, 2) := by decide +kernel
theorem d_DiscMakerModel_part_157 : decode b_DiscMakerModel_part 157 = .ok (.bipush 69, 2) := by decide +kernel
theorem d_DiscMakerModel_part_159 : decode b_DiscMakerModel_part 159 = .ok (.invokevirtual 370, 3) := by decide +kernel
theorem d_DiscMakerModel_part_162 : decode b_DiscMakerModel_part 162 = .ok (.ifCond .ne 5, 3) := by decide +kernel
theorem d_DiscMakerModel_part_165 : decode b_DiscMakerModel_part 165 = .ok (.iconst 1, 1) := by decide +kernel
theorem d_DiscMakerModel_part_166 : decode b_DiscMakerModel_part 166 = .ok (.ireturn, 1) := by decide +kernel
theorem d_DiscMakerModel_part_167 : decode b_DiscMakerModel_part 167 = .ok (.iload_n 3, 1) := by decide +kernel
theorem d_DiscMakerModel_part_168 : decode b_DiscMakerModel_part 168 = .ok (.bipush 28, 2) := by decide +kernel
theorem d_DiscMakerModel_part_170 : decode b_DiscMakerModel_part 170 = .ok (.if_icmp .ne 38, 3) := by decide +kernel
theorem d_DiscMakerModel_part_173 : decode b_DiscMakerModel_part 173 = .ok (.aload_n 0, 1) := by decide +kernel
theorem d_DiscMakerModel_part_174 : decode b_DiscMakerModel_part 174 = .ok (.iload_n 2, 1) := by decide +kernel
theorem d_DiscMakerModel_part_175 : decode b_DiscMakerModel_part 175 = .ok (.iconst 4, 1) := by decide +kernel
theorem d_DiscMakerModel_part_176 : decode b_DiscMakerModel_part 176 = .ok (.iadd, 1) := by decide +kernel
theorem d_DiscMakerModel_part_177 : decode b_DiscMakerModel_part 177 = .ok (.iconst 4, 1) := by decide +kernel
theorem d_DiscMakerModel_part_178 : decode b_DiscMakerModel_part 178 = .ok (.invokevirtual 312, 3) := by decide +kernel
theorem d_DiscMakerModel_part_181 : decode b_DiscMakerModel_part 181 = .ok (.ifCond .eq 27, 3) := by decide +kernel
theorem d_DiscMakerModel_part_184 : decode b_DiscMakerModel_part 184 = .ok (.aload_n 0, 1) := by decide +kernel
theorem d_DiscMakerModel_part_185 : decode b_DiscMakerModel_part 185 = .ok (.iload_n 2, 1) := by decide +kernel
theorem d_DiscMakerModel_part_186 : decode b_DiscMakerModel_part 186 = .ok (.bipush 12, 2) := by decide +kernel
theorem d_DiscMakerModel_part_188 : decode b_DiscMakerModel_part 188 = .ok (.iadd, 1) := by decide +kernel
theorem d_DiscMakerModel_part_189 : decode b_DiscMakerModel_part 189 = .ok (.iconst 4, 1) := by decide +kernel
theorem d_DiscMakerModel_part_190 : decode b_DiscMakerModel_part 190 = .ok (.invokevirtual 312, 3) := by decide +kernel
theorem d_DiscMakerModel_part_193 : decode b_DiscMakerModel_part 193 = .ok (.ifCond .eq 15, 3) := by decide +kernel
theorem d_DiscMakerModel_part_196 : decode b_DiscMakerModel_part 196 = .ok (.aload_n 0, 1) := by decide +kernel
theorem d_DiscMakerModel_part_197 : decode b_DiscMakerModel_part 197 = .ok (.iload_n 2, 1) := by decide +kernel
theorem d_DiscMakerModel_part_198 : decode b_DiscMakerModel_part 198 = .ok (.bipush 20, 2) := by decide +kernel
theorem d_DiscMakerModel_part_200 : decode b_DiscMakerModel_part 200 = .ok (.iadd, 1) := by decide +kernel
theorem d_DiscMakerModel_part_201 : decode b_DiscMakerModel_part 201 = .ok (.iconst 4, 1) := by decide +kernel
theorem d_DiscMakerModel_part_202 : decode b_DiscMakerModel_part 202 = .ok (.invokevirtual 312, 3) := by decide +kernel
theorem d_DiscMakerModel_part_205 : decode b_DiscMakerModel_part 205 = .ok (.ifCond .ne 5, 3) := by decide +kernel
theorem d_DiscMakerModel_part_208 : decode b_DiscMakerModel_part 208 = .ok (.iconst 0, 1) := by decide +kernel
theorem d_DiscMakerModel_part_209 : decode b_DiscMakerModel_part 209 = .ok (.ireturn, 1) := by decide +kernel
theorem d_DiscMakerModel_part_210 : decode b_DiscMakerModel_part 210 = .ok (.aload_n 0, 1) := by decide +kernel
theorem d_DiscMakerModel_part_211 : decode b_DiscMakerModel_part 211 = .ok (.iload_n 2, 1) := by decide +kernel
theorem d_DiscMakerModel_part_212 : decode b_DiscMakerModel_part 212 = .ok (.iconst 4, 1) := by decide +kernel
theorem d_DiscMakerModel_part_213 : decode b_DiscMakerModel_part 213 = .ok (.iadd, 1) := by decide +kernel
theorem d_DiscMakerModel_part_214 : decode b_DiscMakerModel_part 214 = .ok (.iconst 4, 1) := by decide +kernel
theorem d_DiscMakerModel_part_215 : decode b_DiscMakerModel_part 215 = .ok (.invokevirtual 315, 3) := by decide +kernel
theorem d_DiscMakerModel_part_218 : decode b_DiscMakerModel_part 218 = .ok (.istore 4, 2) := by decide +kernel
theorem d_DiscMakerModel_part_220 : decode b_DiscMakerModel_part 220 = .ok (.aload_n 0, 1) := by decide +kernel
theorem d_DiscMakerModel_part_221 : decode b_DiscMakerModel_part 221 = .ok (.iload_n 2, 1) := by decide +kernel
theorem d_DiscMakerModel_part_222 : decode b_DiscMakerModel_part 222 = .ok (.bipush 12, 2) := by decide +kernel
theorem d_DiscMakerModel_part_224 : decode b_DiscMakerModel_part 224 = .ok (.iadd, 1) := by decide +kernel
theorem d_DiscMakerModel_part_225 : decode b_DiscMakerModel_part 225 = .ok (.iconst 4, 1) := by decide +kernel
theorem d_DiscMakerModel_part_226 : decode b_DiscMakerModel_part 226 = .ok (.invokevirtual 315, 3) := by decide +kernel
theorem d_DiscMakerModel_part_229 : decode b_DiscMakerModel_part 229 = .ok (.istore 5, 2) := by decide +kernel
theorem d_DiscMakerModel_part_231 : decode b_DiscMakerModel_part 231 = .ok (.aload_n 0, 1) := by decide +kernel
theorem d_DiscMakerModel_part_232 : decode b_DiscMakerModel_part 232 = .ok (.iload_n 2, 1) := by decide +kernel
theorem d_DiscMakerModel_part_233 : decode b_DiscMakerModel_part 233 = .ok (.bipush 20, 2) := by decide +kernel
theorem d_DiscMakerModel_part_235 : decode b_DiscMakerModel_part 235 = .ok (.iadd, 1) := by decide +kernel
theorem d_DiscMakerModel_part_236 : decode b_DiscMakerModel_part 236 = .ok (.iconst 4, 1) := by decide +kernel
theorem d_DiscMakerModel_part_237 : decode b_DiscMakerModel_part 237 = .ok (.invokevirtual 315, 3) := by decide +kernel
theorem d_DiscMakerModel_part_240 : decode b_DiscMakerModel_part 240 = .ok (.istore 6, 2) := by decide +kernel
theorem d_DiscMakerModel_part_242 : decode b_DiscMakerModel_part 242 = .ok (.iload 4, 2) := by decide +kernel
theorem d_DiscMakerModel_part_244 : decode b_DiscMakerModel_part 244 = .ok (.ifCond .lt 36, 3) := by decide +kernel
theorem d_DiscMakerModel_part_247 : decode b_DiscMakerModel_part 247 = .ok (.iload 4, 2) := by decide +kernel
theorem d_DiscMakerModel_part_249 : decode b_DiscMakerModel_part 249 = .ok (.aload_n 0, 1) := by decide +kernel
theorem d_DiscMakerModel_part_250 : decode b_DiscMakerModel_part 250 = .ok (.getfield 282, 3) := by decide +kernel
theorem d_DiscMakerModel_part_253 : decode b_DiscMakerModel_part 253 = .ok (.if_icmp .ge 27, 3) := by decide +kernel
theorem d_DiscMakerModel_part_256 : decode b_DiscMakerModel_part 256 = .ok (.iload 5, 2) := by decide +kernel
theorem d_DiscMakerModel_part_258 : decode b_DiscMakerModel_part 258 = .ok (.ifCond .lt 22, 3) := by decide +kernel
theorem d_DiscMakerModel_part_261 : decode b_DiscMakerModel_part 261 = .ok (.iload 6, 2) := by decide +kernel
theorem d_DiscMakerModel_part_263 : decode b_DiscMakerModel_part 263 = .ok (.ifCond .lt 17, 3) := by decide +kernel
theorem d_DiscMakerModel_part_266 : decode b_DiscMakerModel_part 266 = .ok (.iload 5, 2) := by decide +kernel
theorem d_DiscMakerModel_part_268 : decode b_DiscMakerModel_part 268 = .ok (.i2l, 1) := by decide +kernel
theorem d_DiscMakerModel_part_269 : decode b_DiscMakerModel_part 269 = .ok (.iload 6, 2) := by decide +kernel
theorem d_DiscMakerModel_part_271 : decode b_DiscMakerModel_part 271 = .ok (.i2l, 1) := by decide +kernel
theorem d_DiscMakerModel_part_272 : decode b_DiscMakerModel_part 272 = .ok (.ladd, 1) := by decide +kernel
theorem d_DiscMakerModel_part_273 : decode b_DiscMakerModel_part 273 = .ok (.ldc2_w 321, 3) := by decide +kernel
theorem d_DiscMakerModel_part_276 : decode b_DiscMakerModel_part 276 = .ok (.lcmp, 1) := by decide +kernel
theorem d_DiscMakerModel_part_277 : decode b_DiscMakerModel_part 277 = .ok (.ifCond .le 5, 3) := by decide +kernel
theorem d_DiscMakerModel_part_280 : decode b_DiscMakerModel_part 280 = .ok (.iconst 0, 1) := by decide +kernel
theorem d_DiscMakerModel_part_281 : decode b_DiscMakerModel_part 281 = .ok (.ireturn, 1) := by decide +kernel
theorem d_DiscMakerModel_part_282 : decode b_DiscMakerModel_part 282 = .ok (.aload_n 0, 1) := by decide +kernel
theorem d_DiscMakerModel_part_283 : decode b_DiscMakerModel_part 283 = .ok (.sipush 2048, 3) := by decide +kernel
theorem d_DiscMakerModel_part_286 : decode b_DiscMakerModel_part 286 = .ok (.iload 4, 2) := by decide +kernel
theorem d_DiscMakerModel_part_288 : decode b_DiscMakerModel_part 288 = .ok (.imul, 1) := by decide +kernel
theorem d_DiscMakerModel_part_289 : decode b_DiscMakerModel_part 289 = .ok (.iload 5, 2) := by decide +kernel
theorem d_DiscMakerModel_part_291 : decode b_DiscMakerModel_part 291 = .ok (.iadd, 1) := by decide +kernel
theorem d_DiscMakerModel_part_292 : decode b_DiscMakerModel_part 292 = .ok (.putfield 358, 3) := by decide +kernel
theorem d_DiscMakerModel_part_295 : decode b_DiscMakerModel_part 295 = .ok (.aload_n 0, 1) := by decide +kernel
theorem d_DiscMakerModel_part_296 : decode b_DiscMakerModel_part 296 = .ok (.iload 6, 2) := by decide +kernel
theorem d_DiscMakerModel_part_298 : decode b_DiscMakerModel_part 298 = .ok (.putfield 367, 3) := by decide +kernel
theorem d_DiscMakerModel_part_301 : decode b_DiscMakerModel_part 301 = .ok (.aload_n 0, 1) := by decide +kernel
theorem d_DiscMakerModel_part_302 : decode b_DiscMakerModel_part 302 = .ok (.iload_n 2, 1) := by decide +kernel
theorem d_DiscMakerModel_part_303 : decode b_DiscMakerModel_part 303 = .ok (.putfield 364, 3) := by decide +kernel
theorem d_DiscMakerModel_part_306 : decode b_DiscMakerModel_part 306 = .ok (.iconst 1, 1) := by decide +kernel
theorem d_DiscMakerModel_part_307 : decode b_DiscMakerModel_part 307 = .ok (.ireturn, 1) := by decide +kernel
set_option maxHeartbeats 4000000 in
set_option maxRecDepth 100000 in
theorem m_part (l : Launch) (D : va_G) (cB cI cJ cZ cN cF : ClassId) (sz : Nat) (h0 : Nat) (ma : Nat → Nat) (sv_thrown sv_length sv_nodes sv_many sv_directories sv_runsFrom sv_runs sv_read sv_wrong sv_isNamed sv_goes sv_goesSize sv_goesAt sv_targetParts sv_isRoot : Int32) (F : Nat → Int64) (fM : Nat → Int32) (fO : Nat → Int32) (fG : Nat → Int32) (fN : Nat → Int32) (fNS : Nat → Int32) (fT : Nat → Int32) (fTS : Nat → Int32) (x : Int32) (y : Int32) (z : Int32) (hm0 : 0 ≤ sv_many.toInt ∧ sv_many.toInt ≤ 180) (hk0 : 0 ≤ x.toInt ∧ x.toInt < 100) (hy0 : 0 ≤ y.toInt) (hz0 : 4 ≤ z.toInt ∧ z.toInt ≤ 255) (hyz : y.toInt + z.toInt ≤ 2048 * sv_many.toInt) (hfNS : Rg 0 60 100 fNS) (hfTS : Rg 0 400 100 fTS) : Met l y_DiscMakerModel_part w_DiscMakerModel_part ({ frames := 2, cells := 0, slots := 0, locals := 50 }) (va_Pc [.ref h0, .int x, .int y, .int z] (fun U => U.heap.size = sz ∧ va_P D CL [(h0, .inr (11, MO ma sv_thrown sv_length sv_nodes sv_many sv_directories sv_runsFrom sv_runs sv_read sv_wrong sv_isNamed sv_goes sv_goesSize sv_goesAt sv_targetParts sv_isRoot)), ((ma 16), .inl (cJ, 46080, .inr (.inl F))), ((ma 25), .inl (cI, 100, .inl fM)), ((ma 26), .inl (cI, 100, .inl fO)), ((ma 27), .inl (cI, 100, .inl fG)), ((ma 28), .inl (cB, 6000, .inl fN)), ((ma 29), .inl (cI, 100, .inl fNS)), ((ma 30), .inl (cB, 40000, .inl fT)), ((ma 31), .inl (cI, 100, .inl fTS))] U.heap ∧ va_K D CL (TY cB cI cJ cZ cN cF) U ∧ NN U ∧ va_D (fun _ => True) [(h0, .inr (11, MO ma sv_thrown sv_length sv_nodes sv_many sv_directories sv_runsFrom sv_runs sv_read sv_wrong sv_isNamed sv_goes sv_goesSize sv_goesAt sv_targetParts sv_isRoot)), ((ma 16), .inl (cJ, 46080, .inr (.inl F))), ((ma 25), .inl (cI, 100, .inl fM)), ((ma 26), .inl (cI, 100, .inl fO)), ((ma 27), .inl (cI, 100, .inl fG)), ((ma 28), .inl (cB, 6000, .inl fN)), ((ma 29), .inl (cI, 100, .inl fNS)), ((ma 30), .inl (cB, 40000, .inl fT)), ((ma 31), .inl (cI, 100, .inl fTS))])) (va_Qi (fun (r : Int32) (u : Int32 × Int32 × Int32 × Int32 × Int32 × Int32 × (Nat → Int32) × (Nat → Int32) × (Nat → Int32) × (Nat → Int32) × (Nat → Int32) × (Nat → Int32) × (Nat → Int32)) => match u with | (nm, go, gz, ga, tp, ro, gM, gO, gG, gN, gNS, gT, gTS) => (0 ≤ r.toInt ∧ r.toInt ≤ 1) ∧ ((go.toInt = sv_goes.toInt ∧ gz.toInt = sv_goesSize.toInt) ∨ (0 ≤ go.toInt ∧ 0 ≤ gz.toInt ∧ go.toInt + gz.toInt ≤ 2048 * sv_many.toInt)) ∧ (Rg 0 60 100 gNS) ∧ (Rg 0 400 100 gTS)) (fun (u : Int32 × Int32 × Int32 × Int32 × Int32 × Int32 × (Nat → Int32) × (Nat → Int32) × (Nat → Int32) × (Nat → Int32) × (Nat → Int32) × (Nat → Int32) × (Nat → Int32)) (t : State) => match u with | (nm, go, gz, ga, tp, ro, gM, gO, gG, gN, gNS, gT, gTS) => va_P D CL [(h0, .inr (11, MO ma sv_thrown sv_length sv_nodes sv_many sv_directories sv_runsFrom sv_runs sv_read sv_wrong nm go gz ga tp ro)), ((ma 16), .inl (cJ, 46080, .inr (.inl F))), ((ma 25), .inl (cI, 100, .inl gM)), ((ma 26), .inl (cI, 100, .inl gO)), ((ma 27), .inl (cI, 100, .inl gG)), ((ma 28), .inl (cB, 6000, .inl gN)), ((ma 29), .inl (cI, 100, .inl gNS)), ((ma 30), .inl (cB, 40000, .inl gT)), ((ma 31), .inl (cI, 100, .inl gTS))] t.heap ∧ va_D (va_A [(h0, .inr (11, MO ma sv_thrown sv_length sv_nodes sv_many sv_directories sv_runsFrom sv_runs sv_read sv_wrong sv_isNamed sv_goes sv_goesSize sv_goesAt sv_targetParts sv_isRoot)), ((ma 16), .inl (cJ, 46080, .inr (.inl F))), ((ma 25), .inl (cI, 100, .inl fM)), ((ma 26), .inl (cI, 100, .inl fO)), ((ma 27), .inl (cI, 100, .inl fG)), ((ma 28), .inl (cB, 6000, .inl fN)), ((ma 29), .inl (cI, 100, .inl fNS)), ((ma 30), .inl (cB, 40000, .inl fT)), ((ma 31), .inl (cI, 100, .inl fTS))] sz) [(h0, .inr (11, MO ma sv_thrown sv_length sv_nodes sv_many sv_directories sv_runsFrom sv_runs sv_read sv_wrong nm go gz ga tp ro)), ((ma 16), .inl (cJ, 46080, .inr (.inl F))), ((ma 25), .inl (cI, 100, .inl gM)), ((ma 26), .inl (cI, 100, .inl gO)), ((ma 27), .inl (cI, 100, .inl gG)), ((ma 28), .inl (cB, 6000, .inl gN)), ((ma 29), .inl (cI, 100, .inl gNS)), ((ma 30), .inl (cB, 40000, .inl gT)), ((ma 31), .inl (cI, 100, .inl gTS))]) (va_A [(h0, .inr (11, MO ma sv_thrown sv_length sv_nodes sv_many sv_directories sv_runsFrom sv_runs sv_read sv_wrong sv_isNamed sv_goes sv_goesSize sv_goesAt sv_targetParts sv_isRoot)), ((ma 16), .inl (cJ, 46080, .inr (.inl F))), ((ma 25), .inl (cI, 100, .inl fM)), ((ma 26), .inl (cI, 100, .inl fO)), ((ma 27), .inl (cI, 100, .inl fG)), ((ma 28), .inl (cB, 6000, .inl fN)), ((ma 29), .inl (cI, 100, .inl fNS)), ((ma 30), .inl (cB, 40000, .inl fT)), ((ma 31), .inl (cI, 100, .inl fTS))] sz)) 0 0 (va_A [(h0, .inr (11, MO ma sv_thrown sv_length sv_nodes sv_many sv_directories sv_runsFrom sv_runs sv_read sv_wrong sv_isNamed sv_goes sv_goesSize sv_goesAt sv_targetParts sv_isRoot)), ((ma 16), .inl (cJ, 46080, .inr (.inl F))), ((ma 25), .inl (cI, 100, .inl fM)), ((ma 26), .inl (cI, 100, .inl fO)), ((ma 27), .inl (cI, 100, .inl fG)), ((ma 28), .inl (cB, 6000, .inl fN)), ((ma 29), .inl (cI, 100, .inl fNS)), ((ma 30), .inl (cB, 40000, .inl fT)), ((ma 31), .inl (cI, 100, .inl fTS))] sz) := by
  refine Met.ofW (cc := b_DiscMakerModel_part) (maxL := 7) (ret := some .boolean) (by decide) rfl ?_
  intro p e s m args below meth c s₁ B hml hv
  obtain ⟨rfl, hsz, hP, hK, hN, hD0⟩ := hv
  have hx := B.exec
  have hb := B.bytes
  have hr := B.returns
  have hts := atoms_spec (ws := w_DiscMakerModel_part) B.pre
  have ht9 := fun (w : Cond) (h : w ∈ lw_g) => hts w (List.mem_cons_of_mem _ h)
  have hown : s.vm.findClass "DiscMakerModel" = some m.cls := findClass_of_methodNamed B.named
  have hlocks := B.notSynchronized
  subst hsz
  have hD := hD0.self (sz := s.heap.size)
  generalize hAe : va_A [(h0, .inr (11, MO ma sv_thrown sv_length sv_nodes sv_many sv_directories sv_runsFrom sv_runs sv_read sv_wrong sv_isNamed sv_goes sv_goesSize sv_goesAt sv_targetParts sv_isRoot)), ((ma 16), .inl (cJ, 46080, .inr (.inl F))), ((ma 25), .inl (cI, 100, .inl fM)), ((ma 26), .inl (cI, 100, .inl fO)), ((ma 27), .inl (cI, 100, .inl fG)), ((ma 28), .inl (cB, 6000, .inl fN)), ((ma 29), .inl (cI, 100, .inl fNS)), ((ma 30), .inl (cB, 40000, .inl fT)), ((ma 31), .inl (cI, 100, .inl fTS))] s.heap.size = A at hD ⊢
  have hA : ∀ q : Nat, s.heap.size ≤ q → A q := fun q h => by rw [← hAe]; exact Or.inr h
  have hS : va_S A s.heap s.heap [] := va_S.rf
  have hP : va_P D CL [(h0, .inr (11, MO ma sv_thrown sv_length sv_nodes sv_many sv_directories sv_runsFrom sv_runs sv_read sv_wrong sv_isNamed sv_goes sv_goesSize sv_goesAt sv_targetParts sv_isRoot)), ((ma 16), .inl (cJ, 46080, .inr (.inl F))), ((ma 25), .inl (cI, 100, .inl fM)), ((ma 26), .inl (cI, 100, .inl fO)), ((ma 27), .inl (cI, 100, .inl fG)), ((ma 28), .inl (cB, 6000, .inl fN)), ((ma 29), .inl (cI, 100, .inl fNS)), ((ma 30), .inl (cB, 40000, .inl fT)), ((ma 31), .inl (cI, 100, .inl fTS))] s.heap := hP
  have hl := lv_entry [.ref h0, .int x, .int y, .int z] (n := 7) (Nat.le_of_ble_eq_true rfl)
  rw [lg_entry_eq]
  generalize (lg_sl [.ref h0, .int x, .int y, .int z] ++ List.replicate (7 - (lg_sl [.ref h0, .int x, .int y, .int z]).length) Slot.unset).toArray = ls at hl ⊢
  have hl : lv_has ls 7 [(0, .ref h0), (1, .int x), (2, .int y), (3, .int z)] := hl
  have L_m1 : ((-1) : Int32).toInt = (-1) := by decide
  have L_0 : (0 : Int32).toInt = 0 := by decide
  have L_1 : (1 : Int32).toInt = 1 := by decide
  have L_4 : (4 : Int32).toInt = 4 := by decide
  have L_12 : (12 : Int32).toInt = 12 := by decide
  have L_20 : (20 : Int32).toInt = 20 := by decide
  have L_28 : (28 : Int32).toInt = 28 := by decide
  have L_36 : (36 : Int32).toInt = 36 := by decide
  have L_67 : (67 : Int32).toInt = 67 := by decide
  have L_69 : (69 : Int32).toInt = 69 := by decide
  have L_76 : (76 : Int32).toInt = 76 := by decide
  have L_77 : (77 : Int32).toInt = 77 := by decide
  have L_78 : (78 : Int32).toInt = 78 := by decide
  have L_80 : (80 : Int32).toInt = 80 := by decide
  have L_83 : (83 : Int32).toInt = 83 := by decide
  have L_88 : (88 : Int32).toInt = 88 := by decide
  have L_2048 : (2048 : Int32).toInt = 2048 := by decide
  refine lv_aload_n hx hb d_DiscMakerModel_part_0 rfl (lv_at hl 0 rfl) ?_
  refine lv_iload_n hx hb d_DiscMakerModel_part_1 rfl (lv_at hl 2 rfl) ?_
  refine lv_bipush (v := 78) hx hb d_DiscMakerModel_part_2 (by decide) ?_
  refine lv_bipush (v := 77) hx hb d_DiscMakerModel_part_4 (by decide) ?_
  have hPc := hP.sub (ws' := [(h0, .inr (11, MO ma sv_thrown sv_length sv_nodes sv_many sv_directories sv_runsFrom sv_runs sv_read sv_wrong sv_isNamed sv_goes sv_goesSize sv_goesAt sv_targetParts sv_isRoot)), ((ma 16), .inl (cJ, 46080, .inr (.inl F)))]) [0, 1] rfl
  have hDc := hD.sub (ws' := [(h0, .inr (11, MO ma sv_thrown sv_length sv_nodes sv_many sv_directories sv_runsFrom sv_runs sv_read sv_wrong sv_isNamed sv_goes sv_goesSize sv_goesAt sv_targetParts sv_isRoot)), ((ma 16), .inl (cJ, 46080, .inr (.inl F)))]) [0, 1] (by decide +kernel) rfl
  have hFc := va_free (wc := [(h0, .inr (11, MO ma sv_thrown sv_length sv_nodes sv_many sv_directories sv_runsFrom sv_runs sv_read sv_wrong sv_isNamed sv_goes sv_goesSize sv_goesAt sv_targetParts sv_isRoot)), ((ma 16), .inl (cJ, 46080, .inr (.inl F)))]) hD hS hA [0, 1] rfl
  have hkc : 0 ≤ 0 := by decide
  have hks : 0 ≤ 0 := by decide
  refine va_calli (va_runV (C := "DiscMakerModel") (As := [.int y, .int 78, .int 77]) (rest := []) ⟨hx, hb, hml, hown, hts⟩ (m_isPart l D cB cI cJ cZ cN cF s.heap.size h0 ma sv_thrown sv_length sv_nodes sv_many sv_directories sv_runsFrom sv_runs sv_read sv_wrong sv_isNamed sv_goes sv_goesSize sv_goesAt sv_targetParts sv_isRoot F y 78 77 (by (try dsimp only); first | assumption | omega | trivial)) (cwV 3 hts (lg_goodV k1870 k1872 k107 k125 kc_DiscMakerModel_isPart) rfl rfl rfl (by decide +kernel) ⟨Nat.le_of_ble_eq_true rfl, Nat.le_of_ble_eq_true rfl⟩) ⟨fun a U g mk q => by obtain ⟨q0, q1, qP, qK, qN, qD⟩ := q; exact ⟨q0, q1, qP, va_K.moved (u := U) (U := U.calling g mk a) (Vm.Alike.refl U.vm) qK, qN.calling, qD⟩, va_recv hK hP (ci := 11) (q0 := 0) rfl rfl, fun U hU hW => ⟨rfl, by rw [hU], by rw [hU]; exact hPc, va_K.moved hW.alike hK, NN.warm hW hN, hDc.weaken (fun _ _ _ _ => trivial)⟩⟩ rfl rfl hl.1 rfl (lv_room (Nat.le_of_ble_eq_true rfl)) d_DiscMakerModel_part_6 ⟨hkc, hks⟩) hS (fun q _ h => hFc q h) hFc (fun r1 u t H1 locs ht hvm hp_r1 hB hz1 hk1 hS => ?_)
  obtain ⟨hP1, hD1⟩ := hB
  rw [ht] at hP1
  obtain ⟨hP, hD⟩ := va_join (wr := [((ma 25), .inl (cI, 100, .inl fM)), ((ma 26), .inl (cI, 100, .inl fO)), ((ma 27), .inl (cI, 100, .inl fG)), ((ma 28), .inl (cB, 6000, .inl fN)), ((ma 29), .inl (cI, 100, .inl fNS)), ((ma 30), .inl (cB, 40000, .inl fT)), ((ma 31), .inl (cI, 100, .inl fTS))]) (w1 := [(h0, .inr (11, MO ma sv_thrown sv_length sv_nodes sv_many sv_directories sv_runsFrom sv_runs sv_read sv_wrong sv_isNamed sv_goes sv_goesSize sv_goesAt sv_targetParts sv_isRoot)), ((ma 16), .inl (cJ, 46080, .inr (.inl F)))]) hP hD [0, 1] [2, 3, 4, 5, 6, 7, 8] rfl rfl (by decide +kernel) (by decide +kernel) hk1 hFc hP1 hD1
  clear hPc hDc hFc hP1 hD1 hk1 hz1 hkc hks
  generalize H1 = H at hP hS ⊢
  have hP : va_P D CL [((ma 25), .inl (cI, 100, .inl fM)), ((ma 26), .inl (cI, 100, .inl fO)), ((ma 27), .inl (cI, 100, .inl fG)), ((ma 28), .inl (cB, 6000, .inl fN)), ((ma 29), .inl (cI, 100, .inl fNS)), ((ma 30), .inl (cB, 40000, .inl fT)), ((ma 31), .inl (cI, 100, .inl fTS)), (h0, .inr (11, MO ma sv_thrown sv_length sv_nodes sv_many sv_directories sv_runsFrom sv_runs sv_read sv_wrong sv_isNamed sv_goes sv_goesSize sv_goesAt sv_targetParts sv_isRoot)), ((ma 16), .inl (cJ, 46080, .inr (.inl F)))] H := hP
  have hD : va_D A [((ma 25), .inl (cI, 100, .inl fM)), ((ma 26), .inl (cI, 100, .inl fO)), ((ma 27), .inl (cI, 100, .inl fG)), ((ma 28), .inl (cB, 6000, .inl fN)), ((ma 29), .inl (cI, 100, .inl fNS)), ((ma 30), .inl (cB, 40000, .inl fT)), ((ma 31), .inl (cI, 100, .inl fTS)), (h0, .inr (11, MO ma sv_thrown sv_length sv_nodes sv_many sv_directories sv_runsFrom sv_runs sv_read sv_wrong sv_isNamed sv_goes sv_goesSize sv_goesAt sv_targetParts sv_isRoot)), ((ma 16), .inl (cJ, 46080, .inr (.inl F)))] := hD
  try dsimp only at hp_r1
  have hr_2 := hp_r1
  refine lv_if_eq (tgt := 20) hx hb d_DiscMakerModel_part_9 (by decide) (fun h_9 => ?_) (fun h_9 => ?_)
  · skip
    have g9_6 : r1.toInt = 0 := (i_eq rfl (by decide)).mp h_9
    refine lv_aload_n hx hb d_DiscMakerModel_part_20 rfl (lv_at hl 0 rfl) ?_
    refine lv_iload_n hx hb d_DiscMakerModel_part_21 rfl (lv_at hl 2 rfl) ?_
    refine lv_bipush (v := 83) hx hb d_DiscMakerModel_part_22 (by decide) ?_
    refine lv_bipush (v := 76) hx hb d_DiscMakerModel_part_24 (by decide) ?_
    have hPc := hP.sub (ws' := [(h0, .inr (11, MO ma sv_thrown sv_length sv_nodes sv_many sv_directories sv_runsFrom sv_runs sv_read sv_wrong sv_isNamed sv_goes sv_goesSize sv_goesAt sv_targetParts sv_isRoot)), ((ma 16), .inl (cJ, 46080, .inr (.inl F)))]) [7, 8] rfl
    have hDc := hD.sub (ws' := [(h0, .inr (11, MO ma sv_thrown sv_length sv_nodes sv_many sv_directories sv_runsFrom sv_runs sv_read sv_wrong sv_isNamed sv_goes sv_goesSize sv_goesAt sv_targetParts sv_isRoot)), ((ma 16), .inl (cJ, 46080, .inr (.inl F)))]) [7, 8] (by decide +kernel) rfl
    have hFc := va_free (wc := [(h0, .inr (11, MO ma sv_thrown sv_length sv_nodes sv_many sv_directories sv_runsFrom sv_runs sv_read sv_wrong sv_isNamed sv_goes sv_goesSize sv_goesAt sv_targetParts sv_isRoot)), ((ma 16), .inl (cJ, 46080, .inr (.inl F)))]) hD hS hA [7, 8] rfl
    have hkc : 0 ≤ 0 := by decide
    have hks : 0 ≤ 0 := by decide
    refine va_calli (va_runV (C := "DiscMakerModel") (As := [.int y, .int 83, .int 76]) (rest := []) ⟨hx, hb, hml, hown, hts⟩ (m_isPart l D cB cI cJ cZ cN cF H.size h0 ma sv_thrown sv_length sv_nodes sv_many sv_directories sv_runsFrom sv_runs sv_read sv_wrong sv_isNamed sv_goes sv_goesSize sv_goesAt sv_targetParts sv_isRoot F y 83 76 (by (try dsimp only); first | assumption | omega | trivial)) (cwV 3 hts (lg_goodV k1870 k1872 k107 k125 kc_DiscMakerModel_isPart) rfl rfl rfl (by decide +kernel) ⟨Nat.le_of_ble_eq_true rfl, Nat.le_of_ble_eq_true rfl⟩) ⟨fun a U g mk q => by obtain ⟨q0, q1, qP, qK, qN, qD⟩ := q; exact ⟨q0, q1, qP, va_K.moved (u := U) (U := U.calling g mk a) (Vm.Alike.refl U.vm) qK, qN.calling, qD⟩, va_recv hK hP (ci := 11) (q0 := 7) rfl rfl, fun U hU hW => ⟨rfl, by rw [hU], by rw [hU]; exact hPc, va_K.moved hW.alike hK, NN.warm hW hN, hDc.weaken (fun _ _ _ _ => trivial)⟩⟩ rfl rfl hl.1 rfl (lv_room (Nat.le_of_ble_eq_true rfl)) d_DiscMakerModel_part_26 ⟨hkc, hks⟩) hS (fun q _ h => hFc q h) hFc (fun r3 u t H1 locs ht hvm hp_r3 hB hz1 hk1 hS => ?_)
    obtain ⟨hP1, hD1⟩ := hB
    rw [ht] at hP1
    obtain ⟨hP, hD⟩ := va_join (wr := [((ma 25), .inl (cI, 100, .inl fM)), ((ma 26), .inl (cI, 100, .inl fO)), ((ma 27), .inl (cI, 100, .inl fG)), ((ma 28), .inl (cB, 6000, .inl fN)), ((ma 29), .inl (cI, 100, .inl fNS)), ((ma 30), .inl (cB, 40000, .inl fT)), ((ma 31), .inl (cI, 100, .inl fTS))]) (w1 := [(h0, .inr (11, MO ma sv_thrown sv_length sv_nodes sv_many sv_directories sv_runsFrom sv_runs sv_read sv_wrong sv_isNamed sv_goes sv_goesSize sv_goesAt sv_targetParts sv_isRoot)), ((ma 16), .inl (cJ, 46080, .inr (.inl F)))]) hP hD [7, 8] [0, 1, 2, 3, 4, 5, 6] rfl rfl (by decide +kernel) (by decide +kernel) hk1 hFc hP1 hD1
    clear hPc hDc hFc hP1 hD1 hk1 hz1 hkc hks
    generalize H1 = H at hP hS ⊢
    have hP : va_P D CL [((ma 25), .inl (cI, 100, .inl fM)), ((ma 26), .inl (cI, 100, .inl fO)), ((ma 27), .inl (cI, 100, .inl fG)), ((ma 28), .inl (cB, 6000, .inl fN)), ((ma 29), .inl (cI, 100, .inl fNS)), ((ma 30), .inl (cB, 40000, .inl fT)), ((ma 31), .inl (cI, 100, .inl fTS)), (h0, .inr (11, MO ma sv_thrown sv_length sv_nodes sv_many sv_directories sv_runsFrom sv_runs sv_read sv_wrong sv_isNamed sv_goes sv_goesSize sv_goesAt sv_targetParts sv_isRoot)), ((ma 16), .inl (cJ, 46080, .inr (.inl F)))] H := hP
    have hD : va_D A [((ma 25), .inl (cI, 100, .inl fM)), ((ma 26), .inl (cI, 100, .inl fO)), ((ma 27), .inl (cI, 100, .inl fG)), ((ma 28), .inl (cB, 6000, .inl fN)), ((ma 29), .inl (cI, 100, .inl fNS)), ((ma 30), .inl (cB, 40000, .inl fT)), ((ma 31), .inl (cI, 100, .inl fTS)), (h0, .inr (11, MO ma sv_thrown sv_length sv_nodes sv_many sv_directories sv_runsFrom sv_runs sv_read sv_wrong sv_isNamed sv_goes sv_goesSize sv_goesAt sv_targetParts sv_isRoot)), ((ma 16), .inl (cJ, 46080, .inr (.inl F)))] := hD
    try dsimp only at hp_r3
    have hr_4 := hp_r3
    refine lv_if_eq (tgt := 40) hx hb d_DiscMakerModel_part_29 (by decide) (fun h_9 => ?_) (fun h_9 => ?_)
    · skip
      have g29_12 : r3.toInt = 0 := (i_eq rfl (by decide)).mp h_9
      refine lv_aload_n hx hb d_DiscMakerModel_part_40 rfl (lv_at hl 0 rfl) ?_
      refine lv_iload_n hx hb d_DiscMakerModel_part_41 rfl (lv_at hl 2 rfl) ?_
      refine lv_bipush (v := 80) hx hb d_DiscMakerModel_part_42 (by decide) ?_
      refine lv_bipush (v := 88) hx hb d_DiscMakerModel_part_44 (by decide) ?_
      have hPc := hP.sub (ws' := [(h0, .inr (11, MO ma sv_thrown sv_length sv_nodes sv_many sv_directories sv_runsFrom sv_runs sv_read sv_wrong sv_isNamed sv_goes sv_goesSize sv_goesAt sv_targetParts sv_isRoot)), ((ma 16), .inl (cJ, 46080, .inr (.inl F)))]) [7, 8] rfl
      have hDc := hD.sub (ws' := [(h0, .inr (11, MO ma sv_thrown sv_length sv_nodes sv_many sv_directories sv_runsFrom sv_runs sv_read sv_wrong sv_isNamed sv_goes sv_goesSize sv_goesAt sv_targetParts sv_isRoot)), ((ma 16), .inl (cJ, 46080, .inr (.inl F)))]) [7, 8] (by decide +kernel) rfl
      have hFc := va_free (wc := [(h0, .inr (11, MO ma sv_thrown sv_length sv_nodes sv_many sv_directories sv_runsFrom sv_runs sv_read sv_wrong sv_isNamed sv_goes sv_goesSize sv_goesAt sv_targetParts sv_isRoot)), ((ma 16), .inl (cJ, 46080, .inr (.inl F)))]) hD hS hA [7, 8] rfl
      have hkc : 0 ≤ 0 := by decide
      have hks : 0 ≤ 0 := by decide
      refine va_calli (va_runV (C := "DiscMakerModel") (As := [.int y, .int 80, .int 88]) (rest := []) ⟨hx, hb, hml, hown, hts⟩ (m_isPart l D cB cI cJ cZ cN cF H.size h0 ma sv_thrown sv_length sv_nodes sv_many sv_directories sv_runsFrom sv_runs sv_read sv_wrong sv_isNamed sv_goes sv_goesSize sv_goesAt sv_targetParts sv_isRoot F y 80 88 (by (try dsimp only); first | assumption | omega | trivial)) (cwV 3 hts (lg_goodV k1870 k1872 k107 k125 kc_DiscMakerModel_isPart) rfl rfl rfl (by decide +kernel) ⟨Nat.le_of_ble_eq_true rfl, Nat.le_of_ble_eq_true rfl⟩) ⟨fun a U g mk q => by obtain ⟨q0, q1, qP, qK, qN, qD⟩ := q; exact ⟨q0, q1, qP, va_K.moved (u := U) (U := U.calling g mk a) (Vm.Alike.refl U.vm) qK, qN.calling, qD⟩, va_recv hK hP (ci := 11) (q0 := 7) rfl rfl, fun U hU hW => ⟨rfl, by rw [hU], by rw [hU]; exact hPc, va_K.moved hW.alike hK, NN.warm hW hN, hDc.weaken (fun _ _ _ _ => trivial)⟩⟩ rfl rfl hl.1 rfl (lv_room (Nat.le_of_ble_eq_true rfl)) d_DiscMakerModel_part_46 ⟨hkc, hks⟩) hS (fun q _ h => hFc q h) hFc (fun r5 u t H1 locs ht hvm hp_r5 hB hz1 hk1 hS => ?_)
      obtain ⟨hP1, hD1⟩ := hB
      rw [ht] at hP1
      obtain ⟨hP, hD⟩ := va_join (wr := [((ma 25), .inl (cI, 100, .inl fM)), ((ma 26), .inl (cI, 100, .inl fO)), ((ma 27), .inl (cI, 100, .inl fG)), ((ma 28), .inl (cB, 6000, .inl fN)), ((ma 29), .inl (cI, 100, .inl fNS)), ((ma 30), .inl (cB, 40000, .inl fT)), ((ma 31), .inl (cI, 100, .inl fTS))]) (w1 := [(h0, .inr (11, MO ma sv_thrown sv_length sv_nodes sv_many sv_directories sv_runsFrom sv_runs sv_read sv_wrong sv_isNamed sv_goes sv_goesSize sv_goesAt sv_targetParts sv_isRoot)), ((ma 16), .inl (cJ, 46080, .inr (.inl F)))]) hP hD [7, 8] [0, 1, 2, 3, 4, 5, 6] rfl rfl (by decide +kernel) (by decide +kernel) hk1 hFc hP1 hD1
      clear hPc hDc hFc hP1 hD1 hk1 hz1 hkc hks
      generalize H1 = H at hP hS ⊢
      have hP : va_P D CL [((ma 25), .inl (cI, 100, .inl fM)), ((ma 26), .inl (cI, 100, .inl fO)), ((ma 27), .inl (cI, 100, .inl fG)), ((ma 28), .inl (cB, 6000, .inl fN)), ((ma 29), .inl (cI, 100, .inl fNS)), ((ma 30), .inl (cB, 40000, .inl fT)), ((ma 31), .inl (cI, 100, .inl fTS)), (h0, .inr (11, MO ma sv_thrown sv_length sv_nodes sv_many sv_directories sv_runsFrom sv_runs sv_read sv_wrong sv_isNamed sv_goes sv_goesSize sv_goesAt sv_targetParts sv_isRoot)), ((ma 16), .inl (cJ, 46080, .inr (.inl F)))] H := hP
      have hD : va_D A [((ma 25), .inl (cI, 100, .inl fM)), ((ma 26), .inl (cI, 100, .inl fO)), ((ma 27), .inl (cI, 100, .inl fG)), ((ma 28), .inl (cB, 6000, .inl fN)), ((ma 29), .inl (cI, 100, .inl fNS)), ((ma 30), .inl (cB, 40000, .inl fT)), ((ma 31), .inl (cI, 100, .inl fTS)), (h0, .inr (11, MO ma sv_thrown sv_length sv_nodes sv_many sv_directories sv_runsFrom sv_runs sv_read sv_wrong sv_isNamed sv_goes sv_goesSize sv_goesAt sv_targetParts sv_isRoot)), ((ma 16), .inl (cJ, 46080, .inr (.inl F)))] := hD
      try dsimp only at hp_r5
      have hr_6 := hp_r5
      refine lv_if_eq (tgt := 153) hx hb d_DiscMakerModel_part_49 (by decide) (fun h_9 => ?_) (fun h_9 => ?_)
      · skip
        have g49_18 : r5.toInt = 0 := (i_eq rfl (by decide)).mp h_9
        refine lv_aload_n hx hb d_DiscMakerModel_part_153 rfl (lv_at hl 0 rfl) ?_
        refine lv_iload_n hx hb d_DiscMakerModel_part_154 rfl (lv_at hl 2 rfl) ?_
        refine lv_bipush (v := 67) hx hb d_DiscMakerModel_part_155 (by decide) ?_
        refine lv_bipush (v := 69) hx hb d_DiscMakerModel_part_157 (by decide) ?_
        have hPc := hP.sub (ws' := [(h0, .inr (11, MO ma sv_thrown sv_length sv_nodes sv_many sv_directories sv_runsFrom sv_runs sv_read sv_wrong sv_isNamed sv_goes sv_goesSize sv_goesAt sv_targetParts sv_isRoot)), ((ma 16), .inl (cJ, 46080, .inr (.inl F)))]) [7, 8] rfl
        have hDc := hD.sub (ws' := [(h0, .inr (11, MO ma sv_thrown sv_length sv_nodes sv_many sv_directories sv_runsFrom sv_runs sv_read sv_wrong sv_isNamed sv_goes sv_goesSize sv_goesAt sv_targetParts sv_isRoot)), ((ma 16), .inl (cJ, 46080, .inr (.inl F)))]) [7, 8] (by decide +kernel) rfl
        have hFc := va_free (wc := [(h0, .inr (11, MO ma sv_thrown sv_length sv_nodes sv_many sv_directories sv_runsFrom sv_runs sv_read sv_wrong sv_isNamed sv_goes sv_goesSize sv_goesAt sv_targetParts sv_isRoot)), ((ma 16), .inl (cJ, 46080, .inr (.inl F)))]) hD hS hA [7, 8] rfl
        have hkc : 0 ≤ 0 := by decide
        have hks : 0 ≤ 0 := by decide
        refine va_calli (va_runV (C := "DiscMakerModel") (As := [.int y, .int 67, .int 69]) (rest := []) ⟨hx, hb, hml, hown, hts⟩ (m_isPart l D cB cI cJ cZ cN cF H.size h0 ma sv_thrown sv_length sv_nodes sv_many sv_directories sv_runsFrom sv_runs sv_read sv_wrong sv_isNamed sv_goes sv_goesSize sv_goesAt sv_targetParts sv_isRoot F y 67 69 (by (try dsimp only); first | assumption | omega | trivial)) (cwV 3 hts (lg_goodV k1870 k1872 k107 k125 kc_DiscMakerModel_isPart) rfl rfl rfl (by decide +kernel) ⟨Nat.le_of_ble_eq_true rfl, Nat.le_of_ble_eq_true rfl⟩) ⟨fun a U g mk q => by obtain ⟨q0, q1, qP, qK, qN, qD⟩ := q; exact ⟨q0, q1, qP, va_K.moved (u := U) (U := U.calling g mk a) (Vm.Alike.refl U.vm) qK, qN.calling, qD⟩, va_recv hK hP (ci := 11) (q0 := 7) rfl rfl, fun U hU hW => ⟨rfl, by rw [hU], by rw [hU]; exact hPc, va_K.moved hW.alike hK, NN.warm hW hN, hDc.weaken (fun _ _ _ _ => trivial)⟩⟩ rfl rfl hl.1 rfl (lv_room (Nat.le_of_ble_eq_true rfl)) d_DiscMakerModel_part_159 ⟨hkc, hks⟩) hS (fun q _ h => hFc q h) hFc (fun r7 u t H1 locs ht hvm hp_r7 hB hz1 hk1 hS => ?_)
        obtain ⟨hP1, hD1⟩ := hB
        rw [ht] at hP1
        obtain ⟨hP, hD⟩ := va_join (wr := [((ma 25), .inl (cI, 100, .inl fM)), ((ma 26), .inl (cI, 100, .inl fO)), ((ma 27), .inl (cI, 100, .inl fG)), ((ma 28), .inl (cB, 6000, .inl fN)), ((ma 29), .inl (cI, 100, .inl fNS)), ((ma 30), .inl (cB, 40000, .inl fT)), ((ma 31), .inl (cI, 100, .inl fTS))]) (w1 := [(h0, .inr (11, MO ma sv_thrown sv_length sv_nodes sv_many sv_directories sv_runsFrom sv_runs sv_read sv_wrong sv_isNamed sv_goes sv_goesSize sv_goesAt sv_targetParts sv_isRoot)), ((ma 16), .inl (cJ, 46080, .inr (.inl F)))]) hP hD [7, 8] [0, 1, 2, 3, 4, 5, 6] rfl rfl (by decide +kernel) (by decide +kernel) hk1 hFc hP1 hD1
        clear hPc hDc hFc hP1 hD1 hk1 hz1 hkc hks
        generalize H1 = H at hP hS ⊢
        have hP : va_P D CL [((ma 25), .inl (cI, 100, .inl fM)), ((ma 26), .inl (cI, 100, .inl fO)), ((ma 27), .inl (cI, 100, .inl fG)), ((ma 28), .inl (cB, 6000, .inl fN)), ((ma 29), .inl (cI, 100, .inl fNS)), ((ma 30), .inl (cB, 40000, .inl fT)), ((ma 31), .inl (cI, 100, .inl fTS)), (h0, .inr (11, MO ma sv_thrown sv_length sv_nodes sv_many sv_directories sv_runsFrom sv_runs sv_read sv_wrong sv_isNamed sv_goes sv_goesSize sv_goesAt sv_targetParts sv_isRoot)), ((ma 16), .inl (cJ, 46080, .inr (.inl F)))] H := hP
        have hD : va_D A [((ma 25), .inl (cI, 100, .inl fM)), ((ma 26), .inl (cI, 100, .inl fO)), ((ma 27), .inl (cI, 100, .inl fG)), ((ma 28), .inl (cB, 6000, .inl fN)), ((ma 29), .inl (cI, 100, .inl fNS)), ((ma 30), .inl (cB, 40000, .inl fT)), ((ma 31), .inl (cI, 100, .inl fTS)), (h0, .inr (11, MO ma sv_thrown sv_length sv_nodes sv_many sv_directories sv_runsFrom sv_runs sv_read sv_wrong sv_isNamed sv_goes sv_goesSize sv_goesAt sv_targetParts sv_isRoot)), ((ma 16), .inl (cJ, 46080, .inr (.inl F)))] := hD
        try dsimp only at hp_r7
        have hr_8 := hp_r7
        refine lv_if_ne (tgt := 167) hx hb d_DiscMakerModel_part_162 (by decide) (fun h_9 => ?_) (fun h_9 => ?_)
        · skip
          have g162_24 : ¬ r7.toInt = 0 := fun h8 => h_9 ((i_eq rfl (by decide)).mpr h8)
          refine lv_iload_n hx hb d_DiscMakerModel_part_167 rfl (lv_at hl 3 rfl) ?_
          refine lv_bipush (v := 28) hx hb d_DiscMakerModel_part_168 (by decide) ?_
          refine lv_icmp_ne (tgt := 208) hx hb d_DiscMakerModel_part_170 (by decide) (fun h_9 => ?_) (fun h_9 => ?_)
          · skip
            have g170_27 : ¬ z.toInt = 28 := fun h8 => h_9 ((i_eq rfl (by decide)).mpr h8)
            refine lv_iconst (v := 0) hx hb d_DiscMakerModel_part_208 (by decide) ?_
            have hP9 := hP.sub (ws' := [(h0, .inr (11, MO ma sv_thrown sv_length sv_nodes sv_many sv_directories sv_runsFrom sv_runs sv_read sv_wrong sv_isNamed sv_goes sv_goesSize sv_goesAt sv_targetParts sv_isRoot)), ((ma 16), .inl (cJ, 46080, .inr (.inl F))), ((ma 25), .inl (cI, 100, .inl fM)), ((ma 26), .inl (cI, 100, .inl fO)), ((ma 27), .inl (cI, 100, .inl fG)), ((ma 28), .inl (cB, 6000, .inl fN)), ((ma 29), .inl (cI, 100, .inl fNS)), ((ma 30), .inl (cB, 40000, .inl fT)), ((ma 31), .inl (cI, 100, .inl fTS))]) [7, 8, 0, 1, 2, 3, 4, 5, 6] rfl
            have hD9 := hD.sub (ws' := [(h0, .inr (11, MO ma sv_thrown sv_length sv_nodes sv_many sv_directories sv_runsFrom sv_runs sv_read sv_wrong sv_isNamed sv_goes sv_goesSize sv_goesAt sv_targetParts sv_isRoot)), ((ma 16), .inl (cJ, 46080, .inr (.inl F))), ((ma 25), .inl (cI, 100, .inl fM)), ((ma 26), .inl (cI, 100, .inl fO)), ((ma 27), .inl (cI, 100, .inl fG)), ((ma 28), .inl (cB, 6000, .inl fN)), ((ma 29), .inl (cI, 100, .inl fNS)), ((ma 30), .inl (cB, 40000, .inl fT)), ((ma 31), .inl (cI, 100, .inl fTS))]) [7, 8, 0, 1, 2, 3, 4, 5, 6] (by decide +kernel) rfl
            exact W.zret (v := 0) hx hb hr (by first | rfl | decide | exact i_narZ (by omega)) (fun t ht hW => ⟨⟨0, (sv_isNamed, sv_goes, sv_goesSize, sv_goesAt, sv_targetParts, sv_isRoot, fM, fO, fG, fN, fNS, fT, fTS), rfl, ⟨(by (try dsimp only); first | assumption | omega | trivial), (by (try dsimp only); first | assumption | omega | trivial), (by (try dsimp only); first | assumption | omega | trivial), (by (try dsimp only); first | assumption | omega | trivial)⟩, by rw [ht]; exact hP9, hD9⟩, hS.F ht⟩) hS.2.2 d_DiscMakerModel_part_209
          · skip
            have g170_27 : z.toInt = 28 := (i_eq rfl (by decide)).mp h_9
            refine lv_aload_n hx hb d_DiscMakerModel_part_173 rfl (lv_at hl 0 rfl) ?_
            refine lv_iload_n hx hb d_DiscMakerModel_part_174 rfl (lv_at hl 2 rfl) ?_
            refine lv_iconst (v := 4) hx hb d_DiscMakerModel_part_175 (by decide) ?_
            refine lv_iadd hx hb d_DiscMakerModel_part_176 ?_
            refine lv_topi (fun v9 e_v9 => ?_)
            have t_v9 : v9.toInt = y.toInt + 4 := by rw [e_v9]; exact i_add rfl (by decide) (by omega) (by omega)
            refine lv_iconst (v := 4) hx hb d_DiscMakerModel_part_177 (by decide) ?_
            have hPc := hP.sub (ws' := [(h0, .inr (11, MO ma sv_thrown sv_length sv_nodes sv_many sv_directories sv_runsFrom sv_runs sv_read sv_wrong sv_isNamed sv_goes sv_goesSize sv_goesAt sv_targetParts sv_isRoot)), ((ma 16), .inl (cJ, 46080, .inr (.inl F)))]) [7, 8] rfl
            have hDc := hD.sub (ws' := [(h0, .inr (11, MO ma sv_thrown sv_length sv_nodes sv_many sv_directories sv_runsFrom sv_runs sv_read sv_wrong sv_isNamed sv_goes sv_goesSize sv_goesAt sv_targetParts sv_isRoot)), ((ma 16), .inl (cJ, 46080, .inr (.inl F)))]) [7, 8] (by decide +kernel) rfl
            have hFc := va_free (wc := [(h0, .inr (11, MO ma sv_thrown sv_length sv_nodes sv_many sv_directories sv_runsFrom sv_runs sv_read sv_wrong sv_isNamed sv_goes sv_goesSize sv_goesAt sv_targetParts sv_isRoot)), ((ma 16), .inl (cJ, 46080, .inr (.inl F)))]) hD hS hA [7, 8] rfl
            have hkc : 0 ≤ 0 := by decide
            have hks : 0 ≤ 0 := by decide
            refine va_calli (va_runV (C := "DiscMakerModel") (As := [.int v9, .int 4]) (rest := []) ⟨hx, hb, hml, hown, hts⟩ (m_isBoth l D cB cI cJ cZ cN cF H.size h0 ma sv_thrown sv_length sv_nodes sv_many sv_directories sv_runsFrom sv_runs sv_read sv_wrong sv_isNamed sv_goes sv_goesSize sv_goesAt sv_targetParts sv_isRoot F v9 4 (by (try dsimp only); first | assumption | omega | trivial) (by (try dsimp only); first | assumption | omega | trivial) (by (try dsimp only); first | assumption | omega | trivial)) (cwV 2 hts (lg_goodV k1837 k1839 k99 k125 kc_DiscMakerModel_isBoth) rfl rfl rfl (by decide +kernel) ⟨Nat.le_of_ble_eq_true rfl, Nat.le_of_ble_eq_true rfl⟩) ⟨fun a U g mk q => by obtain ⟨q0, q1, qP, qK, qN, qD⟩ := q; exact ⟨q0, q1, qP, va_K.moved (u := U) (U := U.calling g mk a) (Vm.Alike.refl U.vm) qK, qN.calling, qD⟩, va_recv hK hP (ci := 11) (q0 := 7) rfl rfl, fun U hU hW => ⟨rfl, by rw [hU], by rw [hU]; exact hPc, va_K.moved hW.alike hK, NN.warm hW hN, hDc.weaken (fun _ _ _ _ => trivial)⟩⟩ rfl rfl hl.1 rfl (lv_room (Nat.le_of_ble_eq_true rfl)) d_DiscMakerModel_part_178 ⟨hkc, hks⟩) hS (fun q _ h => hFc q h) hFc (fun r10 u t H1 locs ht hvm hp_r10 hB hz1 hk1 hS => ?_)
            obtain ⟨hP1, hD1⟩ := hB
            rw [ht] at hP1
            obtain ⟨hP, hD⟩ := va_join (wr := [((ma 25), .inl (cI, 100, .inl fM)), ((ma 26), .inl (cI, 100, .inl fO)), ((ma 27), .inl (cI, 100, .inl fG)), ((ma 28), .inl (cB, 6000, .inl fN)), ((ma 29), .inl (cI, 100, .inl fNS)), ((ma 30), .inl (cB, 40000, .inl fT)), ((ma 31), .inl (cI, 100, .inl fTS))]) (w1 := [(h0, .inr (11, MO ma sv_thrown sv_length sv_nodes sv_many sv_directories sv_runsFrom sv_runs sv_read sv_wrong sv_isNamed sv_goes sv_goesSize sv_goesAt sv_targetParts sv_isRoot)), ((ma 16), .inl (cJ, 46080, .inr (.inl F)))]) hP hD [7, 8] [0, 1, 2, 3, 4, 5, 6] rfl rfl (by decide +kernel) (by decide +kernel) hk1 hFc hP1 hD1
            clear hPc hDc hFc hP1 hD1 hk1 hz1 hkc hks
            generalize H1 = H at hP hS ⊢
            have hP : va_P D CL [((ma 25), .inl (cI, 100, .inl fM)), ((ma 26), .inl (cI, 100, .inl fO)), ((ma 27), .inl (cI, 100, .inl fG)), ((ma 28), .inl (cB, 6000, .inl fN)), ((ma 29), .inl (cI, 100, .inl fNS)), ((ma 30), .inl (cB, 40000, .inl fT)), ((ma 31), .inl (cI, 100, .inl fTS)), (h0, .inr (11, MO ma sv_thrown sv_length sv_nodes sv_many sv_directories sv_runsFrom sv_runs sv_read sv_wrong sv_isNamed sv_goes sv_goesSize sv_goesAt sv_targetParts sv_isRoot)), ((ma 16), .inl (cJ, 46080, .inr (.inl F)))] H := hP
            have hD : va_D A [((ma 25), .inl (cI, 100, .inl fM)), ((ma 26), .inl (cI, 100, .inl fO)), ((ma 27), .inl (cI, 100, .inl fG)), ((ma 28), .inl (cB, 6000, .inl fN)), ((ma 29), .inl (cI, 100, .inl fNS)), ((ma 30), .inl (cB, 40000, .inl fT)), ((ma 31), .inl (cI, 100, .inl fTS)), (h0, .inr (11, MO ma sv_thrown sv_length sv_nodes sv_many sv_directories sv_runsFrom sv_runs sv_read sv_wrong sv_isNamed sv_goes sv_goesSize sv_goesAt sv_targetParts sv_isRoot)), ((ma 16), .inl (cJ, 46080, .inr (.inl F)))] := hD
            try dsimp only at hp_r10
            have hr_11 := hp_r10
            refine lv_if_eq (tgt := 208) hx hb d_DiscMakerModel_part_181 (by decide) (fun h_9 => ?_) (fun h_9 => ?_)
            · skip
              have g181_36 : r10.toInt = 0 := (i_eq rfl (by decide)).mp h_9
              refine lv_iconst (v := 0) hx hb d_DiscMakerModel_part_208 (by decide) ?_
              have hP9 := hP.sub (ws' := [(h0, .inr (11, MO ma sv_thrown sv_length sv_nodes sv_many sv_directories sv_runsFrom sv_runs sv_read sv_wrong sv_isNamed sv_goes sv_goesSize sv_goesAt sv_targetParts sv_isRoot)), ((ma 16), .inl (cJ, 46080, .inr (.inl F))), ((ma 25), .inl (cI, 100, .inl fM)), ((ma 26), .inl (cI, 100, .inl fO)), ((ma 27), .inl (cI, 100, .inl fG)), ((ma 28), .inl (cB, 6000, .inl fN)), ((ma 29), .inl (cI, 100, .inl fNS)), ((ma 30), .inl (cB, 40000, .inl fT)), ((ma 31), .inl (cI, 100, .inl fTS))]) [7, 8, 0, 1, 2, 3, 4, 5, 6] rfl
              have hD9 := hD.sub (ws' := [(h0, .inr (11, MO ma sv_thrown sv_length sv_nodes sv_many sv_directories sv_runsFrom sv_runs sv_read sv_wrong sv_isNamed sv_goes sv_goesSize sv_goesAt sv_targetParts sv_isRoot)), ((ma 16), .inl (cJ, 46080, .inr (.inl F))), ((ma 25), .inl (cI, 100, .inl fM)), ((ma 26), .inl (cI, 100, .inl fO)), ((ma 27), .inl (cI, 100, .inl fG)), ((ma 28), .inl (cB, 6000, .inl fN)), ((ma 29), .inl (cI, 100, .inl fNS)), ((ma 30), .inl (cB, 40000, .inl fT)), ((ma 31), .inl (cI, 100, .inl fTS))]) [7, 8, 0, 1, 2, 3, 4, 5, 6] (by decide +kernel) rfl
              exact W.zret (v := 0) hx hb hr (by first | rfl | decide | exact i_narZ (by omega)) (fun t ht hW => ⟨⟨0, (sv_isNamed, sv_goes, sv_goesSize, sv_goesAt, sv_targetParts, sv_isRoot, fM, fO, fG, fN, fNS, fT, fTS), rfl, ⟨(by (try dsimp only); first | assumption | omega | trivial), (by (try dsimp only); first | assumption | omega | trivial), (by (try dsimp only); first | assumption | omega | trivial), (by (try dsimp only); first | assumption | omega | trivial)⟩, by rw [ht]; exact hP9, hD9⟩, hS.F ht⟩) hS.2.2 d_DiscMakerModel_part_209
            · skip
              have g181_36 : ¬ r10.toInt = 0 := fun h8 => h_9 ((i_eq rfl (by decide)).mpr h8)
              refine lv_aload_n hx hb d_DiscMakerModel_part_184 rfl (lv_at hl 0 rfl) ?_
              refine lv_iload_n hx hb d_DiscMakerModel_part_185 rfl (lv_at hl 2 rfl) ?_
              refine lv_bipush (v := 12) hx hb d_DiscMakerModel_part_186 (by decide) ?_
              refine lv_iadd hx hb d_DiscMakerModel_part_188 ?_
              refine lv_topi (fun v12 e_v12 => ?_)
              have t_v12 : v12.toInt = y.toInt + 12 := by rw [e_v12]; exact i_add rfl (by decide) (by omega) (by omega)
              refine lv_iconst (v := 4) hx hb d_DiscMakerModel_part_189 (by decide) ?_
              have hPc := hP.sub (ws' := [(h0, .inr (11, MO ma sv_thrown sv_length sv_nodes sv_many sv_directories sv_runsFrom sv_runs sv_read sv_wrong sv_isNamed sv_goes sv_goesSize sv_goesAt sv_targetParts sv_isRoot)), ((ma 16), .inl (cJ, 46080, .inr (.inl F)))]) [7, 8] rfl
              have hDc := hD.sub (ws' := [(h0, .inr (11, MO ma sv_thrown sv_length sv_nodes sv_many sv_directories sv_runsFrom sv_runs sv_read sv_wrong sv_isNamed sv_goes sv_goesSize sv_goesAt sv_targetParts sv_isRoot)), ((ma 16), .inl (cJ, 46080, .inr (.inl F)))]) [7, 8] (by decide +kernel) rfl
              have hFc := va_free (wc := [(h0, .inr (11, MO ma sv_thrown sv_length sv_nodes sv_many sv_directories sv_runsFrom sv_runs sv_read sv_wrong sv_isNamed sv_goes sv_goesSize sv_goesAt sv_targetParts sv_isRoot)), ((ma 16), .inl (cJ, 46080, .inr (.inl F)))]) hD hS hA [7, 8] rfl
              have hkc : 0 ≤ 0 := by decide
              have hks : 0 ≤ 0 := by decide
              refine va_calli (va_runV (C := "DiscMakerModel") (As := [.int v12, .int 4]) (rest := []) ⟨hx, hb, hml, hown, hts⟩ (m_isBoth l D cB cI cJ cZ cN cF H.size h0 ma sv_thrown sv_length sv_nodes sv_many sv_directories sv_runsFrom sv_runs sv_read sv_wrong sv_isNamed sv_goes sv_goesSize sv_goesAt sv_targetParts sv_isRoot F v12 4 (by (try dsimp only); first | assumption | omega | trivial) (by (try dsimp only); first | assumption | omega | trivial) (by (try dsimp only); first | assumption | omega | trivial)) (cwV 2 hts (lg_goodV k1837 k1839 k99 k125 kc_DiscMakerModel_isBoth) rfl rfl rfl (by decide +kernel) ⟨Nat.le_of_ble_eq_true rfl, Nat.le_of_ble_eq_true rfl⟩) ⟨fun a U g mk q => by obtain ⟨q0, q1, qP, qK, qN, qD⟩ := q; exact ⟨q0, q1, qP, va_K.moved (u := U) (U := U.calling g mk a) (Vm.Alike.refl U.vm) qK, qN.calling, qD⟩, va_recv hK hP (ci := 11) (q0 := 7) rfl rfl, fun U hU hW => ⟨rfl, by rw [hU], by rw [hU]; exact hPc, va_K.moved hW.alike hK, NN.warm hW hN, hDc.weaken (fun _ _ _ _ => trivial)⟩⟩ rfl rfl hl.1 rfl (lv_room (Nat.le_of_ble_eq_true rfl)) d_DiscMakerModel_part_190 ⟨hkc, hks⟩) hS (fun q _ h => hFc q h) hFc (fun r13 u t H1 locs ht hvm hp_r13 hB hz1 hk1 hS => ?_)
              obtain ⟨hP1, hD1⟩ := hB
              rw [ht] at hP1
              obtain ⟨hP, hD⟩ := va_join (wr := [((ma 25), .inl (cI, 100, .inl fM)), ((ma 26), .inl (cI, 100, .inl fO)), ((ma 27), .inl (cI, 100, .inl fG)), ((ma 28), .inl (cB, 6000, .inl fN)), ((ma 29), .inl (cI, 100, .inl fNS)), ((ma 30), .inl (cB, 40000, .inl fT)), ((ma 31), .inl (cI, 100, .inl fTS))]) (w1 := [(h0, .inr (11, MO ma sv_thrown sv_length sv_nodes sv_many sv_directories sv_runsFrom sv_runs sv_read sv_wrong sv_isNamed sv_goes sv_goesSize sv_goesAt sv_targetParts sv_isRoot)), ((ma 16), .inl (cJ, 46080, .inr (.inl F)))]) hP hD [7, 8] [0, 1, 2, 3, 4, 5, 6] rfl rfl (by decide +kernel) (by decide +kernel) hk1 hFc hP1 hD1
              clear hPc hDc hFc hP1 hD1 hk1 hz1 hkc hks
              generalize H1 = H at hP hS ⊢
              have hP : va_P D CL [((ma 25), .inl (cI, 100, .inl fM)), ((ma 26), .inl (cI, 100, .inl fO)), ((ma 27), .inl (cI, 100, .inl fG)), ((ma 28), .inl (cB, 6000, .inl fN)), ((ma 29), .inl (cI, 100, .inl fNS)), ((ma 30), .inl (cB, 40000, .inl fT)), ((ma 31), .inl (cI, 100, .inl fTS)), (h0, .inr (11, MO ma sv_thrown sv_length sv_nodes sv_many sv_directories sv_runsFrom sv_runs sv_read sv_wrong sv_isNamed sv_goes sv_goesSize sv_goesAt sv_targetParts sv_isRoot)), ((ma 16), .inl (cJ, 46080, .inr (.inl F)))] H := hP
              have hD : va_D A [((ma 25), .inl (cI, 100, .inl fM)), ((ma 26), .inl (cI, 100, .inl fO)), ((ma 27), .inl (cI, 100, .inl fG)), ((ma 28), .inl (cB, 6000, .inl fN)), ((ma 29), .inl (cI, 100, .inl fNS)), ((ma 30), .inl (cB, 40000, .inl fT)), ((ma 31), .inl (cI, 100, .inl fTS)), (h0, .inr (11, MO ma sv_thrown sv_length sv_nodes sv_many sv_directories sv_runsFrom sv_runs sv_read sv_wrong sv_isNamed sv_goes sv_goesSize sv_goesAt sv_targetParts sv_isRoot)), ((ma 16), .inl (cJ, 46080, .inr (.inl F)))] := hD
              try dsimp only at hp_r13
              have hr_14 := hp_r13
              refine lv_if_eq (tgt := 208) hx hb d_DiscMakerModel_part_193 (by decide) (fun h_9 => ?_) (fun h_9 => ?_)
              · skip
                have g193_45 : r13.toInt = 0 := (i_eq rfl (by decide)).mp h_9
                refine lv_iconst (v := 0) hx hb d_DiscMakerModel_part_208 (by decide) ?_
                have hP9 := hP.sub (ws' := [(h0, .inr (11, MO ma sv_thrown sv_length sv_nodes sv_many sv_directories sv_runsFrom sv_runs sv_read sv_wrong sv_isNamed sv_goes sv_goesSize sv_goesAt sv_targetParts sv_isRoot)), ((ma 16), .inl (cJ, 46080, .inr (.inl F))), ((ma 25), .inl (cI, 100, .inl fM)), ((ma 26), .inl (cI, 100, .inl fO)), ((ma 27), .inl (cI, 100, .inl fG)), ((ma 28), .inl (cB, 6000, .inl fN)), ((ma 29), .inl (cI, 100, .inl fNS)), ((ma 30), .inl (cB, 40000, .inl fT)), ((ma 31), .inl (cI, 100, .inl fTS))]) [7, 8, 0, 1, 2, 3, 4, 5, 6] rfl
                have hD9 := hD.sub (ws' := [(h0, .inr (11, MO ma sv_thrown sv_length sv_nodes sv_many sv_directories sv_runsFrom sv_runs sv_read sv_wrong sv_isNamed sv_goes sv_goesSize sv_goesAt sv_targetParts sv_isRoot)), ((ma 16), .inl (cJ, 46080, .inr (.inl F))), ((ma 25), .inl (cI, 100, .inl fM)), ((ma 26), .inl (cI, 100, .inl fO)), ((ma 27), .inl (cI, 100, .inl fG)), ((ma 28), .inl (cB, 6000, .inl fN)), ((ma 29), .inl (cI, 100, .inl fNS)), ((ma 30), .inl (cB, 40000, .inl fT)), ((ma 31), .inl (cI, 100, .inl fTS))]) [7, 8, 0, 1, 2, 3, 4, 5, 6] (by decide +kernel) rfl
                exact W.zret (v := 0) hx hb hr (by first | rfl | decide | exact i_narZ (by omega)) (fun t ht hW => ⟨⟨0, (sv_isNamed, sv_goes, sv_goesSize, sv_goesAt, sv_targetParts, sv_isRoot, fM, fO, fG, fN, fNS, fT, fTS), rfl, ⟨(by (try dsimp only); first | assumption | omega | trivial), (by (try dsimp only); first | assumption | omega | trivial), (by (try dsimp only); first | assumption | omega | trivial), (by (try dsimp only); first | assumption | omega | trivial)⟩, by rw [ht]; exact hP9, hD9⟩, hS.F ht⟩) hS.2.2 d_DiscMakerModel_part_209
              · skip
                have g193_45 : ¬ r13.toInt = 0 := fun h8 => h_9 ((i_eq rfl (by decide)).mpr h8)
                refine lv_aload_n hx hb d_DiscMakerModel_part_196 rfl (lv_at hl 0 rfl) ?_
                refine lv_iload_n hx hb d_DiscMakerModel_part_197 rfl (lv_at hl 2 rfl) ?_
                refine lv_bipush (v := 20) hx hb d_DiscMakerModel_part_198 (by decide) ?_
                refine lv_iadd hx hb d_DiscMakerModel_part_200 ?_
                refine lv_topi (fun v15 e_v15 => ?_)
                have t_v15 : v15.toInt = y.toInt + 20 := by rw [e_v15]; exact i_add rfl (by decide) (by omega) (by omega)
                refine lv_iconst (v := 4) hx hb d_DiscMakerModel_part_201 (by decide) ?_
                have hPc := hP.sub (ws' := [(h0, .inr (11, MO ma sv_thrown sv_length sv_nodes sv_many sv_directories sv_runsFrom sv_runs sv_read sv_wrong sv_isNamed sv_goes sv_goesSize sv_goesAt sv_targetParts sv_isRoot)), ((ma 16), .inl (cJ, 46080, .inr (.inl F)))]) [7, 8] rfl
                have hDc := hD.sub (ws' := [(h0, .inr (11, MO ma sv_thrown sv_length sv_nodes sv_many sv_directories sv_runsFrom sv_runs sv_read sv_wrong sv_isNamed sv_goes sv_goesSize sv_goesAt sv_targetParts sv_isRoot)), ((ma 16), .inl (cJ, 46080, .inr (.inl F)))]) [7, 8] (by decide +kernel) rfl
                have hFc := va_free (wc := [(h0, .inr (11, MO ma sv_thrown sv_length sv_nodes sv_many sv_directories sv_runsFrom sv_runs sv_read sv_wrong sv_isNamed sv_goes sv_goesSize sv_goesAt sv_targetParts sv_isRoot)), ((ma 16), .inl (cJ, 46080, .inr (.inl F)))]) hD hS hA [7, 8] rfl
                have hkc : 0 ≤ 0 := by decide
                have hks : 0 ≤ 0 := by decide
                refine va_calli (va_runV (C := "DiscMakerModel") (As := [.int v15, .int 4]) (rest := []) ⟨hx, hb, hml, hown, hts⟩ (m_isBoth l D cB cI cJ cZ cN cF H.size h0 ma sv_thrown sv_length sv_nodes sv_many sv_directories sv_runsFrom sv_runs sv_read sv_wrong sv_isNamed sv_goes sv_goesSize sv_goesAt sv_targetParts sv_isRoot F v15 4 (by (try dsimp only); first | assumption | omega | trivial) (by (try dsimp only); first | assumption | omega | trivial) (by (try dsimp only); first | assumption | omega | trivial)) (cwV 2 hts (lg_goodV k1837 k1839 k99 k125 kc_DiscMakerModel_isBoth) rfl rfl rfl (by decide +kernel) ⟨Nat.le_of_ble_eq_true rfl, Nat.le_of_ble_eq_true rfl⟩) ⟨fun a U g mk q => by obtain ⟨q0, q1, qP, qK, qN, qD⟩ := q; exact ⟨q0, q1, qP, va_K.moved (u := U) (U := U.calling g mk a) (Vm.Alike.refl U.vm) qK, qN.calling, qD⟩, va_recv hK hP (ci := 11) (q0 := 7) rfl rfl, fun U hU hW => ⟨rfl, by rw [hU], by rw [hU]; exact hPc, va_K.moved hW.alike hK, NN.warm hW hN, hDc.weaken (fun _ _ _ _ => trivial)⟩⟩ rfl rfl hl.1 rfl (lv_room (Nat.le_of_ble_eq_true rfl)) d_DiscMakerModel_part_202 ⟨hkc, hks⟩) hS (fun q _ h => hFc q h) hFc (fun r16 u t H1 locs ht hvm hp_r16 hB hz1 hk1 hS => ?_)
                obtain ⟨hP1, hD1⟩ := hB
                rw [ht] at hP1
                obtain ⟨hP, hD⟩ := va_join (wr := [((ma 25), .inl (cI, 100, .inl fM)), ((ma 26), .inl (cI, 100, .inl fO)), ((ma 27), .inl (cI, 100, .inl fG)), ((ma 28), .inl (cB, 6000, .inl fN)), ((ma 29), .inl (cI, 100, .inl fNS)), ((ma 30), .inl (cB, 40000, .inl fT)), ((ma 31), .inl (cI, 100, .inl fTS))]) (w1 := [(h0, .inr (11, MO ma sv_thrown sv_length sv_nodes sv_many sv_directories sv_runsFrom sv_runs sv_read sv_wrong sv_isNamed sv_goes sv_goesSize sv_goesAt sv_targetParts sv_isRoot)), ((ma 16), .inl (cJ, 46080, .inr (.inl F)))]) hP hD [7, 8] [0, 1, 2, 3, 4, 5, 6] rfl rfl (by decide +kernel) (by decide +kernel) hk1 hFc hP1 hD1
                clear hPc hDc hFc hP1 hD1 hk1 hz1 hkc hks
                generalize H1 = H at hP hS ⊢
                have hP : va_P D CL [((ma 25), .inl (cI, 100, .inl fM)), ((ma 26), .inl (cI, 100, .inl fO)), ((ma 27), .inl (cI, 100, .inl fG)), ((ma 28), .inl (cB, 6000, .inl fN)), ((ma 29), .inl (cI, 100, .inl fNS)), ((ma 30), .inl (cB, 40000, .inl fT)), ((ma 31), .inl (cI, 100, .inl fTS)), (h0, .inr (11, MO ma sv_thrown sv_length sv_nodes sv_many sv_directories sv_runsFrom sv_runs sv_read sv_wrong sv_isNamed sv_goes sv_goesSize sv_goesAt sv_targetParts sv_isRoot)), ((ma 16), .inl (cJ, 46080, .inr (.inl F)))] H := hP
                have hD : va_D A [((ma 25), .inl (cI, 100, .inl fM)), ((ma 26), .inl (cI, 100, .inl fO)), ((ma 27), .inl (cI, 100, .inl fG)), ((ma 28), .inl (cB, 6000, .inl fN)), ((ma 29), .inl (cI, 100, .inl fNS)), ((ma 30), .inl (cB, 40000, .inl fT)), ((ma 31), .inl (cI, 100, .inl fTS)), (h0, .inr (11, MO ma sv_thrown sv_length sv_nodes sv_many sv_directories sv_runsFrom sv_runs sv_read sv_wrong sv_isNamed sv_goes sv_goesSize sv_goesAt sv_targetParts sv_isRoot)), ((ma 16), .inl (cJ, 46080, .inr (.inl F)))] := hD
                try dsimp only at hp_r16
                have hr_17 := hp_r16
                refine lv_if_ne (tgt := 210) hx hb d_DiscMakerModel_part_205 (by decide) (fun h_9 => ?_) (fun h_9 => ?_)
                · skip
                  have g205_54 : ¬ r16.toInt = 0 := fun h8 => h_9 ((i_eq rfl (by decide)).mpr h8)
                  refine lv_aload_n hx hb d_DiscMakerModel_part_210 rfl (lv_at hl 0 rfl) ?_
                  refine lv_iload_n hx hb d_DiscMakerModel_part_211 rfl (lv_at hl 2 rfl) ?_
                  refine lv_iconst (v := 4) hx hb d_DiscMakerModel_part_212 (by decide) ?_
                  refine lv_iadd hx hb d_DiscMakerModel_part_213 ?_
                  refine lv_topi (fun v18 e_v18 => ?_)
                  have t_v18 : v18.toInt = y.toInt + 4 := by rw [e_v18]; exact i_add rfl (by decide) (by omega) (by omega)
                  refine lv_iconst (v := 4) hx hb d_DiscMakerModel_part_214 (by decide) ?_
                  have hPc := hP.sub (ws' := [(h0, .inr (11, MO ma sv_thrown sv_length sv_nodes sv_many sv_directories sv_runsFrom sv_runs sv_read sv_wrong sv_isNamed sv_goes sv_goesSize sv_goesAt sv_targetParts sv_isRoot)), ((ma 16), .inl (cJ, 46080, .inr (.inl F)))]) [7, 8] rfl
                  have hDc := hD.sub (ws' := [(h0, .inr (11, MO ma sv_thrown sv_length sv_nodes sv_many sv_directories sv_runsFrom sv_runs sv_read sv_wrong sv_isNamed sv_goes sv_goesSize sv_goesAt sv_targetParts sv_isRoot)), ((ma 16), .inl (cJ, 46080, .inr (.inl F)))]) [7, 8] (by decide +kernel) rfl
                  have hFc := va_free (wc := [(h0, .inr (11, MO ma sv_thrown sv_length sv_nodes sv_many sv_directories sv_runsFrom sv_runs sv_read sv_wrong sv_isNamed sv_goes sv_goesSize sv_goesAt sv_targetParts sv_isRoot)), ((ma 16), .inl (cJ, 46080, .inr (.inl F)))]) hD hS hA [7, 8] rfl
                  have hkc : 0 ≤ 0 := by decide
                  have hks : 0 ≤ 0 := by decide
                  refine va_calli (va_runV (C := "DiscMakerModel") (As := [.int v18, .int 4]) (rest := []) ⟨hx, hb, hml, hown, hts⟩ (m_lowAt4 l D cB cI cJ cZ cN cF H.size h0 ma sv_thrown sv_length sv_nodes sv_many sv_directories sv_runsFrom sv_runs sv_read sv_wrong sv_isNamed sv_goes sv_goesSize sv_goesAt sv_targetParts sv_isRoot F v18 (by (try dsimp only); first | assumption | omega | trivial) (by (try dsimp only); first | assumption | omega | trivial)) (cwV 2 hts (lg_goodV k1841 k1843 k100 k125 kc_DiscMakerModel_lowAt) rfl rfl rfl (by decide +kernel) ⟨Nat.le_of_ble_eq_true rfl, Nat.le_of_ble_eq_true rfl⟩) ⟨fun a U g mk q => by obtain ⟨q0, q1, qP, qK, qN, qD⟩ := q; exact ⟨q0, q1, qP, va_K.moved (u := U) (U := U.calling g mk a) (Vm.Alike.refl U.vm) qK, qN.calling, qD⟩, va_recv hK hP (ci := 11) (q0 := 7) rfl rfl, fun U hU hW => ⟨rfl, by rw [hU], by rw [hU]; exact hPc, va_K.moved hW.alike hK, NN.warm hW hN, hDc.weaken (fun _ _ _ _ => trivial)⟩⟩ rfl rfl hl.1 rfl (lv_room (Nat.le_of_ble_eq_true rfl)) d_DiscMakerModel_part_215 ⟨hkc, hks⟩) hS (fun q _ h => hFc q h) hFc (fun r19 u t H1 locs ht hvm hp_r19 hB hz1 hk1 hS => ?_)
                  obtain ⟨hP1, hD1⟩ := hB
                  rw [ht] at hP1
                  obtain ⟨hP, hD⟩ := va_join (wr := [((ma 25), .inl (cI, 100, .inl fM)), ((ma 26), .inl (cI, 100, .inl fO)), ((ma 27), .inl (cI, 100, .inl fG)), ((ma 28), .inl (cB, 6000, .inl fN)), ((ma 29), .inl (cI, 100, .inl fNS)), ((ma 30), .inl (cB, 40000, .inl fT)), ((ma 31), .inl (cI, 100, .inl fTS))]) (w1 := [(h0, .inr (11, MO ma sv_thrown sv_length sv_nodes sv_many sv_directories sv_runsFrom sv_runs sv_read sv_wrong sv_isNamed sv_goes sv_goesSize sv_goesAt sv_targetParts sv_isRoot)), ((ma 16), .inl (cJ, 46080, .inr (.inl F)))]) hP hD [7, 8] [0, 1, 2, 3, 4, 5, 6] rfl rfl (by decide +kernel) (by decide +kernel) hk1 hFc hP1 hD1
                  clear hPc hDc hFc hP1 hD1 hk1 hz1 hkc hks
                  generalize H1 = H at hP hS ⊢
                  have hP : va_P D CL [((ma 25), .inl (cI, 100, .inl fM)), ((ma 26), .inl (cI, 100, .inl fO)), ((ma 27), .inl (cI, 100, .inl fG)), ((ma 28), .inl (cB, 6000, .inl fN)), ((ma 29), .inl (cI, 100, .inl fNS)), ((ma 30), .inl (cB, 40000, .inl fT)), ((ma 31), .inl (cI, 100, .inl fTS)), (h0, .inr (11, MO ma sv_thrown sv_length sv_nodes sv_many sv_directories sv_runsFrom sv_runs sv_read sv_wrong sv_isNamed sv_goes sv_goesSize sv_goesAt sv_targetParts sv_isRoot)), ((ma 16), .inl (cJ, 46080, .inr (.inl F)))] H := hP
                  have hD : va_D A [((ma 25), .inl (cI, 100, .inl fM)), ((ma 26), .inl (cI, 100, .inl fO)), ((ma 27), .inl (cI, 100, .inl fG)), ((ma 28), .inl (cB, 6000, .inl fN)), ((ma 29), .inl (cI, 100, .inl fNS)), ((ma 30), .inl (cB, 40000, .inl fT)), ((ma 31), .inl (cI, 100, .inl fTS)), (h0, .inr (11, MO ma sv_thrown sv_length sv_nodes sv_many sv_directories sv_runsFrom sv_runs sv_read sv_wrong sv_isNamed sv_goes sv_goesSize sv_goesAt sv_targetParts sv_isRoot)), ((ma 16), .inl (cJ, 46080, .inr (.inl F)))] := hD
                  try dsimp only at hp_r19
                  have hv_20 := hp_r19
                  refine lv_istore hx hb d_DiscMakerModel_part_218 hl (by decide) rfl (fun ls hl => ?_)
                  have hl : lv_has ls 7 [(4, .int r19), (0, .ref h0), (1, .int x), (2, .int y), (3, .int z)] := hl
                  refine lv_aload_n hx hb d_DiscMakerModel_part_220 rfl (lv_at hl 1 rfl) ?_
                  refine lv_iload_n hx hb d_DiscMakerModel_part_221 rfl (lv_at hl 3 rfl) ?_
                  refine lv_bipush (v := 12) hx hb d_DiscMakerModel_part_222 (by decide) ?_
                  refine lv_iadd hx hb d_DiscMakerModel_part_224 ?_
                  refine lv_topi (fun v21 e_v21 => ?_)
                  have t_v21 : v21.toInt = y.toInt + 12 := by rw [e_v21]; exact i_add rfl (by decide) (by omega) (by omega)
                  refine lv_iconst (v := 4) hx hb d_DiscMakerModel_part_225 (by decide) ?_
                  have hPc := hP.sub (ws' := [(h0, .inr (11, MO ma sv_thrown sv_length sv_nodes sv_many sv_directories sv_runsFrom sv_runs sv_read sv_wrong sv_isNamed sv_goes sv_goesSize sv_goesAt sv_targetParts sv_isRoot)), ((ma 16), .inl (cJ, 46080, .inr (.inl F)))]) [7, 8] rfl
                  have hDc := hD.sub (ws' := [(h0, .inr (11, MO ma sv_thrown sv_length sv_nodes sv_many sv_directories sv_runsFrom sv_runs sv_read sv_wrong sv_isNamed sv_goes sv_goesSize sv_goesAt sv_targetParts sv_isRoot)), ((ma 16), .inl (cJ, 46080, .inr (.inl F)))]) [7, 8] (by decide +kernel) rfl
                  have hFc := va_free (wc := [(h0, .inr (11, MO ma sv_thrown sv_length sv_nodes sv_many sv_directories sv_runsFrom sv_runs sv_read sv_wrong sv_isNamed sv_goes sv_goesSize sv_goesAt sv_targetParts sv_isRoot)), ((ma 16), .inl (cJ, 46080, .inr (.inl F)))]) hD hS hA [7, 8] rfl
                  have hkc : 0 ≤ 0 := by decide
                  have hks : 0 ≤ 0 := by decide
                  refine va_calli (va_runV (C := "DiscMakerModel") (As := [.int v21, .int 4]) (rest := []) ⟨hx, hb, hml, hown, hts⟩ (m_lowAt4 l D cB cI cJ cZ cN cF H.size h0 ma sv_thrown sv_length sv_nodes sv_many sv_directories sv_runsFrom sv_runs sv_read sv_wrong sv_isNamed sv_goes sv_goesSize sv_goesAt sv_targetParts sv_isRoot F v21 (by (try dsimp only); first | assumption | omega | trivial) (by (try dsimp only); first | assumption | omega | trivial)) (cwV 2 hts (lg_goodV k1841 k1843 k100 k125 kc_DiscMakerModel_lowAt) rfl rfl rfl (by decide +kernel) ⟨Nat.le_of_ble_eq_true rfl, Nat.le_of_ble_eq_true rfl⟩) ⟨fun a U g mk q => by obtain ⟨q0, q1, qP, qK, qN, qD⟩ := q; exact ⟨q0, q1, qP, va_K.moved (u := U) (U := U.calling g mk a) (Vm.Alike.refl U.vm) qK, qN.calling, qD⟩, va_recv hK hP (ci := 11) (q0 := 7) rfl rfl, fun U hU hW => ⟨rfl, by rw [hU], by rw [hU]; exact hPc, va_K.moved hW.alike hK, NN.warm hW hN, hDc.weaken (fun _ _ _ _ => trivial)⟩⟩ rfl rfl hl.1 rfl (lv_room (Nat.le_of_ble_eq_true rfl)) d_DiscMakerModel_part_226 ⟨hkc, hks⟩) hS (fun q _ h => hFc q h) hFc (fun r22 u t H1 locs ht hvm hp_r22 hB hz1 hk1 hS => ?_)
                  obtain ⟨hP1, hD1⟩ := hB
                  rw [ht] at hP1
                  obtain ⟨hP, hD⟩ := va_join (wr := [((ma 25), .inl (cI, 100, .inl fM)), ((ma 26), .inl (cI, 100, .inl fO)), ((ma 27), .inl (cI, 100, .inl fG)), ((ma 28), .inl (cB, 6000, .inl fN)), ((ma 29), .inl (cI, 100, .inl fNS)), ((ma 30), .inl (cB, 40000, .inl fT)), ((ma 31), .inl (cI, 100, .inl fTS))]) (w1 := [(h0, .inr (11, MO ma sv_thrown sv_length sv_nodes sv_many sv_directories sv_runsFrom sv_runs sv_read sv_wrong sv_isNamed sv_goes sv_goesSize sv_goesAt sv_targetParts sv_isRoot)), ((ma 16), .inl (cJ, 46080, .inr (.inl F)))]) hP hD [7, 8] [0, 1, 2, 3, 4, 5, 6] rfl rfl (by decide +kernel) (by decide +kernel) hk1 hFc hP1 hD1
                  clear hPc hDc hFc hP1 hD1 hk1 hz1 hkc hks
                  generalize H1 = H at hP hS ⊢
                  have hP : va_P D CL [((ma 25), .inl (cI, 100, .inl fM)), ((ma 26), .inl (cI, 100, .inl fO)), ((ma 27), .inl (cI, 100, .inl fG)), ((ma 28), .inl (cB, 6000, .inl fN)), ((ma 29), .inl (cI, 100, .inl fNS)), ((ma 30), .inl (cB, 40000, .inl fT)), ((ma 31), .inl (cI, 100, .inl fTS)), (h0, .inr (11, MO ma sv_thrown sv_length sv_nodes sv_many sv_directories sv_runsFrom sv_runs sv_read sv_wrong sv_isNamed sv_goes sv_goesSize sv_goesAt sv_targetParts sv_isRoot)), ((ma 16), .inl (cJ, 46080, .inr (.inl F)))] H := hP
                  have hD : va_D A [((ma 25), .inl (cI, 100, .inl fM)), ((ma 26), .inl (cI, 100, .inl fO)), ((ma 27), .inl (cI, 100, .inl fG)), ((ma 28), .inl (cB, 6000, .inl fN)), ((ma 29), .inl (cI, 100, .inl fNS)), ((ma 30), .inl (cB, 40000, .inl fT)), ((ma 31), .inl (cI, 100, .inl fTS)), (h0, .inr (11, MO ma sv_thrown sv_length sv_nodes sv_many sv_directories sv_runsFrom sv_runs sv_read sv_wrong sv_isNamed sv_goes sv_goesSize sv_goesAt sv_targetParts sv_isRoot)), ((ma 16), .inl (cJ, 46080, .inr (.inl F)))] := hD
                  try dsimp only at hp_r22
                  have hv_23 := hp_r22
                  refine lv_istore hx hb d_DiscMakerModel_part_229 hl (by decide) rfl (fun ls hl => ?_)
                  have hl : lv_has ls 7 [(5, .int r22), (4, .int r19), (0, .ref h0), (1, .int x), (2, .int y), (3, .int z)] := hl
                  refine lv_aload_n hx hb d_DiscMakerModel_part_231 rfl (lv_at hl 2 rfl) ?_
                  refine lv_iload_n hx hb d_DiscMakerModel_part_232 rfl (lv_at hl 4 rfl) ?_
                  refine lv_bipush (v := 20) hx hb d_DiscMakerModel_part_233 (by decide) ?_
                  refine lv_iadd hx hb d_DiscMakerModel_part_235 ?_
                  refine lv_topi (fun v24 e_v24 => ?_)
                  have t_v24 : v24.toInt = y.toInt + 20 := by rw [e_v24]; exact i_add rfl (by decide) (by omega) (by omega)
                  refine lv_iconst (v := 4) hx hb d_DiscMakerModel_part_236 (by decide) ?_
                  have hPc := hP.sub (ws' := [(h0, .inr (11, MO ma sv_thrown sv_length sv_nodes sv_many sv_directories sv_runsFrom sv_runs sv_read sv_wrong sv_isNamed sv_goes sv_goesSize sv_goesAt sv_targetParts sv_isRoot)), ((ma 16), .inl (cJ, 46080, .inr (.inl F)))]) [7, 8] rfl
                  have hDc := hD.sub (ws' := [(h0, .inr (11, MO ma sv_thrown sv_length sv_nodes sv_many sv_directories sv_runsFrom sv_runs sv_read sv_wrong sv_isNamed sv_goes sv_goesSize sv_goesAt sv_targetParts sv_isRoot)), ((ma 16), .inl (cJ, 46080, .inr (.inl F)))]) [7, 8] (by decide +kernel) rfl
                  have hFc := va_free (wc := [(h0, .inr (11, MO ma sv_thrown sv_length sv_nodes sv_many sv_directories sv_runsFrom sv_runs sv_read sv_wrong sv_isNamed sv_goes sv_goesSize sv_goesAt sv_targetParts sv_isRoot)), ((ma 16), .inl (cJ, 46080, .inr (.inl F)))]) hD hS hA [7, 8] rfl
                  have hkc : 0 ≤ 0 := by decide
                  have hks : 0 ≤ 0 := by decide
                  refine va_calli (va_runV (C := "DiscMakerModel") (As := [.int v24, .int 4]) (rest := []) ⟨hx, hb, hml, hown, hts⟩ (m_lowAt4 l D cB cI cJ cZ cN cF H.size h0 ma sv_thrown sv_length sv_nodes sv_many sv_directories sv_runsFrom sv_runs sv_read sv_wrong sv_isNamed sv_goes sv_goesSize sv_goesAt sv_targetParts sv_isRoot F v24 (by (try dsimp only); first | assumption | omega | trivial) (by (try dsimp only); first | assumption | omega | trivial)) (cwV 2 hts (lg_goodV k1841 k1843 k100 k125 kc_DiscMakerModel_lowAt) rfl rfl rfl (by decide +kernel) ⟨Nat.le_of_ble_eq_true rfl, Nat.le_of_ble_eq_true rfl⟩) ⟨fun a U g mk q => by obtain ⟨q0, q1, qP, qK, qN, qD⟩ := q; exact ⟨q0, q1, qP, va_K.moved (u := U) (U := U.calling g mk a) (Vm.Alike.refl U.vm) qK, qN.calling, qD⟩, va_recv hK hP (ci := 11) (q0 := 7) rfl rfl, fun U hU hW => ⟨rfl, by rw [hU], by rw [hU]; exact hPc, va_K.moved hW.alike hK, NN.warm hW hN, hDc.weaken (fun _ _ _ _ => trivial)⟩⟩ rfl rfl hl.1 rfl (lv_room (Nat.le_of_ble_eq_true rfl)) d_DiscMakerModel_part_237 ⟨hkc, hks⟩) hS (fun q _ h => hFc q h) hFc (fun r25 u t H1 locs ht hvm hp_r25 hB hz1 hk1 hS => ?_)
                  obtain ⟨hP1, hD1⟩ := hB
                  rw [ht] at hP1
                  obtain ⟨hP, hD⟩ := va_join (wr := [((ma 25), .inl (cI, 100, .inl fM)), ((ma 26), .inl (cI, 100, .inl fO)), ((ma 27), .inl (cI, 100, .inl fG)), ((ma 28), .inl (cB, 6000, .inl fN)), ((ma 29), .inl (cI, 100, .inl fNS)), ((ma 30), .inl (cB, 40000, .inl fT)), ((ma 31), .inl (cI, 100, .inl fTS))]) (w1 := [(h0, .inr (11, MO ma sv_thrown sv_length sv_nodes sv_many sv_directories sv_runsFrom sv_runs sv_read sv_wrong sv_isNamed sv_goes sv_goesSize sv_goesAt sv_targetParts sv_isRoot)), ((ma 16), .inl (cJ, 46080, .inr (.inl F)))]) hP hD [7, 8] [0, 1, 2, 3, 4, 5, 6] rfl rfl (by decide +kernel) (by decide +kernel) hk1 hFc hP1 hD1
                  clear hPc hDc hFc hP1 hD1 hk1 hz1 hkc hks
                  generalize H1 = H at hP hS ⊢
                  have hP : va_P D CL [((ma 25), .inl (cI, 100, .inl fM)), ((ma 26), .inl (cI, 100, .inl fO)), ((ma 27), .inl (cI, 100, .inl fG)), ((ma 28), .inl (cB, 6000, .inl fN)), ((ma 29), .inl (cI, 100, .inl fNS)), ((ma 30), .inl (cB, 40000, .inl fT)), ((ma 31), .inl (cI, 100, .inl fTS)), (h0, .inr (11, MO ma sv_thrown sv_length sv_nodes sv_many sv_directories sv_runsFrom sv_runs sv_read sv_wrong sv_isNamed sv_goes sv_goesSize sv_goesAt sv_targetParts sv_isRoot)), ((ma 16), .inl (cJ, 46080, .inr (.inl F)))] H := hP
                  have hD : va_D A [((ma 25), .inl (cI, 100, .inl fM)), ((ma 26), .inl (cI, 100, .inl fO)), ((ma 27), .inl (cI, 100, .inl fG)), ((ma 28), .inl (cB, 6000, .inl fN)), ((ma 29), .inl (cI, 100, .inl fNS)), ((ma 30), .inl (cB, 40000, .inl fT)), ((ma 31), .inl (cI, 100, .inl fTS)), (h0, .inr (11, MO ma sv_thrown sv_length sv_nodes sv_many sv_directories sv_runsFrom sv_runs sv_read sv_wrong sv_isNamed sv_goes sv_goesSize sv_goesAt sv_targetParts sv_isRoot)), ((ma 16), .inl (cJ, 46080, .inr (.inl F)))] := hD
                  try dsimp only at hp_r25
                  have hv_26 := hp_r25
                  refine lv_istore hx hb d_DiscMakerModel_part_240 hl (by decide) rfl (fun ls hl => ?_)
                  have hl : lv_has ls 7 [(6, .int r25), (5, .int r22), (4, .int r19), (0, .ref h0), (1, .int x), (2, .int y), (3, .int z)] := hl
                  refine lv_iload hx hb d_DiscMakerModel_part_242 (lv_at hl 2 rfl) ?_
                  refine lv_if_lt (tgt := 280) hx hb d_DiscMakerModel_part_244 (by decide) (fun h_9 => ?_) (fun h_9 => ?_)
                  · skip
                    have g244_77 : r19.toInt < 0 := (i_lt rfl (by decide)).mp h_9
                    refine lv_iconst (v := 0) hx hb d_DiscMakerModel_part_280 (by decide) ?_
                    have hP9 := hP.sub (ws' := [(h0, .inr (11, MO ma sv_thrown sv_length sv_nodes sv_many sv_directories sv_runsFrom sv_runs sv_read sv_wrong sv_isNamed sv_goes sv_goesSize sv_goesAt sv_targetParts sv_isRoot)), ((ma 16), .inl (cJ, 46080, .inr (.inl F))), ((ma 25), .inl (cI, 100, .inl fM)), ((ma 26), .inl (cI, 100, .inl fO)), ((ma 27), .inl (cI, 100, .inl fG)), ((ma 28), .inl (cB, 6000, .inl fN)), ((ma 29), .inl (cI, 100, .inl fNS)), ((ma 30), .inl (cB, 40000, .inl fT)), ((ma 31), .inl (cI, 100, .inl fTS))]) [7, 8, 0, 1, 2, 3, 4, 5, 6] rfl
                    have hD9 := hD.sub (ws' := [(h0, .inr (11, MO ma sv_thrown sv_length sv_nodes sv_many sv_directories sv_runsFrom sv_runs sv_read sv_wrong sv_isNamed sv_goes sv_goesSize sv_goesAt sv_targetParts sv_isRoot)), ((ma 16), .inl (cJ, 46080, .inr (.inl F))), ((ma 25), .inl (cI, 100, .inl fM)), ((ma 26), .inl (cI, 100, .inl fO)), ((ma 27), .inl (cI, 100, .inl fG)), ((ma 28), .inl (cB, 6000, .inl fN)), ((ma 29), .inl (cI, 100, .inl fNS)), ((ma 30), .inl (cB, 40000, .inl fT)), ((ma 31), .inl (cI, 100, .inl fTS))]) [7, 8, 0, 1, 2, 3, 4, 5, 6] (by decide +kernel) rfl
                    exact W.zret (v := 0) hx hb hr (by first | rfl | decide | exact i_narZ (by omega)) (fun t ht hW => ⟨⟨0, (sv_isNamed, sv_goes, sv_goesSize, sv_goesAt, sv_targetParts, sv_isRoot, fM, fO, fG, fN, fNS, fT, fTS), rfl, ⟨(by (try dsimp only); first | assumption | omega | trivial), (by (try dsimp only); first | assumption | omega | trivial), (by (try dsimp only); first | assumption | omega | trivial), (by (try dsimp only); first | assumption | omega | trivial)⟩, by rw [ht]; exact hP9, hD9⟩, hS.F ht⟩) hS.2.2 d_DiscMakerModel_part_281
                  · skip
                    have g244_77 : ¬ r19.toInt < 0 := fun h8 => h_9 ((i_lt rfl (by decide)).mpr h8)
                    refine lv_iload hx hb d_DiscMakerModel_part_247 (lv_at hl 2 rfl) ?_
                    refine lv_aload_n hx hb d_DiscMakerModel_part_249 rfl (lv_at hl 3 rfl) ?_
                    refine va_get (D := D) (ci := 11) (v := .int sv_many) (C := "DiscMakerModel") (T := F_DiscMakerModel) (N := 48) hx hb ht9 in_DiscMakerModel hown hK hP 7 rfl rfl 20 (by decide) (ht9 _ k1451) (fun _ h9 => h9) rfl d_DiscMakerModel_part_250 ?_
                    refine lv_icmp_ge (tgt := 280) hx hb d_DiscMakerModel_part_253 (by decide) (fun h_9 => ?_) (fun h_9 => ?_)
                    · skip
                      have g253_83 : sv_many.toInt ≤ r19.toInt := (i_le rfl rfl).mp h_9
                      refine lv_iconst (v := 0) hx hb d_DiscMakerModel_part_280 (by decide) ?_
                      have hP9 := hP.sub (ws' := [(h0, .inr (11, MO ma sv_thrown sv_length sv_nodes sv_many sv_directories sv_runsFrom sv_runs sv_read sv_wrong sv_isNamed sv_goes sv_goesSize sv_goesAt sv_targetParts sv_isRoot)), ((ma 16), .inl (cJ, 46080, .inr (.inl F))), ((ma 25), .inl (cI, 100, .inl fM)), ((ma 26), .inl (cI, 100, .inl fO)), ((ma 27), .inl (cI, 100, .inl fG)), ((ma 28), .inl (cB, 6000, .inl fN)), ((ma 29), .inl (cI, 100, .inl fNS)), ((ma 30), .inl (cB, 40000, .inl fT)), ((ma 31), .inl (cI, 100, .inl fTS))]) [7, 8, 0, 1, 2, 3, 4, 5, 6] rfl
                      have hD9 := hD.sub (ws' := [(h0, .inr (11, MO ma sv_thrown sv_length sv_nodes sv_many sv_directories sv_runsFrom sv_runs sv_read sv_wrong sv_isNamed sv_goes sv_goesSize sv_goesAt sv_targetParts sv_isRoot)), ((ma 16), .inl (cJ, 46080, .inr (.inl F))), ((ma 25), .inl (cI, 100, .inl fM)), ((ma 26), .inl (cI, 100, .inl fO)), ((ma 27), .inl (cI, 100, .inl fG)), ((ma 28), .inl (cB, 6000, .inl fN)), ((ma 29), .inl (cI, 100, .inl fNS)), ((ma 30), .inl (cB, 40000, .inl fT)), ((ma 31), .inl (cI, 100, .inl fTS))]) [7, 8, 0, 1, 2, 3, 4, 5, 6] (by decide +kernel) rfl
                      exact W.zret (v := 0) hx hb hr (by first | rfl | decide | exact i_narZ (by omega)) (fun t ht hW => ⟨⟨0, (sv_isNamed, sv_goes, sv_goesSize, sv_goesAt, sv_targetParts, sv_isRoot, fM, fO, fG, fN, fNS, fT, fTS), rfl, ⟨(by (try dsimp only); first | assumption | omega | trivial), (by (try dsimp only); first | assumption | omega | trivial), (by (try dsimp only); first | assumption | omega | trivial), (by (try dsimp only); first | assumption | omega | trivial)⟩, by rw [ht]; exact hP9, hD9⟩, hS.F ht⟩) hS.2.2 d_DiscMakerModel_part_281
                    · skip
                      have g253_83 : ¬ sv_many.toInt ≤ r19.toInt := fun h8 => h_9 ((i_le rfl rfl).mpr h8)
                      refine lv_iload hx hb d_DiscMakerModel_part_256 (lv_at hl 1 rfl) ?_
                      refine lv_if_lt (tgt := 280) hx hb d_DiscMakerModel_part_258 (by decide) (fun h_9 => ?_) (fun h_9 => ?_)
                      · skip
                        have g258_87 : r22.toInt < 0 := (i_lt rfl (by decide)).mp h_9
                        refine lv_iconst (v := 0) hx hb d_DiscMakerModel_part_280 (by decide) ?_
                        have hP9 := hP.sub (ws' := [(h0, .inr (11, MO ma sv_thrown sv_length sv_nodes sv_many sv_directories sv_runsFrom sv_runs sv_read sv_wrong sv_isNamed sv_goes sv_goesSize sv_goesAt sv_targetParts sv_isRoot)), ((ma 16), .inl (cJ, 46080, .inr (.inl F))), ((ma 25), .inl (cI, 100, .inl fM)), ((ma 26), .inl (cI, 100, .inl fO)), ((ma 27), .inl (cI, 100, .inl fG)), ((ma 28), .inl (cB, 6000, .inl fN)), ((ma 29), .inl (cI, 100, .inl fNS)), ((ma 30), .inl (cB, 40000, .inl fT)), ((ma 31), .inl (cI, 100, .inl fTS))]) [7, 8, 0, 1, 2, 3, 4, 5, 6] rfl
                        have hD9 := hD.sub (ws' := [(h0, .inr (11, MO ma sv_thrown sv_length sv_nodes sv_many sv_directories sv_runsFrom sv_runs sv_read sv_wrong sv_isNamed sv_goes sv_goesSize sv_goesAt sv_targetParts sv_isRoot)), ((ma 16), .inl (cJ, 46080, .inr (.inl F))), ((ma 25), .inl (cI, 100, .inl fM)), ((ma 26), .inl (cI, 100, .inl fO)), ((ma 27), .inl (cI, 100, .inl fG)), ((ma 28), .inl (cB, 6000, .inl fN)), ((ma 29), .inl (cI, 100, .inl fNS)), ((ma 30), .inl (cB, 40000, .inl fT)), ((ma 31), .inl (cI, 100, .inl fTS))]) [7, 8, 0, 1, 2, 3, 4, 5, 6] (by decide +kernel) rfl
                        exact W.zret (v := 0) hx hb hr (by first | rfl | decide | exact i_narZ (by omega)) (fun t ht hW => ⟨⟨0, (sv_isNamed, sv_goes, sv_goesSize, sv_goesAt, sv_targetParts, sv_isRoot, fM, fO, fG, fN, fNS, fT, fTS), rfl, ⟨(by (try dsimp only); first | assumption | omega | trivial), (by (try dsimp only); first | assumption | omega | trivial), (by (try dsimp only); first | assumption | omega | trivial), (by (try dsimp only); first | assumption | omega | trivial)⟩, by rw [ht]; exact hP9, hD9⟩, hS.F ht⟩) hS.2.2 d_DiscMakerModel_part_281
                      · skip
                        have g258_87 : ¬ r22.toInt < 0 := fun h8 => h_9 ((i_lt rfl (by decide)).mpr h8)
                        refine lv_iload hx hb d_DiscMakerModel_part_261 (lv_at hl 0 rfl) ?_
                        refine lv_if_lt (tgt := 280) hx hb d_DiscMakerModel_part_263 (by decide) (fun h_9 => ?_) (fun h_9 => ?_)
                        · skip
                          have g263_91 : r25.toInt < 0 := (i_lt rfl (by decide)).mp h_9
                          refine lv_iconst (v := 0) hx hb d_DiscMakerModel_part_280 (by decide) ?_
                          have hP9 := hP.sub (ws' := [(h0, .inr (11, MO ma sv_thrown sv_length sv_nodes sv_many sv_directories sv_runsFrom sv_runs sv_read sv_wrong sv_isNamed sv_goes sv_goesSize sv_goesAt sv_targetParts sv_isRoot)), ((ma 16), .inl (cJ, 46080, .inr (.inl F))), ((ma 25), .inl (cI, 100, .inl fM)), ((ma 26), .inl (cI, 100, .inl fO)), ((ma 27), .inl (cI, 100, .inl fG)), ((ma 28), .inl (cB, 6000, .inl fN)), ((ma 29), .inl (cI, 100, .inl fNS)), ((ma 30), .inl (cB, 40000, .inl fT)), ((ma 31), .inl (cI, 100, .inl fTS))]) [7, 8, 0, 1, 2, 3, 4, 5, 6] rfl
                          have hD9 := hD.sub (ws' := [(h0, .inr (11, MO ma sv_thrown sv_length sv_nodes sv_many sv_directories sv_runsFrom sv_runs sv_read sv_wrong sv_isNamed sv_goes sv_goesSize sv_goesAt sv_targetParts sv_isRoot)), ((ma 16), .inl (cJ, 46080, .inr (.inl F))), ((ma 25), .inl (cI, 100, .inl fM)), ((ma 26), .inl (cI, 100, .inl fO)), ((ma 27), .inl (cI, 100, .inl fG)), ((ma 28), .inl (cB, 6000, .inl fN)), ((ma 29), .inl (cI, 100, .inl fNS)), ((ma 30), .inl (cB, 40000, .inl fT)), ((ma 31), .inl (cI, 100, .inl fTS))]) [7, 8, 0, 1, 2, 3, 4, 5, 6] (by decide +kernel) rfl
                          exact W.zret (v := 0) hx hb hr (by first | rfl | decide | exact i_narZ (by omega)) (fun t ht hW => ⟨⟨0, (sv_isNamed, sv_goes, sv_goesSize, sv_goesAt, sv_targetParts, sv_isRoot, fM, fO, fG, fN, fNS, fT, fTS), rfl, ⟨(by (try dsimp only); first | assumption | omega | trivial), (by (try dsimp only); first | assumption | omega | trivial), (by (try dsimp only); first | assumption | omega | trivial), (by (try dsimp only); first | assumption | omega | trivial)⟩, by rw [ht]; exact hP9, hD9⟩, hS.F ht⟩) hS.2.2 d_DiscMakerModel_part_281
                        · skip
                          have g263_91 : ¬ r25.toInt < 0 := fun h8 => h_9 ((i_lt rfl (by decide)).mpr h8)
                          refine lv_iload hx hb d_DiscMakerModel_part_266 (lv_at hl 1 rfl) ?_
                          refine lv_i2l hx hb d_DiscMakerModel_part_268 rfl ?_
                          refine lv_topl (fun w27 e_w27 => ?_)
                          have t_w27 : w27.toInt = r22.toInt ∧ (-2147483648) ≤ r22.toInt ∧ r22.toInt ≤ 2147483647 := by rw [e_w27]; exact ⟨l_i rfl, i_rng _⟩
                          refine lv_iload hx hb d_DiscMakerModel_part_269 (lv_at hl 0 rfl) ?_
                          refine lv_i2l hx hb d_DiscMakerModel_part_271 rfl ?_
                          refine lv_topl (fun w28 e_w28 => ?_)
                          have t_w28 : w28.toInt = r25.toInt ∧ (-2147483648) ≤ r25.toInt ∧ r25.toInt ≤ 2147483647 := by rw [e_w28]; exact ⟨l_i rfl, i_rng _⟩
                          refine lv_ladd hx hb d_DiscMakerModel_part_272 ?_
                          refine lv_topl (fun w29 e_w29 => ?_)
                          have t_w29 : w29.toInt = w27.toInt + w28.toInt := by rw [e_w29]; exact l_add rfl rfl (by omega) (by omega)
                          refine lv_ldc2 (v := 2048) hx hb hown (ht9 _ k1853) d_DiscMakerModel_part_273 ?_
                          refine W.lcmp hx hb d_DiscMakerModel_part_276 ?_
                          refine lv_topi (fun v30 e_v30 => ?_)
                          have t_v30 : (v30.toInt = 1 ∧ 2048 < w29.toInt) ∨ (v30.toInt = 0 ∧ w29.toInt = 2048) ∨ (v30.toInt = -1 ∧ w29.toInt < 2048) := by rw [e_v30]; exact l_cmp rfl (by decide)
                          refine lv_if_le (tgt := 282) hx hb d_DiscMakerModel_part_277 (by decide) (fun h_9 => ?_) (fun h_9 => ?_)
                          · skip
                            have g277_101 : v30.toInt ≤ 0 := (i_le rfl (by decide)).mp h_9
                            refine lv_aload_n hx hb d_DiscMakerModel_part_282 rfl (lv_at hl 3 rfl) ?_
                            refine lv_sipush (v := 2048) hx hb d_DiscMakerModel_part_283 (by decide) ?_
                            refine lv_iload hx hb d_DiscMakerModel_part_286 (lv_at hl 2 rfl) ?_
                            refine lv_imul hx hb d_DiscMakerModel_part_288 ?_
                            refine lv_topi (fun v31 e_v31 => ?_)
                            have t_v31 : v31.toInt = 2048 * r19.toInt := by rw [e_v31]; exact i_mul (by decide) rfl (by omega) (by omega)
                            refine lv_iload hx hb d_DiscMakerModel_part_289 (lv_at hl 1 rfl) ?_
                            refine lv_iadd hx hb d_DiscMakerModel_part_291 ?_
                            refine lv_topi (fun v32 e_v32 => ?_)
                            have t_v32 : v32.toInt = v31.toInt + r22.toInt := by rw [e_v32]; exact i_add rfl rfl (by omega) (by omega)
                            refine va_put (D := D) (ci := 11) (v := .int v32) (ty := .int) (C := "DiscMakerModel") (T := F_DiscMakerModel) (N := 48) hx hb ht9 in_DiscMakerModel t_DiscMakerModel t_DiscMakerModel_ok n_DiscMakerModel hown hK hP hD hS 7 rfl rfl 43 (by decide) (ht9 _ k1474) (fun _ h9 => h9) rfl (by decide +kernel) rfl rfl (Nat.le_of_ble_eq_true rfl) d_DiscMakerModel_part_292 (fun H locs hP hD hS => ?_)
                            have hP : va_P D CL [((ma 25), .inl (cI, 100, .inl fM)), ((ma 26), .inl (cI, 100, .inl fO)), ((ma 27), .inl (cI, 100, .inl fG)), ((ma 28), .inl (cB, 6000, .inl fN)), ((ma 29), .inl (cI, 100, .inl fNS)), ((ma 30), .inl (cB, 40000, .inl fT)), ((ma 31), .inl (cI, 100, .inl fTS)), (h0, .inr (11, MO ma sv_thrown sv_length sv_nodes sv_many sv_directories sv_runsFrom sv_runs sv_read sv_wrong sv_isNamed v32 sv_goesSize sv_goesAt sv_targetParts sv_isRoot)), ((ma 16), .inl (cJ, 46080, .inr (.inl F)))] H := hP
                            have hD : va_D A [((ma 25), .inl (cI, 100, .inl fM)), ((ma 26), .inl (cI, 100, .inl fO)), ((ma 27), .inl (cI, 100, .inl fG)), ((ma 28), .inl (cB, 6000, .inl fN)), ((ma 29), .inl (cI, 100, .inl fNS)), ((ma 30), .inl (cB, 40000, .inl fT)), ((ma 31), .inl (cI, 100, .inl fTS)), (h0, .inr (11, MO ma sv_thrown sv_length sv_nodes sv_many sv_directories sv_runsFrom sv_runs sv_read sv_wrong sv_isNamed v32 sv_goesSize sv_goesAt sv_targetParts sv_isRoot)), ((ma 16), .inl (cJ, 46080, .inr (.inl F)))] := hD
                            refine lv_aload_n hx hb d_DiscMakerModel_part_295 rfl (lv_at hl 3 rfl) ?_
                            refine lv_iload hx hb d_DiscMakerModel_part_296 (lv_at hl 0 rfl) ?_
                            refine va_put (D := D) (ci := 11) (v := .int r25) (ty := .int) (C := "DiscMakerModel") (T := F_DiscMakerModel) (N := 48) hx hb ht9 in_DiscMakerModel t_DiscMakerModel t_DiscMakerModel_ok n_DiscMakerModel hown hK hP hD hS 7 rfl rfl 44 (by decide) (ht9 _ k1475) (fun _ h9 => h9) rfl (by decide +kernel) rfl rfl (Nat.le_of_ble_eq_true rfl) d_DiscMakerModel_part_298 (fun H locs hP hD hS => ?_)
                            have hP : va_P D CL [((ma 25), .inl (cI, 100, .inl fM)), ((ma 26), .inl (cI, 100, .inl fO)), ((ma 27), .inl (cI, 100, .inl fG)), ((ma 28), .inl (cB, 6000, .inl fN)), ((ma 29), .inl (cI, 100, .inl fNS)), ((ma 30), .inl (cB, 40000, .inl fT)), ((ma 31), .inl (cI, 100, .inl fTS)), (h0, .inr (11, MO ma sv_thrown sv_length sv_nodes sv_many sv_directories sv_runsFrom sv_runs sv_read sv_wrong sv_isNamed v32 r25 sv_goesAt sv_targetParts sv_isRoot)), ((ma 16), .inl (cJ, 46080, .inr (.inl F)))] H := hP
                            have hD : va_D A [((ma 25), .inl (cI, 100, .inl fM)), ((ma 26), .inl (cI, 100, .inl fO)), ((ma 27), .inl (cI, 100, .inl fG)), ((ma 28), .inl (cB, 6000, .inl fN)), ((ma 29), .inl (cI, 100, .inl fNS)), ((ma 30), .inl (cB, 40000, .inl fT)), ((ma 31), .inl (cI, 100, .inl fTS)), (h0, .inr (11, MO ma sv_thrown sv_length sv_nodes sv_many sv_directories sv_runsFrom sv_runs sv_read sv_wrong sv_isNamed v32 r25 sv_goesAt sv_targetParts sv_isRoot)), ((ma 16), .inl (cJ, 46080, .inr (.inl F)))] := hD
                            refine lv_aload_n hx hb d_DiscMakerModel_part_301 rfl (lv_at hl 3 rfl) ?_
                            refine lv_iload_n hx hb d_DiscMakerModel_part_302 rfl (lv_at hl 5 rfl) ?_
                            refine va_put (D := D) (ci := 11) (v := .int y) (ty := .int) (C := "DiscMakerModel") (T := F_DiscMakerModel) (N := 48) hx hb ht9 in_DiscMakerModel t_DiscMakerModel t_DiscMakerModel_ok n_DiscMakerModel hown hK hP hD hS 7 rfl rfl 45 (by decide) (ht9 _ k1476) (fun _ h9 => h9) rfl (by decide +kernel) rfl rfl (Nat.le_of_ble_eq_true rfl) d_DiscMakerModel_part_303 (fun H locs hP hD hS => ?_)
                            have hP : va_P D CL [((ma 25), .inl (cI, 100, .inl fM)), ((ma 26), .inl (cI, 100, .inl fO)), ((ma 27), .inl (cI, 100, .inl fG)), ((ma 28), .inl (cB, 6000, .inl fN)), ((ma 29), .inl (cI, 100, .inl fNS)), ((ma 30), .inl (cB, 40000, .inl fT)), ((ma 31), .inl (cI, 100, .inl fTS)), (h0, .inr (11, MO ma sv_thrown sv_length sv_nodes sv_many sv_directories sv_runsFrom sv_runs sv_read sv_wrong sv_isNamed v32 r25 y sv_targetParts sv_isRoot)), ((ma 16), .inl (cJ, 46080, .inr (.inl F)))] H := hP
                            have hD : va_D A [((ma 25), .inl (cI, 100, .inl fM)), ((ma 26), .inl (cI, 100, .inl fO)), ((ma 27), .inl (cI, 100, .inl fG)), ((ma 28), .inl (cB, 6000, .inl fN)), ((ma 29), .inl (cI, 100, .inl fNS)), ((ma 30), .inl (cB, 40000, .inl fT)), ((ma 31), .inl (cI, 100, .inl fTS)), (h0, .inr (11, MO ma sv_thrown sv_length sv_nodes sv_many sv_directories sv_runsFrom sv_runs sv_read sv_wrong sv_isNamed v32 r25 y sv_targetParts sv_isRoot)), ((ma 16), .inl (cJ, 46080, .inr (.inl F)))] := hD
                            refine lv_iconst (v := 1) hx hb d_DiscMakerModel_part_306 (by decide) ?_
                            have hP9 := hP.sub (ws' := [(h0, .inr (11, MO ma sv_thrown sv_length sv_nodes sv_many sv_directories sv_runsFrom sv_runs sv_read sv_wrong sv_isNamed v32 r25 y sv_targetParts sv_isRoot)), ((ma 16), .inl (cJ, 46080, .inr (.inl F))), ((ma 25), .inl (cI, 100, .inl fM)), ((ma 26), .inl (cI, 100, .inl fO)), ((ma 27), .inl (cI, 100, .inl fG)), ((ma 28), .inl (cB, 6000, .inl fN)), ((ma 29), .inl (cI, 100, .inl fNS)), ((ma 30), .inl (cB, 40000, .inl fT)), ((ma 31), .inl (cI, 100, .inl fTS))]) [7, 8, 0, 1, 2, 3, 4, 5, 6] rfl
                            have hD9 := hD.sub (ws' := [(h0, .inr (11, MO ma sv_thrown sv_length sv_nodes sv_many sv_directories sv_runsFrom sv_runs sv_read sv_wrong sv_isNamed v32 r25 y sv_targetParts sv_isRoot)), ((ma 16), .inl (cJ, 46080, .inr (.inl F))), ((ma 25), .inl (cI, 100, .inl fM)), ((ma 26), .inl (cI, 100, .inl fO)), ((ma 27), .inl (cI, 100, .inl fG)), ((ma 28), .inl (cB, 6000, .inl fN)), ((ma 29), .inl (cI, 100, .inl fNS)), ((ma 30), .inl (cB, 40000, .inl fT)), ((ma 31), .inl (cI, 100, .inl fTS))]) [7, 8, 0, 1, 2, 3, 4, 5, 6] (by decide +kernel) rfl
                            exact W.zret (v := 1) hx hb hr (by first | rfl | decide | exact i_narZ (by omega)) (fun t ht hW => ⟨⟨1, (sv_isNamed, v32, r25, y, sv_targetParts, sv_isRoot, fM, fO, fG, fN, fNS, fT, fTS), rfl, ⟨(by (try dsimp only); first | assumption | omega | trivial), (by (try dsimp only); first | assumption | omega | trivial), (by (try dsimp only); first | assumption | omega | trivial), (by (try dsimp only); first | assumption | omega | trivial)⟩, by rw [ht]; exact hP9, hD9⟩, hS.F ht⟩) hS.2.2 d_DiscMakerModel_part_307
                          · skip
                            have g277_101 : ¬ v30.toInt ≤ 0 := fun h8 => h_9 ((i_le rfl (by decide)).mpr h8)
                            refine lv_iconst (v := 0) hx hb d_DiscMakerModel_part_280 (by decide) ?_
                            have hP9 := hP.sub (ws' := [(h0, .inr (11, MO ma sv_thrown sv_length sv_nodes sv_many sv_directories sv_runsFrom sv_runs sv_read sv_wrong sv_isNamed sv_goes sv_goesSize sv_goesAt sv_targetParts sv_isRoot)), ((ma 16), .inl (cJ, 46080, .inr (.inl F))), ((ma 25), .inl (cI, 100, .inl fM)), ((ma 26), .inl (cI, 100, .inl fO)), ((ma 27), .inl (cI, 100, .inl fG)), ((ma 28), .inl (cB, 6000, .inl fN)), ((ma 29), .inl (cI, 100, .inl fNS)), ((ma 30), .inl (cB, 40000, .inl fT)), ((ma 31), .inl (cI, 100, .inl fTS))]) [7, 8, 0, 1, 2, 3, 4, 5, 6] rfl
                            have hD9 := hD.sub (ws' := [(h0, .inr (11, MO ma sv_thrown sv_length sv_nodes sv_many sv_directories sv_runsFrom sv_runs sv_read sv_wrong sv_isNamed sv_goes sv_goesSize sv_goesAt sv_targetParts sv_isRoot)), ((ma 16), .inl (cJ, 46080, .inr (.inl F))), ((ma 25), .inl (cI, 100, .inl fM)), ((ma 26), .inl (cI, 100, .inl fO)), ((ma 27), .inl (cI, 100, .inl fG)), ((ma 28), .inl (cB, 6000, .inl fN)), ((ma 29), .inl (cI, 100, .inl fNS)), ((ma 30), .inl (cB, 40000, .inl fT)), ((ma 31), .inl (cI, 100, .inl fTS))]) [7, 8, 0, 1, 2, 3, 4, 5, 6] (by decide +kernel) rfl
                            exact W.zret (v := 0) hx hb hr (by first | rfl | decide | exact i_narZ (by omega)) (fun t ht hW => ⟨⟨0, (sv_isNamed, sv_goes, sv_goesSize, sv_goesAt, sv_targetParts, sv_isRoot, fM, fO, fG, fN, fNS, fT, fTS), rfl, ⟨(by (try dsimp only); first | assumption | omega | trivial), (by (try dsimp only); first | assumption | omega | trivial), (by (try dsimp only); first | assumption | omega | trivial), (by (try dsimp only); first | assumption | omega | trivial)⟩, by rw [ht]; exact hP9, hD9⟩, hS.F ht⟩) hS.2.2 d_DiscMakerModel_part_281
                · skip
                  have g205_54 : r16.toInt = 0 := (i_eq rfl (by decide)).mp h_9
                  refine lv_iconst (v := 0) hx hb d_DiscMakerModel_part_208 (by decide) ?_
                  have hP9 := hP.sub (ws' := [(h0, .inr (11, MO ma sv_thrown sv_length sv_nodes sv_many sv_directories sv_runsFrom sv_runs sv_read sv_wrong sv_isNamed sv_goes sv_goesSize sv_goesAt sv_targetParts sv_isRoot)), ((ma 16), .inl (cJ, 46080, .inr (.inl F))), ((ma 25), .inl (cI, 100, .inl fM)), ((ma 26), .inl (cI, 100, .inl fO)), ((ma 27), .inl (cI, 100, .inl fG)), ((ma 28), .inl (cB, 6000, .inl fN)), ((ma 29), .inl (cI, 100, .inl fNS)), ((ma 30), .inl (cB, 40000, .inl fT)), ((ma 31), .inl (cI, 100, .inl fTS))]) [7, 8, 0, 1, 2, 3, 4, 5, 6] rfl
                  have hD9 := hD.sub (ws' := [(h0, .inr (11, MO ma sv_thrown sv_length sv_nodes sv_many sv_directories sv_runsFrom sv_runs sv_read sv_wrong sv_isNamed sv_goes sv_goesSize sv_goesAt sv_targetParts sv_isRoot)), ((ma 16), .inl (cJ, 46080, .inr (.inl F))), ((ma 25), .inl (cI, 100, .inl fM)), ((ma 26), .inl (cI, 100, .inl fO)), ((ma 27), .inl (cI, 100, .inl fG)), ((ma 28), .inl (cB, 6000, .inl fN)), ((ma 29), .inl (cI, 100, .inl fNS)), ((ma 30), .inl (cB, 40000, .inl fT)), ((ma 31), .inl (cI, 100, .inl fTS))]) [7, 8, 0, 1, 2, 3, 4, 5, 6] (by decide +kernel) rfl
                  exact W.zret (v := 0) hx hb hr (by first | rfl | decide | exact i_narZ (by omega)) (fun t ht hW => ⟨⟨0, (sv_isNamed, sv_goes, sv_goesSize, sv_goesAt, sv_targetParts, sv_isRoot, fM, fO, fG, fN, fNS, fT, fTS), rfl, ⟨(by (try dsimp only); first | assumption | omega | trivial), (by (try dsimp only); first | assumption | omega | trivial), (by (try dsimp only); first | assumption | omega | trivial), (by (try dsimp only); first | assumption | omega | trivial)⟩, by rw [ht]; exact hP9, hD9⟩, hS.F ht⟩) hS.2.2 d_DiscMakerModel_part_209
        · skip
          have g162_24 : r7.toInt = 0 := (i_eq rfl (by decide)).mp h_9
          refine lv_iconst (v := 1) hx hb d_DiscMakerModel_part_165 (by decide) ?_
          have hP9 := hP.sub (ws' := [(h0, .inr (11, MO ma sv_thrown sv_length sv_nodes sv_many sv_directories sv_runsFrom sv_runs sv_read sv_wrong sv_isNamed sv_goes sv_goesSize sv_goesAt sv_targetParts sv_isRoot)), ((ma 16), .inl (cJ, 46080, .inr (.inl F))), ((ma 25), .inl (cI, 100, .inl fM)), ((ma 26), .inl (cI, 100, .inl fO)), ((ma 27), .inl (cI, 100, .inl fG)), ((ma 28), .inl (cB, 6000, .inl fN)), ((ma 29), .inl (cI, 100, .inl fNS)), ((ma 30), .inl (cB, 40000, .inl fT)), ((ma 31), .inl (cI, 100, .inl fTS))]) [7, 8, 0, 1, 2, 3, 4, 5, 6] rfl
          have hD9 := hD.sub (ws' := [(h0, .inr (11, MO ma sv_thrown sv_length sv_nodes sv_many sv_directories sv_runsFrom sv_runs sv_read sv_wrong sv_isNamed sv_goes sv_goesSize sv_goesAt sv_targetParts sv_isRoot)), ((ma 16), .inl (cJ, 46080, .inr (.inl F))), ((ma 25), .inl (cI, 100, .inl fM)), ((ma 26), .inl (cI, 100, .inl fO)), ((ma 27), .inl (cI, 100, .inl fG)), ((ma 28), .inl (cB, 6000, .inl fN)), ((ma 29), .inl (cI, 100, .inl fNS)), ((ma 30), .inl (cB, 40000, .inl fT)), ((ma 31), .inl (cI, 100, .inl fTS))]) [7, 8, 0, 1, 2, 3, 4, 5, 6] (by decide +kernel) rfl
          exact W.zret (v := 1) hx hb hr (by first | rfl | decide | exact i_narZ (by omega)) (fun t ht hW => ⟨⟨1, (sv_isNamed, sv_goes, sv_goesSize, sv_goesAt, sv_targetParts, sv_isRoot, fM, fO, fG, fN, fNS, fT, fTS), rfl, ⟨(by (try dsimp only); first | assumption | omega | trivial), (by (try dsimp only); first | assumption | omega | trivial), (by (try dsimp only); first | assumption | omega | trivial), (by (try dsimp only); first | assumption | omega | trivial)⟩, by rw [ht]; exact hP9, hD9⟩, hS.F ht⟩) hS.2.2 d_DiscMakerModel_part_166
      · skip
        have g49_18 : ¬ r5.toInt = 0 := fun h8 => h_9 ((i_eq rfl (by decide)).mpr h8)
        refine lv_iload_n hx hb d_DiscMakerModel_part_52 rfl (lv_at hl 3 rfl) ?_
        refine lv_bipush (v := 36) hx hb d_DiscMakerModel_part_53 (by decide) ?_
        refine lv_icmp_ne (tgt := 105) hx hb d_DiscMakerModel_part_55 (by decide) (fun h_9 => ?_) (fun h_9 => ?_)
        · skip
          have g55_125 : ¬ z.toInt = 36 := fun h8 => h_9 ((i_eq rfl (by decide)).mpr h8)
          refine lv_iconst (v := 0) hx hb d_DiscMakerModel_part_105 (by decide) ?_
          have hP9 := hP.sub (ws' := [(h0, .inr (11, MO ma sv_thrown sv_length sv_nodes sv_many sv_directories sv_runsFrom sv_runs sv_read sv_wrong sv_isNamed sv_goes sv_goesSize sv_goesAt sv_targetParts sv_isRoot)), ((ma 16), .inl (cJ, 46080, .inr (.inl F))), ((ma 25), .inl (cI, 100, .inl fM)), ((ma 26), .inl (cI, 100, .inl fO)), ((ma 27), .inl (cI, 100, .inl fG)), ((ma 28), .inl (cB, 6000, .inl fN)), ((ma 29), .inl (cI, 100, .inl fNS)), ((ma 30), .inl (cB, 40000, .inl fT)), ((ma 31), .inl (cI, 100, .inl fTS))]) [7, 8, 0, 1, 2, 3, 4, 5, 6] rfl
          have hD9 := hD.sub (ws' := [(h0, .inr (11, MO ma sv_thrown sv_length sv_nodes sv_many sv_directories sv_runsFrom sv_runs sv_read sv_wrong sv_isNamed sv_goes sv_goesSize sv_goesAt sv_targetParts sv_isRoot)), ((ma 16), .inl (cJ, 46080, .inr (.inl F))), ((ma 25), .inl (cI, 100, .inl fM)), ((ma 26), .inl (cI, 100, .inl fO)), ((ma 27), .inl (cI, 100, .inl fG)), ((ma 28), .inl (cB, 6000, .inl fN)), ((ma 29), .inl (cI, 100, .inl fNS)), ((ma 30), .inl (cB, 40000, .inl fT)), ((ma 31), .inl (cI, 100, .inl fTS))]) [7, 8, 0, 1, 2, 3, 4, 5, 6] (by decide +kernel) rfl
          exact W.zret (v := 0) hx hb hr (by first | rfl | decide | exact i_narZ (by omega)) (fun t ht hW => ⟨⟨0, (sv_isNamed, sv_goes, sv_goesSize, sv_goesAt, sv_targetParts, sv_isRoot, fM, fO, fG, fN, fNS, fT, fTS), rfl, ⟨(by (try dsimp only); first | assumption | omega | trivial), (by (try dsimp only); first | assumption | omega | trivial), (by (try dsimp only); first | assumption | omega | trivial), (by (try dsimp only); first | assumption | omega | trivial)⟩, by rw [ht]; exact hP9, hD9⟩, hS.F ht⟩) hS.2.2 d_DiscMakerModel_part_106
        · skip
          have g55_125 : z.toInt = 36 := (i_eq rfl (by decide)).mp h_9
          refine lv_aload_n hx hb d_DiscMakerModel_part_58 rfl (lv_at hl 0 rfl) ?_
          refine lv_iload_n hx hb d_DiscMakerModel_part_59 rfl (lv_at hl 2 rfl) ?_
          refine lv_iconst (v := 4) hx hb d_DiscMakerModel_part_60 (by decide) ?_
          refine lv_iadd hx hb d_DiscMakerModel_part_61 ?_
          refine lv_topi (fun v33 e_v33 => ?_)
          have t_v33 : v33.toInt = y.toInt + 4 := by rw [e_v33]; exact i_add rfl (by decide) (by omega) (by omega)
          refine lv_iconst (v := 4) hx hb d_DiscMakerModel_part_62 (by decide) ?_
          have hPc := hP.sub (ws' := [(h0, .inr (11, MO ma sv_thrown sv_length sv_nodes sv_many sv_directories sv_runsFrom sv_runs sv_read sv_wrong sv_isNamed sv_goes sv_goesSize sv_goesAt sv_targetParts sv_isRoot)), ((ma 16), .inl (cJ, 46080, .inr (.inl F)))]) [7, 8] rfl
          have hDc := hD.sub (ws' := [(h0, .inr (11, MO ma sv_thrown sv_length sv_nodes sv_many sv_directories sv_runsFrom sv_runs sv_read sv_wrong sv_isNamed sv_goes sv_goesSize sv_goesAt sv_targetParts sv_isRoot)), ((ma 16), .inl (cJ, 46080, .inr (.inl F)))]) [7, 8] (by decide +kernel) rfl
          have hFc := va_free (wc := [(h0, .inr (11, MO ma sv_thrown sv_length sv_nodes sv_many sv_directories sv_runsFrom sv_runs sv_read sv_wrong sv_isNamed sv_goes sv_goesSize sv_goesAt sv_targetParts sv_isRoot)), ((ma 16), .inl (cJ, 46080, .inr (.inl F)))]) hD hS hA [7, 8] rfl
          have hkc : 0 ≤ 0 := by decide
          have hks : 0 ≤ 0 := by decide
          refine va_calli (va_runV (C := "DiscMakerModel") (As := [.int v33, .int 4]) (rest := []) ⟨hx, hb, hml, hown, hts⟩ (m_isBoth l D cB cI cJ cZ cN cF H.size h0 ma sv_thrown sv_length sv_nodes sv_many sv_directories sv_runsFrom sv_runs sv_read sv_wrong sv_isNamed sv_goes sv_goesSize sv_goesAt sv_targetParts sv_isRoot F v33 4 (by (try dsimp only); first | assumption | omega | trivial) (by (try dsimp only); first | assumption | omega | trivial) (by (try dsimp only); first | assumption | omega | trivial)) (cwV 2 hts (lg_goodV k1837 k1839 k99 k125 kc_DiscMakerModel_isBoth) rfl rfl rfl (by decide +kernel) ⟨Nat.le_of_ble_eq_true rfl, Nat.le_of_ble_eq_true rfl⟩) ⟨fun a U g mk q => by obtain ⟨q0, q1, qP, qK, qN, qD⟩ := q; exact ⟨q0, q1, qP, va_K.moved (u := U) (U := U.calling g mk a) (Vm.Alike.refl U.vm) qK, qN.calling, qD⟩, va_recv hK hP (ci := 11) (q0 := 7) rfl rfl, fun U hU hW => ⟨rfl, by rw [hU], by rw [hU]; exact hPc, va_K.moved hW.alike hK, NN.warm hW hN, hDc.weaken (fun _ _ _ _ => trivial)⟩⟩ rfl rfl hl.1 rfl (lv_room (Nat.le_of_ble_eq_true rfl)) d_DiscMakerModel_part_63 ⟨hkc, hks⟩) hS (fun q _ h => hFc q h) hFc (fun r34 u t H1 locs ht hvm hp_r34 hB hz1 hk1 hS => ?_)
          obtain ⟨hP1, hD1⟩ := hB
          rw [ht] at hP1
          obtain ⟨hP, hD⟩ := va_join (wr := [((ma 25), .inl (cI, 100, .inl fM)), ((ma 26), .inl (cI, 100, .inl fO)), ((ma 27), .inl (cI, 100, .inl fG)), ((ma 28), .inl (cB, 6000, .inl fN)), ((ma 29), .inl (cI, 100, .inl fNS)), ((ma 30), .inl (cB, 40000, .inl fT)), ((ma 31), .inl (cI, 100, .inl fTS))]) (w1 := [(h0, .inr (11, MO ma sv_thrown sv_length sv_nodes sv_many sv_directories sv_runsFrom sv_runs sv_read sv_wrong sv_isNamed sv_goes sv_goesSize sv_goesAt sv_targetParts sv_isRoot)), ((ma 16), .inl (cJ, 46080, .inr (.inl F)))]) hP hD [7, 8] [0, 1, 2, 3, 4, 5, 6] rfl rfl (by decide +kernel) (by decide +kernel) hk1 hFc hP1 hD1
          clear hPc hDc hFc hP1 hD1 hk1 hz1 hkc hks
          generalize H1 = H at hP hS ⊢
          have hP : va_P D CL [((ma 25), .inl (cI, 100, .inl fM)), ((ma 26), .inl (cI, 100, .inl fO)), ((ma 27), .inl (cI, 100, .inl fG)), ((ma 28), .inl (cB, 6000, .inl fN)), ((ma 29), .inl (cI, 100, .inl fNS)), ((ma 30), .inl (cB, 40000, .inl fT)), ((ma 31), .inl (cI, 100, .inl fTS)), (h0, .inr (11, MO ma sv_thrown sv_length sv_nodes sv_many sv_directories sv_runsFrom sv_runs sv_read sv_wrong sv_isNamed sv_goes sv_goesSize sv_goesAt sv_targetParts sv_isRoot)), ((ma 16), .inl (cJ, 46080, .inr (.inl F)))] H := hP
          have hD : va_D A [((ma 25), .inl (cI, 100, .inl fM)), ((ma 26), .inl (cI, 100, .inl fO)), ((ma 27), .inl (cI, 100, .inl fG)), ((ma 28), .inl (cB, 6000, .inl fN)), ((ma 29), .inl (cI, 100, .inl fNS)), ((ma 30), .inl (cB, 40000, .inl fT)), ((ma 31), .inl (cI, 100, .inl fTS)), (h0, .inr (11, MO ma sv_thrown sv_length sv_nodes sv_many sv_directories sv_runsFrom sv_runs sv_read sv_wrong sv_isNamed sv_goes sv_goesSize sv_goesAt sv_targetParts sv_isRoot)), ((ma 16), .inl (cJ, 46080, .inr (.inl F)))] := hD
          try dsimp only at hp_r34
          have hr_35 := hp_r34
          refine lv_if_eq (tgt := 105) hx hb d_DiscMakerModel_part_66 (by decide) (fun h_9 => ?_) (fun h_9 => ?_)
          · skip
            have g66_134 : r34.toInt = 0 := (i_eq rfl (by decide)).mp h_9
            refine lv_iconst (v := 0) hx hb d_DiscMakerModel_part_105 (by decide) ?_
            have hP9 := hP.sub (ws' := [(h0, .inr (11, MO ma sv_thrown sv_length sv_nodes sv_many sv_directories sv_runsFrom sv_runs sv_read sv_wrong sv_isNamed sv_goes sv_goesSize sv_goesAt sv_targetParts sv_isRoot)), ((ma 16), .inl (cJ, 46080, .inr (.inl F))), ((ma 25), .inl (cI, 100, .inl fM)), ((ma 26), .inl (cI, 100, .inl fO)), ((ma 27), .inl (cI, 100, .inl fG)), ((ma 28), .inl (cB, 6000, .inl fN)), ((ma 29), .inl (cI, 100, .inl fNS)), ((ma 30), .inl (cB, 40000, .inl fT)), ((ma 31), .inl (cI, 100, .inl fTS))]) [7, 8, 0, 1, 2, 3, 4, 5, 6] rfl
            have hD9 := hD.sub (ws' := [(h0, .inr (11, MO ma sv_thrown sv_length sv_nodes sv_many sv_directories sv_runsFrom sv_runs sv_read sv_wrong sv_isNamed sv_goes sv_goesSize sv_goesAt sv_targetParts sv_isRoot)), ((ma 16), .inl (cJ, 46080, .inr (.inl F))), ((ma 25), .inl (cI, 100, .inl fM)), ((ma 26), .inl (cI, 100, .inl fO)), ((ma 27), .inl (cI, 100, .inl fG)), ((ma 28), .inl (cB, 6000, .inl fN)), ((ma 29), .inl (cI, 100, .inl fNS)), ((ma 30), .inl (cB, 40000, .inl fT)), ((ma 31), .inl (cI, 100, .inl fTS))]) [7, 8, 0, 1, 2, 3, 4, 5, 6] (by decide +kernel) rfl
            exact W.zret (v := 0) hx hb hr (by first | rfl | decide | exact i_narZ (by omega)) (fun t ht hW => ⟨⟨0, (sv_isNamed, sv_goes, sv_goesSize, sv_goesAt, sv_targetParts, sv_isRoot, fM, fO, fG, fN, fNS, fT, fTS), rfl, ⟨(by (try dsimp only); first | assumption | omega | trivial), (by (try dsimp only); first | assumption | omega | trivial), (by (try dsimp only); first | assumption | omega | trivial), (by (try dsimp only); first | assumption | omega | trivial)⟩, by rw [ht]; exact hP9, hD9⟩, hS.F ht⟩) hS.2.2 d_DiscMakerModel_part_106
          · skip
            have g66_134 : ¬ r34.toInt = 0 := fun h8 => h_9 ((i_eq rfl (by decide)).mpr h8)
            refine lv_aload_n hx hb d_DiscMakerModel_part_69 rfl (lv_at hl 0 rfl) ?_
            refine lv_iload_n hx hb d_DiscMakerModel_part_70 rfl (lv_at hl 2 rfl) ?_
            refine lv_bipush (v := 12) hx hb d_DiscMakerModel_part_71 (by decide) ?_
            refine lv_iadd hx hb d_DiscMakerModel_part_73 ?_
            refine lv_topi (fun v36 e_v36 => ?_)
            have t_v36 : v36.toInt = y.toInt + 12 := by rw [e_v36]; exact i_add rfl (by decide) (by omega) (by omega)
            refine lv_iconst (v := 4) hx hb d_DiscMakerModel_part_74 (by decide) ?_
            have hPc := hP.sub (ws' := [(h0, .inr (11, MO ma sv_thrown sv_length sv_nodes sv_many sv_directories sv_runsFrom sv_runs sv_read sv_wrong sv_isNamed sv_goes sv_goesSize sv_goesAt sv_targetParts sv_isRoot)), ((ma 16), .inl (cJ, 46080, .inr (.inl F)))]) [7, 8] rfl
            have hDc := hD.sub (ws' := [(h0, .inr (11, MO ma sv_thrown sv_length sv_nodes sv_many sv_directories sv_runsFrom sv_runs sv_read sv_wrong sv_isNamed sv_goes sv_goesSize sv_goesAt sv_targetParts sv_isRoot)), ((ma 16), .inl (cJ, 46080, .inr (.inl F)))]) [7, 8] (by decide +kernel) rfl
            have hFc := va_free (wc := [(h0, .inr (11, MO ma sv_thrown sv_length sv_nodes sv_many sv_directories sv_runsFrom sv_runs sv_read sv_wrong sv_isNamed sv_goes sv_goesSize sv_goesAt sv_targetParts sv_isRoot)), ((ma 16), .inl (cJ, 46080, .inr (.inl F)))]) hD hS hA [7, 8] rfl
            have hkc : 0 ≤ 0 := by decide
            have hks : 0 ≤ 0 := by decide
            refine va_calli (va_runV (C := "DiscMakerModel") (As := [.int v36, .int 4]) (rest := []) ⟨hx, hb, hml, hown, hts⟩ (m_isBoth l D cB cI cJ cZ cN cF H.size h0 ma sv_thrown sv_length sv_nodes sv_many sv_directories sv_runsFrom sv_runs sv_read sv_wrong sv_isNamed sv_goes sv_goesSize sv_goesAt sv_targetParts sv_isRoot F v36 4 (by (try dsimp only); first | assumption | omega | trivial) (by (try dsimp only); first | assumption | omega | trivial) (by (try dsimp only); first | assumption | omega | trivial)) (cwV 2 hts (lg_goodV k1837 k1839 k99 k125 kc_DiscMakerModel_isBoth) rfl rfl rfl (by decide +kernel) ⟨Nat.le_of_ble_eq_true rfl, Nat.le_of_ble_eq_true rfl⟩) ⟨fun a U g mk q => by obtain ⟨q0, q1, qP, qK, qN, qD⟩ := q; exact ⟨q0, q1, qP, va_K.moved (u := U) (U := U.calling g mk a) (Vm.Alike.refl U.vm) qK, qN.calling, qD⟩, va_recv hK hP (ci := 11) (q0 := 7) rfl rfl, fun U hU hW => ⟨rfl, by rw [hU], by rw [hU]; exact hPc, va_K.moved hW.alike hK, NN.warm hW hN, hDc.weaken (fun _ _ _ _ => trivial)⟩⟩ rfl rfl hl.1 rfl (lv_room (Nat.le_of_ble_eq_true rfl)) d_DiscMakerModel_part_75 ⟨hkc, hks⟩) hS (fun q _ h => hFc q h) hFc (fun r37 u t H1 locs ht hvm hp_r37 hB hz1 hk1 hS => ?_)
            obtain ⟨hP1, hD1⟩ := hB
            rw [ht] at hP1
            obtain ⟨hP, hD⟩ := va_join (wr := [((ma 25), .inl (cI, 100, .inl fM)), ((ma 26), .inl (cI, 100, .inl fO)), ((ma 27), .inl (cI, 100, .inl fG)), ((ma 28), .inl (cB, 6000, .inl fN)), ((ma 29), .inl (cI, 100, .inl fNS)), ((ma 30), .inl (cB, 40000, .inl fT)), ((ma 31), .inl (cI, 100, .inl fTS))]) (w1 := [(h0, .inr (11, MO ma sv_thrown sv_length sv_nodes sv_many sv_directories sv_runsFrom sv_runs sv_read sv_wrong sv_isNamed sv_goes sv_goesSize sv_goesAt sv_targetParts sv_isRoot)), ((ma 16), .inl (cJ, 46080, .inr (.inl F)))]) hP hD [7, 8] [0, 1, 2, 3, 4, 5, 6] rfl rfl (by decide +kernel) (by decide +kernel) hk1 hFc hP1 hD1
            clear hPc hDc hFc hP1 hD1 hk1 hz1 hkc hks
            generalize H1 = H at hP hS ⊢
            have hP : va_P D CL [((ma 25), .inl (cI, 100, .inl fM)), ((ma 26), .inl (cI, 100, .inl fO)), ((ma 27), .inl (cI, 100, .inl fG)), ((ma 28), .inl (cB, 6000, .inl fN)), ((ma 29), .inl (cI, 100, .inl fNS)), ((ma 30), .inl (cB, 40000, .inl fT)), ((ma 31), .inl (cI, 100, .inl fTS)), (h0, .inr (11, MO ma sv_thrown sv_length sv_nodes sv_many sv_directories sv_runsFrom sv_runs sv_read sv_wrong sv_isNamed sv_goes sv_goesSize sv_goesAt sv_targetParts sv_isRoot)), ((ma 16), .inl (cJ, 46080, .inr (.inl F)))] H := hP
            have hD : va_D A [((ma 25), .inl (cI, 100, .inl fM)), ((ma 26), .inl (cI, 100, .inl fO)), ((ma 27), .inl (cI, 100, .inl fG)), ((ma 28), .inl (cB, 6000, .inl fN)), ((ma 29), .inl (cI, 100, .inl fNS)), ((ma 30), .inl (cB, 40000, .inl fT)), ((ma 31), .inl (cI, 100, .inl fTS)), (h0, .inr (11, MO ma sv_thrown sv_length sv_nodes sv_many sv_directories sv_runsFrom sv_runs sv_read sv_wrong sv_isNamed sv_goes sv_goesSize sv_goesAt sv_targetParts sv_isRoot)), ((ma 16), .inl (cJ, 46080, .inr (.inl F)))] := hD
            try dsimp only at hp_r37
            have hr_38 := hp_r37
            refine lv_if_eq (tgt := 105) hx hb d_DiscMakerModel_part_78 (by decide) (fun h_9 => ?_) (fun h_9 => ?_)
            · skip
              have g78_143 : r37.toInt = 0 := (i_eq rfl (by decide)).mp h_9
              refine lv_iconst (v := 0) hx hb d_DiscMakerModel_part_105 (by decide) ?_
              have hP9 := hP.sub (ws' := [(h0, .inr (11, MO ma sv_thrown sv_length sv_nodes sv_many sv_directories sv_runsFrom sv_runs sv_read sv_wrong sv_isNamed sv_goes sv_goesSize sv_goesAt sv_targetParts sv_isRoot)), ((ma 16), .inl (cJ, 46080, .inr (.inl F))), ((ma 25), .inl (cI, 100, .inl fM)), ((ma 26), .inl (cI, 100, .inl fO)), ((ma 27), .inl (cI, 100, .inl fG)), ((ma 28), .inl (cB, 6000, .inl fN)), ((ma 29), .inl (cI, 100, .inl fNS)), ((ma 30), .inl (cB, 40000, .inl fT)), ((ma 31), .inl (cI, 100, .inl fTS))]) [7, 8, 0, 1, 2, 3, 4, 5, 6] rfl
              have hD9 := hD.sub (ws' := [(h0, .inr (11, MO ma sv_thrown sv_length sv_nodes sv_many sv_directories sv_runsFrom sv_runs sv_read sv_wrong sv_isNamed sv_goes sv_goesSize sv_goesAt sv_targetParts sv_isRoot)), ((ma 16), .inl (cJ, 46080, .inr (.inl F))), ((ma 25), .inl (cI, 100, .inl fM)), ((ma 26), .inl (cI, 100, .inl fO)), ((ma 27), .inl (cI, 100, .inl fG)), ((ma 28), .inl (cB, 6000, .inl fN)), ((ma 29), .inl (cI, 100, .inl fNS)), ((ma 30), .inl (cB, 40000, .inl fT)), ((ma 31), .inl (cI, 100, .inl fTS))]) [7, 8, 0, 1, 2, 3, 4, 5, 6] (by decide +kernel) rfl
              exact W.zret (v := 0) hx hb hr (by first | rfl | decide | exact i_narZ (by omega)) (fun t ht hW => ⟨⟨0, (sv_isNamed, sv_goes, sv_goesSize, sv_goesAt, sv_targetParts, sv_isRoot, fM, fO, fG, fN, fNS, fT, fTS), rfl, ⟨(by (try dsimp only); first | assumption | omega | trivial), (by (try dsimp only); first | assumption | omega | trivial), (by (try dsimp only); first | assumption | omega | trivial), (by (try dsimp only); first | assumption | omega | trivial)⟩, by rw [ht]; exact hP9, hD9⟩, hS.F ht⟩) hS.2.2 d_DiscMakerModel_part_106
            · skip
              have g78_143 : ¬ r37.toInt = 0 := fun h8 => h_9 ((i_eq rfl (by decide)).mpr h8)
              refine lv_aload_n hx hb d_DiscMakerModel_part_81 rfl (lv_at hl 0 rfl) ?_
              refine lv_iload_n hx hb d_DiscMakerModel_part_82 rfl (lv_at hl 2 rfl) ?_
              refine lv_bipush (v := 20) hx hb d_DiscMakerModel_part_83 (by decide) ?_
              refine lv_iadd hx hb d_DiscMakerModel_part_85 ?_
              refine lv_topi (fun v39 e_v39 => ?_)
              have t_v39 : v39.toInt = y.toInt + 20 := by rw [e_v39]; exact i_add rfl (by decide) (by omega) (by omega)
              refine lv_iconst (v := 4) hx hb d_DiscMakerModel_part_86 (by decide) ?_
              have hPc := hP.sub (ws' := [(h0, .inr (11, MO ma sv_thrown sv_length sv_nodes sv_many sv_directories sv_runsFrom sv_runs sv_read sv_wrong sv_isNamed sv_goes sv_goesSize sv_goesAt sv_targetParts sv_isRoot)), ((ma 16), .inl (cJ, 46080, .inr (.inl F)))]) [7, 8] rfl
              have hDc := hD.sub (ws' := [(h0, .inr (11, MO ma sv_thrown sv_length sv_nodes sv_many sv_directories sv_runsFrom sv_runs sv_read sv_wrong sv_isNamed sv_goes sv_goesSize sv_goesAt sv_targetParts sv_isRoot)), ((ma 16), .inl (cJ, 46080, .inr (.inl F)))]) [7, 8] (by decide +kernel) rfl
              have hFc := va_free (wc := [(h0, .inr (11, MO ma sv_thrown sv_length sv_nodes sv_many sv_directories sv_runsFrom sv_runs sv_read sv_wrong sv_isNamed sv_goes sv_goesSize sv_goesAt sv_targetParts sv_isRoot)), ((ma 16), .inl (cJ, 46080, .inr (.inl F)))]) hD hS hA [7, 8] rfl
              have hkc : 0 ≤ 0 := by decide
              have hks : 0 ≤ 0 := by decide
              refine va_calli (va_runV (C := "DiscMakerModel") (As := [.int v39, .int 4]) (rest := []) ⟨hx, hb, hml, hown, hts⟩ (m_isBoth l D cB cI cJ cZ cN cF H.size h0 ma sv_thrown sv_length sv_nodes sv_many sv_directories sv_runsFrom sv_runs sv_read sv_wrong sv_isNamed sv_goes sv_goesSize sv_goesAt sv_targetParts sv_isRoot F v39 4 (by (try dsimp only); first | assumption | omega | trivial) (by (try dsimp only); first | assumption | omega | trivial) (by (try dsimp only); first | assumption | omega | trivial)) (cwV 2 hts (lg_goodV k1837 k1839 k99 k125 kc_DiscMakerModel_isBoth) rfl rfl rfl (by decide +kernel) ⟨Nat.le_of_ble_eq_true rfl, Nat.le_of_ble_eq_true rfl⟩) ⟨fun a U g mk q => by obtain ⟨q0, q1, qP, qK, qN, qD⟩ := q; exact ⟨q0, q1, qP, va_K.moved (u := U) (U := U.calling g mk a) (Vm.Alike.refl U.vm) qK, qN.calling, qD⟩, va_recv hK hP (ci := 11) (q0 := 7) rfl rfl, fun U hU hW => ⟨rfl, by rw [hU], by rw [hU]; exact hPc, va_K.moved hW.alike hK, NN.warm hW hN, hDc.weaken (fun _ _ _ _ => trivial)⟩⟩ rfl rfl hl.1 rfl (lv_room (Nat.le_of_ble_eq_true rfl)) d_DiscMakerModel_part_87 ⟨hkc, hks⟩) hS (fun q _ h => hFc q h) hFc (fun r40 u t H1 locs ht hvm hp_r40 hB hz1 hk1 hS => ?_)
              obtain ⟨hP1, hD1⟩ := hB
              rw [ht] at hP1
              obtain ⟨hP, hD⟩ := va_join (wr := [((ma 25), .inl (cI, 100, .inl fM)), ((ma 26), .inl (cI, 100, .inl fO)), ((ma 27), .inl (cI, 100, .inl fG)), ((ma 28), .inl (cB, 6000, .inl fN)), ((ma 29), .inl (cI, 100, .inl fNS)), ((ma 30), .inl (cB, 40000, .inl fT)), ((ma 31), .inl (cI, 100, .inl fTS))]) (w1 := [(h0, .inr (11, MO ma sv_thrown sv_length sv_nodes sv_many sv_directories sv_runsFrom sv_runs sv_read sv_wrong sv_isNamed sv_goes sv_goesSize sv_goesAt sv_targetParts sv_isRoot)), ((ma 16), .inl (cJ, 46080, .inr (.inl F)))]) hP hD [7, 8] [0, 1, 2, 3, 4, 5, 6] rfl rfl (by decide +kernel) (by decide +kernel) hk1 hFc hP1 hD1
              clear hPc hDc hFc hP1 hD1 hk1 hz1 hkc hks
              generalize H1 = H at hP hS ⊢
              have hP : va_P D CL [((ma 25), .inl (cI, 100, .inl fM)), ((ma 26), .inl (cI, 100, .inl fO)), ((ma 27), .inl (cI, 100, .inl fG)), ((ma 28), .inl (cB, 6000, .inl fN)), ((ma 29), .inl (cI, 100, .inl fNS)), ((ma 30), .inl (cB, 40000, .inl fT)), ((ma 31), .inl (cI, 100, .inl fTS)), (h0, .inr (11, MO ma sv_thrown sv_length sv_nodes sv_many sv_directories sv_runsFrom sv_runs sv_read sv_wrong sv_isNamed sv_goes sv_goesSize sv_goesAt sv_targetParts sv_isRoot)), ((ma 16), .inl (cJ, 46080, .inr (.inl F)))] H := hP
              have hD : va_D A [((ma 25), .inl (cI, 100, .inl fM)), ((ma 26), .inl (cI, 100, .inl fO)), ((ma 27), .inl (cI, 100, .inl fG)), ((ma 28), .inl (cB, 6000, .inl fN)), ((ma 29), .inl (cI, 100, .inl fNS)), ((ma 30), .inl (cB, 40000, .inl fT)), ((ma 31), .inl (cI, 100, .inl fTS)), (h0, .inr (11, MO ma sv_thrown sv_length sv_nodes sv_many sv_directories sv_runsFrom sv_runs sv_read sv_wrong sv_isNamed sv_goes sv_goesSize sv_goesAt sv_targetParts sv_isRoot)), ((ma 16), .inl (cJ, 46080, .inr (.inl F)))] := hD
              try dsimp only at hp_r40
              have hr_41 := hp_r40
              refine lv_if_eq (tgt := 105) hx hb d_DiscMakerModel_part_90 (by decide) (fun h_9 => ?_) (fun h_9 => ?_)
              · skip
                have g90_152 : r40.toInt = 0 := (i_eq rfl (by decide)).mp h_9
                refine lv_iconst (v := 0) hx hb d_DiscMakerModel_part_105 (by decide) ?_
                have hP9 := hP.sub (ws' := [(h0, .inr (11, MO ma sv_thrown sv_length sv_nodes sv_many sv_directories sv_runsFrom sv_runs sv_read sv_wrong sv_isNamed sv_goes sv_goesSize sv_goesAt sv_targetParts sv_isRoot)), ((ma 16), .inl (cJ, 46080, .inr (.inl F))), ((ma 25), .inl (cI, 100, .inl fM)), ((ma 26), .inl (cI, 100, .inl fO)), ((ma 27), .inl (cI, 100, .inl fG)), ((ma 28), .inl (cB, 6000, .inl fN)), ((ma 29), .inl (cI, 100, .inl fNS)), ((ma 30), .inl (cB, 40000, .inl fT)), ((ma 31), .inl (cI, 100, .inl fTS))]) [7, 8, 0, 1, 2, 3, 4, 5, 6] rfl
                have hD9 := hD.sub (ws' := [(h0, .inr (11, MO ma sv_thrown sv_length sv_nodes sv_many sv_directories sv_runsFrom sv_runs sv_read sv_wrong sv_isNamed sv_goes sv_goesSize sv_goesAt sv_targetParts sv_isRoot)), ((ma 16), .inl (cJ, 46080, .inr (.inl F))), ((ma 25), .inl (cI, 100, .inl fM)), ((ma 26), .inl (cI, 100, .inl fO)), ((ma 27), .inl (cI, 100, .inl fG)), ((ma 28), .inl (cB, 6000, .inl fN)), ((ma 29), .inl (cI, 100, .inl fNS)), ((ma 30), .inl (cB, 40000, .inl fT)), ((ma 31), .inl (cI, 100, .inl fTS))]) [7, 8, 0, 1, 2, 3, 4, 5, 6] (by decide +kernel) rfl
                exact W.zret (v := 0) hx hb hr (by first | rfl | decide | exact i_narZ (by omega)) (fun t ht hW => ⟨⟨0, (sv_isNamed, sv_goes, sv_goesSize, sv_goesAt, sv_targetParts, sv_isRoot, fM, fO, fG, fN, fNS, fT, fTS), rfl, ⟨(by (try dsimp only); first | assumption | omega | trivial), (by (try dsimp only); first | assumption | omega | trivial), (by (try dsimp only); first | assumption | omega | trivial), (by (try dsimp only); first | assumption | omega | trivial)⟩, by rw [ht]; exact hP9, hD9⟩, hS.F ht⟩) hS.2.2 d_DiscMakerModel_part_106
              · skip
                have g90_152 : ¬ r40.toInt = 0 := fun h8 => h_9 ((i_eq rfl (by decide)).mpr h8)
                refine lv_aload_n hx hb d_DiscMakerModel_part_93 rfl (lv_at hl 0 rfl) ?_
                refine lv_iload_n hx hb d_DiscMakerModel_part_94 rfl (lv_at hl 2 rfl) ?_
                refine lv_bipush (v := 28) hx hb d_DiscMakerModel_part_95 (by decide) ?_
                refine lv_iadd hx hb d_DiscMakerModel_part_97 ?_
                refine lv_topi (fun v42 e_v42 => ?_)
                have t_v42 : v42.toInt = y.toInt + 28 := by rw [e_v42]; exact i_add rfl (by decide) (by omega) (by omega)
                refine lv_iconst (v := 4) hx hb d_DiscMakerModel_part_98 (by decide) ?_
                have hPc := hP.sub (ws' := [(h0, .inr (11, MO ma sv_thrown sv_length sv_nodes sv_many sv_directories sv_runsFrom sv_runs sv_read sv_wrong sv_isNamed sv_goes sv_goesSize sv_goesAt sv_targetParts sv_isRoot)), ((ma 16), .inl (cJ, 46080, .inr (.inl F)))]) [7, 8] rfl
                have hDc := hD.sub (ws' := [(h0, .inr (11, MO ma sv_thrown sv_length sv_nodes sv_many sv_directories sv_runsFrom sv_runs sv_read sv_wrong sv_isNamed sv_goes sv_goesSize sv_goesAt sv_targetParts sv_isRoot)), ((ma 16), .inl (cJ, 46080, .inr (.inl F)))]) [7, 8] (by decide +kernel) rfl
                have hFc := va_free (wc := [(h0, .inr (11, MO ma sv_thrown sv_length sv_nodes sv_many sv_directories sv_runsFrom sv_runs sv_read sv_wrong sv_isNamed sv_goes sv_goesSize sv_goesAt sv_targetParts sv_isRoot)), ((ma 16), .inl (cJ, 46080, .inr (.inl F)))]) hD hS hA [7, 8] rfl
                have hkc : 0 ≤ 0 := by decide
                have hks : 0 ≤ 0 := by decide
                refine va_calli (va_runV (C := "DiscMakerModel") (As := [.int v42, .int 4]) (rest := []) ⟨hx, hb, hml, hown, hts⟩ (m_isBoth l D cB cI cJ cZ cN cF H.size h0 ma sv_thrown sv_length sv_nodes sv_many sv_directories sv_runsFrom sv_runs sv_read sv_wrong sv_isNamed sv_goes sv_goesSize sv_goesAt sv_targetParts sv_isRoot F v42 4 (by (try dsimp only); first | assumption | omega | trivial) (by (try dsimp only); first | assumption | omega | trivial) (by (try dsimp only); first | assumption | omega | trivial)) (cwV 2 hts (lg_goodV k1837 k1839 k99 k125 kc_DiscMakerModel_isBoth) rfl rfl rfl (by decide +kernel) ⟨Nat.le_of_ble_eq_true rfl, Nat.le_of_ble_eq_true rfl⟩) ⟨fun a U g mk q => by obtain ⟨q0, q1, qP, qK, qN, qD⟩ := q; exact ⟨q0, q1, qP, va_K.moved (u := U) (U := U.calling g mk a) (Vm.Alike.refl U.vm) qK, qN.calling, qD⟩, va_recv hK hP (ci := 11) (q0 := 7) rfl rfl, fun U hU hW => ⟨rfl, by rw [hU], by rw [hU]; exact hPc, va_K.moved hW.alike hK, NN.warm hW hN, hDc.weaken (fun _ _ _ _ => trivial)⟩⟩ rfl rfl hl.1 rfl (lv_room (Nat.le_of_ble_eq_true rfl)) d_DiscMakerModel_part_99 ⟨hkc, hks⟩) hS (fun q _ h => hFc q h) hFc (fun r43 u t H1 locs ht hvm hp_r43 hB hz1 hk1 hS => ?_)
                obtain ⟨hP1, hD1⟩ := hB
                rw [ht] at hP1
                obtain ⟨hP, hD⟩ := va_join (wr := [((ma 25), .inl (cI, 100, .inl fM)), ((ma 26), .inl (cI, 100, .inl fO)), ((ma 27), .inl (cI, 100, .inl fG)), ((ma 28), .inl (cB, 6000, .inl fN)), ((ma 29), .inl (cI, 100, .inl fNS)), ((ma 30), .inl (cB, 40000, .inl fT)), ((ma 31), .inl (cI, 100, .inl fTS))]) (w1 := [(h0, .inr (11, MO ma sv_thrown sv_length sv_nodes sv_many sv_directories sv_runsFrom sv_runs sv_read sv_wrong sv_isNamed sv_goes sv_goesSize sv_goesAt sv_targetParts sv_isRoot)), ((ma 16), .inl (cJ, 46080, .inr (.inl F)))]) hP hD [7, 8] [0, 1, 2, 3, 4, 5, 6] rfl rfl (by decide +kernel) (by decide +kernel) hk1 hFc hP1 hD1
                clear hPc hDc hFc hP1 hD1 hk1 hz1 hkc hks
                generalize H1 = H at hP hS ⊢
                have hP : va_P D CL [((ma 25), .inl (cI, 100, .inl fM)), ((ma 26), .inl (cI, 100, .inl fO)), ((ma 27), .inl (cI, 100, .inl fG)), ((ma 28), .inl (cB, 6000, .inl fN)), ((ma 29), .inl (cI, 100, .inl fNS)), ((ma 30), .inl (cB, 40000, .inl fT)), ((ma 31), .inl (cI, 100, .inl fTS)), (h0, .inr (11, MO ma sv_thrown sv_length sv_nodes sv_many sv_directories sv_runsFrom sv_runs sv_read sv_wrong sv_isNamed sv_goes sv_goesSize sv_goesAt sv_targetParts sv_isRoot)), ((ma 16), .inl (cJ, 46080, .inr (.inl F)))] H := hP
                have hD : va_D A [((ma 25), .inl (cI, 100, .inl fM)), ((ma 26), .inl (cI, 100, .inl fO)), ((ma 27), .inl (cI, 100, .inl fG)), ((ma 28), .inl (cB, 6000, .inl fN)), ((ma 29), .inl (cI, 100, .inl fNS)), ((ma 30), .inl (cB, 40000, .inl fT)), ((ma 31), .inl (cI, 100, .inl fTS)), (h0, .inr (11, MO ma sv_thrown sv_length sv_nodes sv_many sv_directories sv_runsFrom sv_runs sv_read sv_wrong sv_isNamed sv_goes sv_goesSize sv_goesAt sv_targetParts sv_isRoot)), ((ma 16), .inl (cJ, 46080, .inr (.inl F)))] := hD
                try dsimp only at hp_r43
                have hr_44 := hp_r43
                refine lv_if_ne (tgt := 107) hx hb d_DiscMakerModel_part_102 (by decide) (fun h_9 => ?_) (fun h_9 => ?_)
                · skip
                  have g102_161 : ¬ r43.toInt = 0 := fun h8 => h_9 ((i_eq rfl (by decide)).mpr h8)
                  refine lv_aload_n hx hb d_DiscMakerModel_part_107 rfl (lv_at hl 0 rfl) ?_
                  refine va_get (D := D) (ci := 11) (v := .ref (ma 25)) (C := "DiscMakerModel") (T := F_DiscMakerModel) (N := 48) hx hb ht9 in_DiscMakerModel hown hK hP 7 rfl rfl 33 (by decide) (ht9 _ k1464) (fun _ h9 => h9) rfl d_DiscMakerModel_part_108 ?_
                  refine lv_iload_n hx hb d_DiscMakerModel_part_111 rfl (lv_at hl 1 rfl) ?_
                  refine lv_aload_n hx hb d_DiscMakerModel_part_112 rfl (lv_at hl 0 rfl) ?_
                  refine lv_iload_n hx hb d_DiscMakerModel_part_113 rfl (lv_at hl 2 rfl) ?_
                  refine lv_iconst (v := 4) hx hb d_DiscMakerModel_part_114 (by decide) ?_
                  refine lv_iadd hx hb d_DiscMakerModel_part_115 ?_
                  refine lv_topi (fun v45 e_v45 => ?_)
                  have t_v45 : v45.toInt = y.toInt + 4 := by rw [e_v45]; exact i_add rfl (by decide) (by omega) (by omega)
                  refine lv_iconst (v := 4) hx hb d_DiscMakerModel_part_116 (by decide) ?_
                  have hPc := hP.sub (ws' := [(h0, .inr (11, MO ma sv_thrown sv_length sv_nodes sv_many sv_directories sv_runsFrom sv_runs sv_read sv_wrong sv_isNamed sv_goes sv_goesSize sv_goesAt sv_targetParts sv_isRoot)), ((ma 16), .inl (cJ, 46080, .inr (.inl F)))]) [7, 8] rfl
                  have hDc := hD.sub (ws' := [(h0, .inr (11, MO ma sv_thrown sv_length sv_nodes sv_many sv_directories sv_runsFrom sv_runs sv_read sv_wrong sv_isNamed sv_goes sv_goesSize sv_goesAt sv_targetParts sv_isRoot)), ((ma 16), .inl (cJ, 46080, .inr (.inl F)))]) [7, 8] (by decide +kernel) rfl
                  have hFc := va_free (wc := [(h0, .inr (11, MO ma sv_thrown sv_length sv_nodes sv_many sv_directories sv_runsFrom sv_runs sv_read sv_wrong sv_isNamed sv_goes sv_goesSize sv_goesAt sv_targetParts sv_isRoot)), ((ma 16), .inl (cJ, 46080, .inr (.inl F)))]) hD hS hA [7, 8] rfl
                  have hkc : 0 ≤ 0 := by decide
                  have hks : 0 ≤ 0 := by decide
                  refine va_calli (va_runV (C := "DiscMakerModel") (As := [.int v45, .int 4]) (rest := [.int x, .ref (ma 25)]) ⟨hx, hb, hml, hown, hts⟩ (m_lowAt4 l D cB cI cJ cZ cN cF H.size h0 ma sv_thrown sv_length sv_nodes sv_many sv_directories sv_runsFrom sv_runs sv_read sv_wrong sv_isNamed sv_goes sv_goesSize sv_goesAt sv_targetParts sv_isRoot F v45 (by (try dsimp only); first | assumption | omega | trivial) (by (try dsimp only); first | assumption | omega | trivial)) (cwV 2 hts (lg_goodV k1841 k1843 k100 k125 kc_DiscMakerModel_lowAt) rfl rfl rfl (by decide +kernel) ⟨Nat.le_of_ble_eq_true rfl, Nat.le_of_ble_eq_true rfl⟩) ⟨fun a U g mk q => by obtain ⟨q0, q1, qP, qK, qN, qD⟩ := q; exact ⟨q0, q1, qP, va_K.moved (u := U) (U := U.calling g mk a) (Vm.Alike.refl U.vm) qK, qN.calling, qD⟩, va_recv hK hP (ci := 11) (q0 := 7) rfl rfl, fun U hU hW => ⟨rfl, by rw [hU], by rw [hU]; exact hPc, va_K.moved hW.alike hK, NN.warm hW hN, hDc.weaken (fun _ _ _ _ => trivial)⟩⟩ rfl rfl hl.1 rfl (lv_room (Nat.le_of_ble_eq_true rfl)) d_DiscMakerModel_part_117 ⟨hkc, hks⟩) hS (fun q _ h => hFc q h) hFc (fun r46 u t H1 locs ht hvm hp_r46 hB hz1 hk1 hS => ?_)
                  obtain ⟨hP1, hD1⟩ := hB
                  rw [ht] at hP1
                  obtain ⟨hP, hD⟩ := va_join (wr := [((ma 25), .inl (cI, 100, .inl fM)), ((ma 26), .inl (cI, 100, .inl fO)), ((ma 27), .inl (cI, 100, .inl fG)), ((ma 28), .inl (cB, 6000, .inl fN)), ((ma 29), .inl (cI, 100, .inl fNS)), ((ma 30), .inl (cB, 40000, .inl fT)), ((ma 31), .inl (cI, 100, .inl fTS))]) (w1 := [(h0, .inr (11, MO ma sv_thrown sv_length sv_nodes sv_many sv_directories sv_runsFrom sv_runs sv_read sv_wrong sv_isNamed sv_goes sv_goesSize sv_goesAt sv_targetParts sv_isRoot)), ((ma 16), .inl (cJ, 46080, .inr (.inl F)))]) hP hD [7, 8] [0, 1, 2, 3, 4, 5, 6] rfl rfl (by decide +kernel) (by decide +kernel) hk1 hFc hP1 hD1
                  clear hPc hDc hFc hP1 hD1 hk1 hz1 hkc hks
                  generalize H1 = H at hP hS ⊢
                  have hP : va_P D CL [((ma 25), .inl (cI, 100, .inl fM)), ((ma 26), .inl (cI, 100, .inl fO)), ((ma 27), .inl (cI, 100, .inl fG)), ((ma 28), .inl (cB, 6000, .inl fN)), ((ma 29), .inl (cI, 100, .inl fNS)), ((ma 30), .inl (cB, 40000, .inl fT)), ((ma 31), .inl (cI, 100, .inl fTS)), (h0, .inr (11, MO ma sv_thrown sv_length sv_nodes sv_many sv_directories sv_runsFrom sv_runs sv_read sv_wrong sv_isNamed sv_goes sv_goesSize sv_goesAt sv_targetParts sv_isRoot)), ((ma 16), .inl (cJ, 46080, .inr (.inl F)))] H := hP
                  have hD : va_D A [((ma 25), .inl (cI, 100, .inl fM)), ((ma 26), .inl (cI, 100, .inl fO)), ((ma 27), .inl (cI, 100, .inl fG)), ((ma 28), .inl (cB, 6000, .inl fN)), ((ma 29), .inl (cI, 100, .inl fNS)), ((ma 30), .inl (cB, 40000, .inl fT)), ((ma 31), .inl (cI, 100, .inl fTS)), (h0, .inr (11, MO ma sv_thrown sv_length sv_nodes sv_many sv_directories sv_runsFrom sv_runs sv_read sv_wrong sv_isNamed sv_goes sv_goesSize sv_goesAt sv_targetParts sv_isRoot)), ((ma 16), .inl (cJ, 46080, .inr (.inl F)))] := hD
                  try dsimp only at hp_r46
                  have hv_47 := hp_r46
                  refine zq_iast hx hb hK hP hD hS 0 1 rfl rfl (vp_in_iff.mpr ⟨by omega, by omega⟩) d_DiscMakerModel_part_120 (fun f48 e_f48 H locs hP hD hS => ?_)
                  have hP : va_P D CL [((ma 25), .inl (cI, 100, .inl f48)), ((ma 26), .inl (cI, 100, .inl fO)), ((ma 27), .inl (cI, 100, .inl fG)), ((ma 28), .inl (cB, 6000, .inl fN)), ((ma 29), .inl (cI, 100, .inl fNS)), ((ma 30), .inl (cB, 40000, .inl fT)), ((ma 31), .inl (cI, 100, .inl fTS)), (h0, .inr (11, MO ma sv_thrown sv_length sv_nodes sv_many sv_directories sv_runsFrom sv_runs sv_read sv_wrong sv_isNamed sv_goes sv_goesSize sv_goesAt sv_targetParts sv_isRoot)), ((ma 16), .inl (cJ, 46080, .inr (.inl F)))] H := hP
                  have hD : va_D A [((ma 25), .inl (cI, 100, .inl f48)), ((ma 26), .inl (cI, 100, .inl fO)), ((ma 27), .inl (cI, 100, .inl fG)), ((ma 28), .inl (cB, 6000, .inl fN)), ((ma 29), .inl (cI, 100, .inl fNS)), ((ma 30), .inl (cB, 40000, .inl fT)), ((ma 31), .inl (cI, 100, .inl fTS)), (h0, .inr (11, MO ma sv_thrown sv_length sv_nodes sv_many sv_directories sv_runsFrom sv_runs sv_read sv_wrong sv_isNamed sv_goes sv_goesSize sv_goesAt sv_targetParts sv_isRoot)), ((ma 16), .inl (cJ, 46080, .inr (.inl F)))] := hD
                  have s_f48 : f48 x.toNatClampNeg = r46 := by rw [e_f48]; unfold upd; rw [if_pos (by first | rfl | decide)]
                  refine lv_aload_n hx hb d_DiscMakerModel_part_121 rfl (lv_at hl 0 rfl) ?_
                  refine va_get (D := D) (ci := 11) (v := .ref (ma 26)) (C := "DiscMakerModel") (T := F_DiscMakerModel) (N := 48) hx hb ht9 in_DiscMakerModel hown hK hP 7 rfl rfl 34 (by decide) (ht9 _ k1465) (fun _ h9 => h9) rfl d_DiscMakerModel_part_122 ?_
                  refine lv_iload_n hx hb d_DiscMakerModel_part_125 rfl (lv_at hl 1 rfl) ?_
                  refine lv_aload_n hx hb d_DiscMakerModel_part_126 rfl (lv_at hl 0 rfl) ?_
                  refine lv_iload_n hx hb d_DiscMakerModel_part_127 rfl (lv_at hl 2 rfl) ?_
                  refine lv_bipush (v := 20) hx hb d_DiscMakerModel_part_128 (by decide) ?_
                  refine lv_iadd hx hb d_DiscMakerModel_part_130 ?_
                  refine lv_topi (fun v49 e_v49 => ?_)
                  have t_v49 : v49.toInt = y.toInt + 20 := by rw [e_v49]; exact i_add rfl (by decide) (by omega) (by omega)
                  refine lv_iconst (v := 4) hx hb d_DiscMakerModel_part_131 (by decide) ?_
                  have hPc := hP.sub (ws' := [(h0, .inr (11, MO ma sv_thrown sv_length sv_nodes sv_many sv_directories sv_runsFrom sv_runs sv_read sv_wrong sv_isNamed sv_goes sv_goesSize sv_goesAt sv_targetParts sv_isRoot)), ((ma 16), .inl (cJ, 46080, .inr (.inl F)))]) [7, 8] rfl
                  have hDc := hD.sub (ws' := [(h0, .inr (11, MO ma sv_thrown sv_length sv_nodes sv_many sv_directories sv_runsFrom sv_runs sv_read sv_wrong sv_isNamed sv_goes sv_goesSize sv_goesAt sv_targetParts sv_isRoot)), ((ma 16), .inl (cJ, 46080, .inr (.inl F)))]) [7, 8] (by decide +kernel) rfl
                  have hFc := va_free (wc := [(h0, .inr (11, MO ma sv_thrown sv_length sv_nodes sv_many sv_directories sv_runsFrom sv_runs sv_read sv_wrong sv_isNamed sv_goes sv_goesSize sv_goesAt sv_targetParts sv_isRoot)), ((ma 16), .inl (cJ, 46080, .inr (.inl F)))]) hD hS hA [7, 8] rfl
                  have hkc : 0 ≤ 0 := by decide
                  have hks : 0 ≤ 0 := by decide
                  refine va_calli (va_runV (C := "DiscMakerModel") (As := [.int v49, .int 4]) (rest := [.int x, .ref (ma 26)]) ⟨hx, hb, hml, hown, hts⟩ (m_lowAt4 l D cB cI cJ cZ cN cF H.size h0 ma sv_thrown sv_length sv_nodes sv_many sv_directories sv_runsFrom sv_runs sv_read sv_wrong sv_isNamed sv_goes sv_goesSize sv_goesAt sv_targetParts sv_isRoot F v49 (by (try dsimp only); first | assumption | omega | trivial) (by (try dsimp only); first | assumption | omega | trivial)) (cwV 2 hts (lg_goodV k1841 k1843 k100 k125 kc_DiscMakerModel_lowAt) rfl rfl rfl (by decide +kernel) ⟨Nat.le_of_ble_eq_true rfl, Nat.le_of_ble_eq_true rfl⟩) ⟨fun a U g mk q => by obtain ⟨q0, q1, qP, qK, qN, qD⟩ := q; exact ⟨q0, q1, qP, va_K.moved (u := U) (U := U.calling g mk a) (Vm.Alike.refl U.vm) qK, qN.calling, qD⟩, va_recv hK hP (ci := 11) (q0 := 7) rfl rfl, fun U hU hW => ⟨rfl, by rw [hU], by rw [hU]; exact hPc, va_K.moved hW.alike hK, NN.warm hW hN, hDc.weaken (fun _ _ _ _ => trivial)⟩⟩ rfl rfl hl.1 rfl (lv_room (Nat.le_of_ble_eq_true rfl)) d_DiscMakerModel_part_132 ⟨hkc, hks⟩) hS (fun q _ h => hFc q h) hFc (fun r50 u t H1 locs ht hvm hp_r50 hB hz1 hk1 hS => ?_)
                  obtain ⟨hP1, hD1⟩ := hB
                  rw [ht] at hP1
                  obtain ⟨hP, hD⟩ := va_join (wr := [((ma 25), .inl (cI, 100, .inl f48)), ((ma 26), .inl (cI, 100, .inl fO)), ((ma 27), .inl (cI, 100, .inl fG)), ((ma 28), .inl (cB, 6000, .inl fN)), ((ma 29), .inl (cI, 100, .inl fNS)), ((ma 30), .inl (cB, 40000, .inl fT)), ((ma 31), .inl (cI, 100, .inl fTS))]) (w1 := [(h0, .inr (11, MO ma sv_thrown sv_length sv_nodes sv_many sv_directories sv_runsFrom sv_runs sv_read sv_wrong sv_isNamed sv_goes sv_goesSize sv_goesAt sv_targetParts sv_isRoot)), ((ma 16), .inl (cJ, 46080, .inr (.inl F)))]) hP hD [7, 8] [0, 1, 2, 3, 4, 5, 6] rfl rfl (by decide +kernel) (by decide +kernel) hk1 hFc hP1 hD1
                  clear hPc hDc hFc hP1 hD1 hk1 hz1 hkc hks
                  generalize H1 = H at hP hS ⊢
                  have hP : va_P D CL [((ma 25), .inl (cI, 100, .inl f48)), ((ma 26), .inl (cI, 100, .inl fO)), ((ma 27), .inl (cI, 100, .inl fG)), ((ma 28), .inl (cB, 6000, .inl fN)), ((ma 29), .inl (cI, 100, .inl fNS)), ((ma 30), .inl (cB, 40000, .inl fT)), ((ma 31), .inl (cI, 100, .inl fTS)), (h0, .inr (11, MO ma sv_thrown sv_length sv_nodes sv_many sv_directories sv_runsFrom sv_runs sv_read sv_wrong sv_isNamed sv_goes sv_goesSize sv_goesAt sv_targetParts sv_isRoot)), ((ma 16), .inl (cJ, 46080, .inr (.inl F)))] H := hP
                  have hD : va_D A [((ma 25), .inl (cI, 100, .inl f48)), ((ma 26), .inl (cI, 100, .inl fO)), ((ma 27), .inl (cI, 100, .inl fG)), ((ma 28), .inl (cB, 6000, .inl fN)), ((ma 29), .inl (cI, 100, .inl fNS)), ((ma 30), .inl (cB, 40000, .inl fT)), ((ma 31), .inl (cI, 100, .inl fTS)), (h0, .inr (11, MO ma sv_thrown sv_length sv_nodes sv_many sv_directories sv_runsFrom sv_runs sv_read sv_wrong sv_isNamed sv_goes sv_goesSize sv_goesAt sv_targetParts sv_isRoot)), ((ma 16), .inl (cJ, 46080, .inr (.inl F)))] := hD
                  try dsimp only at hp_r50
                  have hv_51 := hp_r50
                  refine zq_iast hx hb hK hP hD hS 1 1 rfl rfl (vp_in_iff.mpr ⟨by omega, by omega⟩) d_DiscMakerModel_part_135 (fun f52 e_f52 H locs hP hD hS => ?_)
                  have hP : va_P D CL [((ma 25), .inl (cI, 100, .inl f48)), ((ma 26), .inl (cI, 100, .inl f52)), ((ma 27), .inl (cI, 100, .inl fG)), ((ma 28), .inl (cB, 6000, .inl fN)), ((ma 29), .inl (cI, 100, .inl fNS)), ((ma 30), .inl (cB, 40000, .inl fT)), ((ma 31), .inl (cI, 100, .inl fTS)), (h0, .inr (11, MO ma sv_thrown sv_length sv_nodes sv_many sv_directories sv_runsFrom sv_runs sv_read sv_wrong sv_isNamed sv_goes sv_goesSize sv_goesAt sv_targetParts sv_isRoot)), ((ma 16), .inl (cJ, 46080, .inr (.inl F)))] H := hP
                  have hD : va_D A [((ma 25), .inl (cI, 100, .inl f48)), ((ma 26), .inl (cI, 100, .inl f52)), ((ma 27), .inl (cI, 100, .inl fG)), ((ma 28), .inl (cB, 6000, .inl fN)), ((ma 29), .inl (cI, 100, .inl fNS)), ((ma 30), .inl (cB, 40000, .inl fT)), ((ma 31), .inl (cI, 100, .inl fTS)), (h0, .inr (11, MO ma sv_thrown sv_length sv_nodes sv_many sv_directories sv_runsFrom sv_runs sv_read sv_wrong sv_isNamed sv_goes sv_goesSize sv_goesAt sv_targetParts sv_isRoot)), ((ma 16), .inl (cJ, 46080, .inr (.inl F)))] := hD
                  have s_f52 : f52 x.toNatClampNeg = r50 := by rw [e_f52]; unfold upd; rw [if_pos (by first | rfl | decide)]
                  refine lv_aload_n hx hb d_DiscMakerModel_part_136 rfl (lv_at hl 0 rfl) ?_
                  refine va_get (D := D) (ci := 11) (v := .ref (ma 27)) (C := "DiscMakerModel") (T := F_DiscMakerModel) (N := 48) hx hb ht9 in_DiscMakerModel hown hK hP 7 rfl rfl 35 (by decide) (ht9 _ k1466) (fun _ h9 => h9) rfl d_DiscMakerModel_part_137 ?_
                  refine lv_iload_n hx hb d_DiscMakerModel_part_140 rfl (lv_at hl 1 rfl) ?_
                  refine lv_aload_n hx hb d_DiscMakerModel_part_141 rfl (lv_at hl 0 rfl) ?_
                  refine lv_iload_n hx hb d_DiscMakerModel_part_142 rfl (lv_at hl 2 rfl) ?_
                  refine lv_bipush (v := 28) hx hb d_DiscMakerModel_part_143 (by decide) ?_
                  refine lv_iadd hx hb d_DiscMakerModel_part_145 ?_
                  refine lv_topi (fun v53 e_v53 => ?_)
                  have t_v53 : v53.toInt = y.toInt + 28 := by rw [e_v53]; exact i_add rfl (by decide) (by omega) (by omega)
                  refine lv_iconst (v := 4) hx hb d_DiscMakerModel_part_146 (by decide) ?_
                  have hPc := hP.sub (ws' := [(h0, .inr (11, MO ma sv_thrown sv_length sv_nodes sv_many sv_directories sv_runsFrom sv_runs sv_read sv_wrong sv_isNamed sv_goes sv_goesSize sv_goesAt sv_targetParts sv_isRoot)), ((ma 16), .inl (cJ, 46080, .inr (.inl F)))]) [7, 8] rfl
                  have hDc := hD.sub (ws' := [(h0, .inr (11, MO ma sv_thrown sv_length sv_nodes sv_many sv_directories sv_runsFrom sv_runs sv_read sv_wrong sv_isNamed sv_goes sv_goesSize sv_goesAt sv_targetParts sv_isRoot)), ((ma 16), .inl (cJ, 46080, .inr (.inl F)))]) [7, 8] (by decide +kernel) rfl
                  have hFc := va_free (wc := [(h0, .inr (11, MO ma sv_thrown sv_length sv_nodes sv_many sv_directories sv_runsFrom sv_runs sv_read sv_wrong sv_isNamed sv_goes sv_goesSize sv_goesAt sv_targetParts sv_isRoot)), ((ma 16), .inl (cJ, 46080, .inr (.inl F)))]) hD hS hA [7, 8] rfl
                  have hkc : 0 ≤ 0 := by decide
                  have hks : 0 ≤ 0 := by decide
                  refine va_calli (va_runV (C := "DiscMakerModel") (As := [.int v53, .int 4]) (rest := [.int x, .ref (ma 27)]) ⟨hx, hb, hml, hown, hts⟩ (m_lowAt4 l D cB cI cJ cZ cN cF H.size h0 ma sv_thrown sv_length sv_nodes sv_many sv_directories sv_runsFrom sv_runs sv_read sv_wrong sv_isNamed sv_goes sv_goesSize sv_goesAt sv_targetParts sv_isRoot F v53 (by (try dsimp only); first | assumption | omega | trivial) (by (try dsimp only); first | assumption | omega | trivial)) (cwV 2 hts (lg_goodV k1841 k1843 k100 k125 kc_DiscMakerModel_lowAt) rfl rfl rfl (by decide +kernel) ⟨Nat.le_of_ble_eq_true rfl, Nat.le_of_ble_eq_true rfl⟩) ⟨fun a U g mk q => by obtain ⟨q0, q1, qP, qK, qN, qD⟩ := q; exact ⟨q0, q1, qP, va_K.moved (u := U) (U := U.calling g mk a) (Vm.Alike.refl U.vm) qK, qN.calling, qD⟩, va_recv hK hP (ci := 11) (q0 := 7) rfl rfl, fun U hU hW => ⟨rfl, by rw [hU], by rw [hU]; exact hPc, va_K.moved hW.alike hK, NN.warm hW hN, hDc.weaken (fun _ _ _ _ => trivial)⟩⟩ rfl rfl hl.1 rfl (lv_room (Nat.le_of_ble_eq_true rfl)) d_DiscMakerModel_part_147 ⟨hkc, hks⟩) hS (fun q _ h => hFc q h) hFc (fun r54 u t H1 locs ht hvm hp_r54 hB hz1 hk1 hS => ?_)
                  obtain ⟨hP1, hD1⟩ := hB
                  rw [ht] at hP1
                  obtain ⟨hP, hD⟩ := va_join (wr := [((ma 25), .inl (cI, 100, .inl f48)), ((ma 26), .inl (cI, 100, .inl f52)), ((ma 27), .inl (cI, 100, .inl fG)), ((ma 28), .inl (cB, 6000, .inl fN)), ((ma 29), .inl (cI, 100, .inl fNS)), ((ma 30), .inl (cB, 40000, .inl fT)), ((ma 31), .inl (cI, 100, .inl fTS))]) (w1 := [(h0, .inr (11, MO ma sv_thrown sv_length sv_nodes sv_many sv_directories sv_runsFrom sv_runs sv_read sv_wrong sv_isNamed sv_goes sv_goesSize sv_goesAt sv_targetParts sv_isRoot)), ((ma 16), .inl (cJ, 46080, .inr (.inl F)))]) hP hD [7, 8] [0, 1, 2, 3, 4, 5, 6] rfl rfl (by decide +kernel) (by decide +kernel) hk1 hFc hP1 hD1
                  clear hPc hDc hFc hP1 hD1 hk1 hz1 hkc hks
                  generalize H1 = H at hP hS ⊢
                  have hP : va_P D CL [((ma 25), .inl (cI, 100, .inl f48)), ((ma 26), .inl (cI, 100, .inl f52)), ((ma 27), .inl (cI, 100, .inl fG)), ((ma 28), .inl (cB, 6000, .inl fN)), ((ma 29), .inl (cI, 100, .inl fNS)), ((ma 30), .inl (cB, 40000, .inl fT)), ((ma 31), .inl (cI, 100, .inl fTS)), (h0, .inr (11, MO ma sv_thrown sv_length sv_nodes sv_many sv_directories sv_runsFrom sv_runs sv_read sv_wrong sv_isNamed sv_goes sv_goesSize sv_goesAt sv_targetParts sv_isRoot)), ((ma 16), .inl (cJ, 46080, .inr (.inl F)))] H := hP
                  have hD : va_D A [((ma 25), .inl (cI, 100, .inl f48)), ((ma 26), .inl (cI, 100, .inl f52)), ((ma 27), .inl (cI, 100, .inl fG)), ((ma 28), .inl (cB, 6000, .inl fN)), ((ma 29), .inl (cI, 100, .inl fNS)), ((ma 30), .inl (cB, 40000, .inl fT)), ((ma 31), .inl (cI, 100, .inl fTS)), (h0, .inr (11, MO ma sv_thrown sv_length sv_nodes sv_many sv_directories sv_runsFrom sv_runs sv_read sv_wrong sv_isNamed sv_goes sv_goesSize sv_goesAt sv_targetParts sv_isRoot)), ((ma 16), .inl (cJ, 46080, .inr (.inl F)))] := hD
                  try dsimp only at hp_r54
                  have hv_55 := hp_r54
                  refine zq_iast hx hb hK hP hD hS 2 1 rfl rfl (vp_in_iff.mpr ⟨by omega, by omega⟩) d_DiscMakerModel_part_150 (fun f56 e_f56 H locs hP hD hS => ?_)
                  have hP : va_P D CL [((ma 25), .inl (cI, 100, .inl f48)), ((ma 26), .inl (cI, 100, .inl f52)), ((ma 27), .inl (cI, 100, .inl f56)), ((ma 28), .inl (cB, 6000, .inl fN)), ((ma 29), .inl (cI, 100, .inl fNS)), ((ma 30), .inl (cB, 40000, .inl fT)), ((ma 31), .inl (cI, 100, .inl fTS)), (h0, .inr (11, MO ma sv_thrown sv_length sv_nodes sv_many sv_directories sv_runsFrom sv_runs sv_read sv_wrong sv_isNamed sv_goes sv_goesSize sv_goesAt sv_targetParts sv_isRoot)), ((ma 16), .inl (cJ, 46080, .inr (.inl F)))] H := hP
                  have hD : va_D A [((ma 25), .inl (cI, 100, .inl f48)), ((ma 26), .inl (cI, 100, .inl f52)), ((ma 27), .inl (cI, 100, .inl f56)), ((ma 28), .inl (cB, 6000, .inl fN)), ((ma 29), .inl (cI, 100, .inl fNS)), ((ma 30), .inl (cB, 40000, .inl fT)), ((ma 31), .inl (cI, 100, .inl fTS)), (h0, .inr (11, MO ma sv_thrown sv_length sv_nodes sv_many sv_directories sv_runsFrom sv_runs sv_read sv_wrong sv_isNamed sv_goes sv_goesSize sv_goesAt sv_targetParts sv_isRoot)), ((ma 16), .inl (cJ, 46080, .inr (.inl F)))] := hD
                  have s_f56 : f56 x.toNatClampNeg = r54 := by rw [e_f56]; unfold upd; rw [if_pos (by first | rfl | decide)]
                  refine lv_iconst (v := 1) hx hb d_DiscMakerModel_part_151 (by decide) ?_
                  have hP9 := hP.sub (ws' := [(h0, .inr (11, MO ma sv_thrown sv_length sv_nodes sv_many sv_directories sv_runsFrom sv_runs sv_read sv_wrong sv_isNamed sv_goes sv_goesSize sv_goesAt sv_targetParts sv_isRoot)), ((ma 16), .inl (cJ, 46080, .inr (.inl F))), ((ma 25), .inl (cI, 100, .inl f48)), ((ma 26), .inl (cI, 100, .inl f52)), ((ma 27), .inl (cI, 100, .inl f56)), ((ma 28), .inl (cB, 6000, .inl fN)), ((ma 29), .inl (cI, 100, .inl fNS)), ((ma 30), .inl (cB, 40000, .inl fT)), ((ma 31), .inl (cI, 100, .inl fTS))]) [7, 8, 0, 1, 2, 3, 4, 5, 6] rfl
                  have hD9 := hD.sub (ws' := [(h0, .inr (11, MO ma sv_thrown sv_length sv_nodes sv_many sv_directories sv_runsFrom sv_runs sv_read sv_wrong sv_isNamed sv_goes sv_goesSize sv_goesAt sv_targetParts sv_isRoot)), ((ma 16), .inl (cJ, 46080, .inr (.inl F))), ((ma 25), .inl (cI, 100, .inl f48)), ((ma 26), .inl (cI, 100, .inl f52)), ((ma 27), .inl (cI, 100, .inl f56)), ((ma 28), .inl (cB, 6000, .inl fN)), ((ma 29), .inl (cI, 100, .inl fNS)), ((ma 30), .inl (cB, 40000, .inl fT)), ((ma 31), .inl (cI, 100, .inl fTS))]) [7, 8, 0, 1, 2, 3, 4, 5, 6] (by decide +kernel) rfl
                  exact W.zret (v := 1) hx hb hr (by first | rfl | decide | exact i_narZ (by omega)) (fun t ht hW => ⟨⟨1, (sv_isNamed, sv_goes, sv_goesSize, sv_goesAt, sv_targetParts, sv_isRoot, f48, f52, f56, fN, fNS, fT, fTS), rfl, ⟨(by (try dsimp only); first | assumption | omega | trivial), (by (try dsimp only); first | assumption | omega | trivial), (by (try dsimp only); first | assumption | omega | trivial), (by (try dsimp only); first | assumption | omega | trivial)⟩, by rw [ht]; exact hP9, hD9⟩, hS.F ht⟩) hS.2.2 d_DiscMakerModel_part_152
                · skip
                  have g102_161 : r43.toInt = 0 := (i_eq rfl (by decide)).mp h_9
                  refine lv_iconst (v := 0) hx hb d_DiscMakerModel_part_105 (by decide) ?_
                  have hP9 := hP.sub (ws' := [(h0, .inr (11, MO ma sv_thrown sv_length sv_nodes sv_many sv_directories sv_runsFrom sv_runs sv_read sv_wrong sv_isNamed sv_goes sv_goesSize sv_goesAt sv_targetParts sv_isRoot)), ((ma 16), .inl (cJ, 46080, .inr (.inl F))), ((ma 25), .inl (cI, 100, .inl fM)), ((ma 26), .inl (cI, 100, .inl fO)), ((ma 27), .inl (cI, 100, .inl fG)), ((ma 28), .inl (cB, 6000, .inl fN)), ((ma 29), .inl (cI, 100, .inl fNS)), ((ma 30), .inl (cB, 40000, .inl fT)), ((ma 31), .inl (cI, 100, .inl fTS))]) [7, 8, 0, 1, 2, 3, 4, 5, 6] rfl
                  have hD9 := hD.sub (ws' := [(h0, .inr (11, MO ma sv_thrown sv_length sv_nodes sv_many sv_directories sv_runsFrom sv_runs sv_read sv_wrong sv_isNamed sv_goes sv_goesSize sv_goesAt sv_targetParts sv_isRoot)), ((ma 16), .inl (cJ, 46080, .inr (.inl F))), ((ma 25), .inl (cI, 100, .inl fM)), ((ma 26), .inl (cI, 100, .inl fO)), ((ma 27), .inl (cI, 100, .inl fG)), ((ma 28), .inl (cB, 6000, .inl fN)), ((ma 29), .inl (cI, 100, .inl fNS)), ((ma 30), .inl (cB, 40000, .inl fT)), ((ma 31), .inl (cI, 100, .inl fTS))]) [7, 8, 0, 1, 2, 3, 4, 5, 6] (by decide +kernel) rfl
                  exact W.zret (v := 0) hx hb hr (by first | rfl | decide | exact i_narZ (by omega)) (fun t ht hW => ⟨⟨0, (sv_isNamed, sv_goes, sv_goesSize, sv_goesAt, sv_targetParts, sv_isRoot, fM, fO, fG, fN, fNS, fT, fTS), rfl, ⟨(by (try dsimp only); first | assumption | omega | trivial), (by (try dsimp only); first | assumption | omega | trivial), (by (try dsimp only); first | assumption | omega | trivial), (by (try dsimp only); first | assumption | omega | trivial)⟩, by rw [ht]; exact hP9, hD9⟩, hS.F ht⟩) hS.2.2 d_DiscMakerModel_part_106
    · skip
      have g29_12 : ¬ r3.toInt = 0 := fun h8 => h_9 ((i_eq rfl (by decide)).mpr h8)
      refine lv_aload_n hx hb d_DiscMakerModel_part_32 rfl (lv_at hl 0 rfl) ?_
      refine lv_iload_n hx hb d_DiscMakerModel_part_33 rfl (lv_at hl 1 rfl) ?_
      refine lv_iload_n hx hb d_DiscMakerModel_part_34 rfl (lv_at hl 2 rfl) ?_
      refine lv_iload_n hx hb d_DiscMakerModel_part_35 rfl (lv_at hl 3 rfl) ?_
      have hPc := hP.sub (ws' := [(h0, .inr (11, MO ma sv_thrown sv_length sv_nodes sv_many sv_directories sv_runsFrom sv_runs sv_read sv_wrong sv_isNamed sv_goes sv_goesSize sv_goesAt sv_targetParts sv_isRoot)), ((ma 16), .inl (cJ, 46080, .inr (.inl F))), ((ma 30), .inl (cB, 40000, .inl fT)), ((ma 31), .inl (cI, 100, .inl fTS))]) [7, 8, 5, 6] rfl
      have hDc := hD.sub (ws' := [(h0, .inr (11, MO ma sv_thrown sv_length sv_nodes sv_many sv_directories sv_runsFrom sv_runs sv_read sv_wrong sv_isNamed sv_goes sv_goesSize sv_goesAt sv_targetParts sv_isRoot)), ((ma 16), .inl (cJ, 46080, .inr (.inl F))), ((ma 30), .inl (cB, 40000, .inl fT)), ((ma 31), .inl (cI, 100, .inl fTS))]) [7, 8, 5, 6] (by decide +kernel) rfl
      have hFc := va_free (wc := [(h0, .inr (11, MO ma sv_thrown sv_length sv_nodes sv_many sv_directories sv_runsFrom sv_runs sv_read sv_wrong sv_isNamed sv_goes sv_goesSize sv_goesAt sv_targetParts sv_isRoot)), ((ma 16), .inl (cJ, 46080, .inr (.inl F))), ((ma 30), .inl (cB, 40000, .inl fT)), ((ma 31), .inl (cI, 100, .inl fTS))]) hD hS hA [7, 8, 5, 6] rfl
      have hkc : 0 ≤ 0 := by decide
      have hks : 0 ≤ 0 := by decide
      refine va_calli (va_runV (C := "DiscMakerModel") (As := [.int x, .int y, .int z]) (rest := []) ⟨hx, hb, hml, hown, hts⟩ (m_targetGoesOn l D cB cI cJ cZ cN cF H.size h0 ma sv_thrown sv_length sv_nodes sv_many sv_directories sv_runsFrom sv_runs sv_read sv_wrong sv_isNamed sv_goes sv_goesSize sv_goesAt sv_targetParts sv_isRoot F fT fTS x y z (by (try dsimp only); first | assumption | omega | trivial) (by (try dsimp only); first | assumption | omega | trivial) (by (try dsimp only); first | assumption | omega | trivial) (by (try dsimp only); first | assumption | omega | trivial) (by (try dsimp only); first | assumption | omega | trivial)) (cwV 3 hts (lg_goodV k1878 k1880 k109 k125 kc_DiscMakerModel_targetGoesOn) rfl rfl rfl (by decide +kernel) ⟨Nat.le_of_ble_eq_true rfl, Nat.le_of_ble_eq_true rfl⟩) ⟨fun a U g mk q => by obtain ⟨q0, q1, qP, qK, qN, qD⟩ := q; exact ⟨q0, q1, qP, va_K.moved (u := U) (U := U.calling g mk a) (Vm.Alike.refl U.vm) qK, qN.calling, qD⟩, va_recv hK hP (ci := 11) (q0 := 7) rfl rfl, fun U hU hW => ⟨rfl, by rw [hU], by rw [hU]; exact hPc, va_K.moved hW.alike hK, NN.warm hW hN, hDc.weaken (fun _ _ _ _ => trivial)⟩⟩ rfl rfl hl.1 rfl (lv_room (Nat.le_of_ble_eq_true rfl)) d_DiscMakerModel_part_36 ⟨hkc, hks⟩) hS (fun q _ h => hFc q h) hFc (fun r57 u t H1 locs ht hvm hp_r57 hB hz1 hk1 hS => ?_)
      obtain ⟨tp_58, ro_59, gT_60, gTS_61⟩ := u
      obtain ⟨hP1, hD1⟩ := hB
      rw [ht] at hP1
      obtain ⟨hP, hD⟩ := va_join (wr := [((ma 25), .inl (cI, 100, .inl fM)), ((ma 26), .inl (cI, 100, .inl fO)), ((ma 27), .inl (cI, 100, .inl fG)), ((ma 28), .inl (cB, 6000, .inl fN)), ((ma 29), .inl (cI, 100, .inl fNS))]) (w1 := [(h0, .inr (11, MO ma sv_thrown sv_length sv_nodes sv_many sv_directories sv_runsFrom sv_runs sv_read sv_wrong sv_isNamed sv_goes sv_goesSize sv_goesAt tp_58 ro_59)), ((ma 16), .inl (cJ, 46080, .inr (.inl F))), ((ma 30), .inl (cB, 40000, .inl gT_60)), ((ma 31), .inl (cI, 100, .inl gTS_61))]) hP hD [7, 8, 5, 6] [0, 1, 2, 3, 4] rfl rfl (by decide +kernel) (by decide +kernel) hk1 hFc hP1 hD1
      clear hPc hDc hFc hP1 hD1 hk1 hz1 hkc hks
      generalize H1 = H at hP hS ⊢
      have hP : va_P D CL [((ma 25), .inl (cI, 100, .inl fM)), ((ma 26), .inl (cI, 100, .inl fO)), ((ma 27), .inl (cI, 100, .inl fG)), ((ma 28), .inl (cB, 6000, .inl fN)), ((ma 29), .inl (cI, 100, .inl fNS)), (h0, .inr (11, MO ma sv_thrown sv_length sv_nodes sv_many sv_directories sv_runsFrom sv_runs sv_read sv_wrong sv_isNamed sv_goes sv_goesSize sv_goesAt tp_58 ro_59)), ((ma 16), .inl (cJ, 46080, .inr (.inl F))), ((ma 30), .inl (cB, 40000, .inl gT_60)), ((ma 31), .inl (cI, 100, .inl gTS_61))] H := hP
      have hD : va_D A [((ma 25), .inl (cI, 100, .inl fM)), ((ma 26), .inl (cI, 100, .inl fO)), ((ma 27), .inl (cI, 100, .inl fG)), ((ma 28), .inl (cB, 6000, .inl fN)), ((ma 29), .inl (cI, 100, .inl fNS)), (h0, .inr (11, MO ma sv_thrown sv_length sv_nodes sv_many sv_directories sv_runsFrom sv_runs sv_read sv_wrong sv_isNamed sv_goes sv_goesSize sv_goesAt tp_58 ro_59)), ((ma 16), .inl (cJ, 46080, .inr (.inl F))), ((ma 30), .inl (cB, 40000, .inl gT_60)), ((ma 31), .inl (cI, 100, .inl gTS_61))] := hD
      try dsimp only at hp_r57
      obtain ⟨hr_62, hgTS_63⟩ := hp_r57
      have hP9 := hP.sub (ws' := [(h0, .inr (11, MO ma sv_thrown sv_length sv_nodes sv_many sv_directories sv_runsFrom sv_runs sv_read sv_wrong sv_isNamed sv_goes sv_goesSize sv_goesAt tp_58 ro_59)), ((ma 16), .inl (cJ, 46080, .inr (.inl F))), ((ma 25), .inl (cI, 100, .inl fM)), ((ma 26), .inl (cI, 100, .inl fO)), ((ma 27), .inl (cI, 100, .inl fG)), ((ma 28), .inl (cB, 6000, .inl fN)), ((ma 29), .inl (cI, 100, .inl fNS)), ((ma 30), .inl (cB, 40000, .inl gT_60)), ((ma 31), .inl (cI, 100, .inl gTS_61))]) [5, 6, 0, 1, 2, 3, 4, 7, 8] rfl
      have hD9 := hD.sub (ws' := [(h0, .inr (11, MO ma sv_thrown sv_length sv_nodes sv_many sv_directories sv_runsFrom sv_runs sv_read sv_wrong sv_isNamed sv_goes sv_goesSize sv_goesAt tp_58 ro_59)), ((ma 16), .inl (cJ, 46080, .inr (.inl F))), ((ma 25), .inl (cI, 100, .inl fM)), ((ma 26), .inl (cI, 100, .inl fO)), ((ma 27), .inl (cI, 100, .inl fG)), ((ma 28), .inl (cB, 6000, .inl fN)), ((ma 29), .inl (cI, 100, .inl fNS)), ((ma 30), .inl (cB, 40000, .inl gT_60)), ((ma 31), .inl (cI, 100, .inl gTS_61))]) [5, 6, 0, 1, 2, 3, 4, 7, 8] (by decide +kernel) rfl
      exact W.zret (v := r57) hx hb hr (by first | rfl | decide | exact i_narZ (by omega)) (fun t ht hW => ⟨⟨r57, (sv_isNamed, sv_goes, sv_goesSize, sv_goesAt, tp_58, ro_59, fM, fO, fG, fN, fNS, gT_60, gTS_61), rfl, ⟨(by (try dsimp only); first | assumption | omega | trivial), (by (try dsimp only); first | assumption | omega | trivial), (by (try dsimp only); first | assumption | omega | trivial), (by (try dsimp only); first | assumption | omega | trivial)⟩, by rw [ht]; exact hP9, hD9⟩, hS.F ht⟩) hS.2.2 d_DiscMakerModel_part_39
  · skip
    have g9_6 : ¬ r1.toInt = 0 := fun h8 => h_9 ((i_eq rfl (by decide)).mpr h8)
    refine lv_aload_n hx hb d_DiscMakerModel_part_12 rfl (lv_at hl 0 rfl) ?_
    refine lv_iload_n hx hb d_DiscMakerModel_part_13 rfl (lv_at hl 1 rfl) ?_
    refine lv_iload_n hx hb d_DiscMakerModel_part_14 rfl (lv_at hl 2 rfl) ?_
    refine lv_iload_n hx hb d_DiscMakerModel_part_15 rfl (lv_at hl 3 rfl) ?_
    have hPc := hP.sub (ws' := [(h0, .inr (11, MO ma sv_thrown sv_length sv_nodes sv_many sv_directories sv_runsFrom sv_runs sv_read sv_wrong sv_isNamed sv_goes sv_goesSize sv_goesAt sv_targetParts sv_isRoot)), ((ma 16), .inl (cJ, 46080, .inr (.inl F))), ((ma 28), .inl (cB, 6000, .inl fN)), ((ma 29), .inl (cI, 100, .inl fNS))]) [7, 8, 3, 4] rfl
    have hDc := hD.sub (ws' := [(h0, .inr (11, MO ma sv_thrown sv_length sv_nodes sv_many sv_directories sv_runsFrom sv_runs sv_read sv_wrong sv_isNamed sv_goes sv_goesSize sv_goesAt sv_targetParts sv_isRoot)), ((ma 16), .inl (cJ, 46080, .inr (.inl F))), ((ma 28), .inl (cB, 6000, .inl fN)), ((ma 29), .inl (cI, 100, .inl fNS))]) [7, 8, 3, 4] (by decide +kernel) rfl
    have hFc := va_free (wc := [(h0, .inr (11, MO ma sv_thrown sv_length sv_nodes sv_many sv_directories sv_runsFrom sv_runs sv_read sv_wrong sv_isNamed sv_goes sv_goesSize sv_goesAt sv_targetParts sv_isRoot)), ((ma 16), .inl (cJ, 46080, .inr (.inl F))), ((ma 28), .inl (cB, 6000, .inl fN)), ((ma 29), .inl (cI, 100, .inl fNS))]) hD hS hA [7, 8, 3, 4] rfl
    have hkc : 0 ≤ 0 := by decide
    have hks : 0 ≤ 0 := by decide
    refine va_calli (va_runV (C := "DiscMakerModel") (As := [.int x, .int y, .int z]) (rest := []) ⟨hx, hb, hml, hown, hts⟩ (m_nameGoesOn l D cB cI cJ cZ cN cF H.size h0 ma sv_thrown sv_length sv_nodes sv_many sv_directories sv_runsFrom sv_runs sv_read sv_wrong sv_isNamed sv_goes sv_goesSize sv_goesAt sv_targetParts sv_isRoot F fN fNS x y z (by (try dsimp only); first | assumption | omega | trivial) (by (try dsimp only); first | assumption | omega | trivial) (by (try dsimp only); first | assumption | omega | trivial) (by (try dsimp only); first | assumption | omega | trivial) (by (try dsimp only); first | assumption | omega | trivial)) (cwV 3 hts (lg_goodV k1874 k1876 k108 k125 kc_DiscMakerModel_nameGoesOn) rfl rfl rfl (by decide +kernel) ⟨Nat.le_of_ble_eq_true rfl, Nat.le_of_ble_eq_true rfl⟩) ⟨fun a U g mk q => by obtain ⟨q0, q1, qP, qK, qN, qD⟩ := q; exact ⟨q0, q1, qP, va_K.moved (u := U) (U := U.calling g mk a) (Vm.Alike.refl U.vm) qK, qN.calling, qD⟩, va_recv hK hP (ci := 11) (q0 := 7) rfl rfl, fun U hU hW => ⟨rfl, by rw [hU], by rw [hU]; exact hPc, va_K.moved hW.alike hK, NN.warm hW hN, hDc.weaken (fun _ _ _ _ => trivial)⟩⟩ rfl rfl hl.1 rfl (lv_room (Nat.le_of_ble_eq_true rfl)) d_DiscMakerModel_part_16 ⟨hkc, hks⟩) hS (fun q _ h => hFc q h) hFc (fun r64 u t H1 locs ht hvm hp_r64 hB hz1 hk1 hS => ?_)
    obtain ⟨nm_65, gN_66, gNS_67⟩ := u
    obtain ⟨hP1, hD1⟩ := hB
    rw [ht] at hP1
    obtain ⟨hP, hD⟩ := va_join (wr := [((ma 25), .inl (cI, 100, .inl fM)), ((ma 26), .inl (cI, 100, .inl fO)), ((ma 27), .inl (cI, 100, .inl fG)), ((ma 30), .inl (cB, 40000, .inl fT)), ((ma 31), .inl (cI, 100, .inl fTS))]) (w1 := [(h0, .inr (11, MO ma sv_thrown sv_length sv_nodes sv_many sv_directories sv_runsFrom sv_runs sv_read sv_wrong nm_65 sv_goes sv_goesSize sv_goesAt sv_targetParts sv_isRoot)), ((ma 16), .inl (cJ, 46080, .inr (.inl F))), ((ma 28), .inl (cB, 6000, .inl gN_66)), ((ma 29), .inl (cI, 100, .inl gNS_67))]) hP hD [7, 8, 3, 4] [0, 1, 2, 5, 6] rfl rfl (by decide +kernel) (by decide +kernel) hk1 hFc hP1 hD1
    clear hPc hDc hFc hP1 hD1 hk1 hz1 hkc hks
    generalize H1 = H at hP hS ⊢
    have hP : va_P D CL [((ma 25), .inl (cI, 100, .inl fM)), ((ma 26), .inl (cI, 100, .inl fO)), ((ma 27), .inl (cI, 100, .inl fG)), ((ma 30), .inl (cB, 40000, .inl fT)), ((ma 31), .inl (cI, 100, .inl fTS)), (h0, .inr (11, MO ma sv_thrown sv_length sv_nodes sv_many sv_directories sv_runsFrom sv_runs sv_read sv_wrong nm_65 sv_goes sv_goesSize sv_goesAt sv_targetParts sv_isRoot)), ((ma 16), .inl (cJ, 46080, .inr (.inl F))), ((ma 28), .inl (cB, 6000, .inl gN_66)), ((ma 29), .inl (cI, 100, .inl gNS_67))] H := hP
    have hD : va_D A [((ma 25), .inl (cI, 100, .inl fM)), ((ma 26), .inl (cI, 100, .inl fO)), ((ma 27), .inl (cI, 100, .inl fG)), ((ma 30), .inl (cB, 40000, .inl fT)), ((ma 31), .inl (cI, 100, .inl fTS)), (h0, .inr (11, MO ma sv_thrown sv_length sv_nodes sv_many sv_directories sv_runsFrom sv_runs sv_read sv_wrong nm_65 sv_goes sv_goesSize sv_goesAt sv_targetParts sv_isRoot)), ((ma 16), .inl (cJ, 46080, .inr (.inl F))), ((ma 28), .inl (cB, 6000, .inl gN_66)), ((ma 29), .inl (cI, 100, .inl gNS_67))] := hD
    try dsimp only at hp_r64
    obtain ⟨hr_68, hgNS_69⟩ := hp_r64
    have hP9 := hP.sub (ws' := [(h0, .inr (11, MO ma sv_thrown sv_length sv_nodes sv_many sv_directories sv_runsFrom sv_runs sv_read sv_wrong nm_65 sv_goes sv_goesSize sv_goesAt sv_targetParts sv_isRoot)), ((ma 16), .inl (cJ, 46080, .inr (.inl F))), ((ma 25), .inl (cI, 100, .inl fM)), ((ma 26), .inl (cI, 100, .inl fO)), ((ma 27), .inl (cI, 100, .inl fG)), ((ma 28), .inl (cB, 6000, .inl gN_66)), ((ma 29), .inl (cI, 100, .inl gNS_67)), ((ma 30), .inl (cB, 40000, .inl fT)), ((ma 31), .inl (cI, 100, .inl fTS))]) [5, 6, 0, 1, 2, 7, 8, 3, 4] rfl
    have hD9 := hD.sub (ws' := [(h0, .inr (11, MO ma sv_thrown sv_length sv_nodes sv_many sv_directories sv_runsFrom sv_runs sv_read sv_wrong nm_65 sv_goes sv_goesSize sv_goesAt sv_targetParts sv_isRoot)), ((ma 16), .inl (cJ, 46080, .inr (.inl F))), ((ma 25), .inl (cI, 100, .inl fM)), ((ma 26), .inl (cI, 100, .inl fO)), ((ma 27), .inl (cI, 100, .inl fG)), ((ma 28), .inl (cB, 6000, .inl gN_66)), ((ma 29), .inl (cI, 100, .inl gNS_67)), ((ma 30), .inl (cB, 40000, .inl fT)), ((ma 31), .inl (cI, 100, .inl fTS))]) [5, 6, 0, 1, 2, 7, 8, 3, 4] (by decide +kernel) rfl
    exact W.zret (v := r64) hx hb hr (by first | rfl | decide | exact i_narZ (by omega)) (fun t ht hW => ⟨⟨r64, (nm_65, sv_goes, sv_goesSize, sv_goesAt, sv_targetParts, sv_isRoot, fM, fO, fG, gN_66, gNS_67, fT, fTS), rfl, ⟨(by (try dsimp only); first | assumption | omega | trivial), (by (try dsimp only); first | assumption | omega | trivial), (by (try dsimp only); first | assumption | omega | trivial), (by (try dsimp only); first | assumption | omega | trivial)⟩, by rw [ht]; exact hP9, hD9⟩, hS.F ht⟩) hS.2.2 d_DiscMakerModel_part_19

theorem d_DiscMakerModel_used_0 : decode b_DiscMakerModel_used 0 = .ok (.aload_n 0, 1) := by decide +kernel
theorem d_DiscMakerModel_used_1 : decode b_DiscMakerModel_used 1 = .ok (.iload_n 2, 1) := by decide +kernel
theorem d_DiscMakerModel_used_2 : decode b_DiscMakerModel_used 2 = .ok (.bipush 32, 2) := by decide +kernel
theorem d_DiscMakerModel_used_4 : decode b_DiscMakerModel_used 4 = .ok (.iadd, 1) := by decide +kernel
theorem d_DiscMakerModel_used_5 : decode b_DiscMakerModel_used 5 = .ok (.invokevirtual 303, 3) := by decide +kernel
theorem d_DiscMakerModel_used_8 : decode b_DiscMakerModel_used 8 = .ok (.istore_n 3, 1) := by decide +kernel
theorem d_DiscMakerModel_used_9 : decode b_DiscMakerModel_used 9 = .ok (.iload_n 2, 1) := by decide +kernel
theorem d_DiscMakerModel_used_10 : decode b_DiscMakerModel_used 10 = .ok (.bipush 33, 2) := by decide +kernel
theorem d_DiscMakerModel_used_12 : decode b_DiscMakerModel_used 12 = .ok (.iadd, 1) := by decide +kernel
theorem d_DiscMakerModel_used_13 : decode b_DiscMakerModel_used 13 = .ok (.iload_n 3, 1) := by decide +kernel
theorem d_DiscMakerModel_used_14 : decode b_DiscMakerModel_used 14 = .ok (.iadd, 1) := by decide +kernel
theorem d_DiscMakerModel_used_15 : decode b_DiscMakerModel_used 15 = .ok (.bipush 33, 2) := by decide +kernel
theorem d_DiscMakerModel_used_17 : decode b_DiscMakerModel_used 17 = .ok (.iload_n 3, 1) := by decide +kernel
theorem d_DiscMakerModel_used_18 : decode b_DiscMakerModel_used 18 = .ok (.iadd, 1) := by decide +kernel
theorem d_DiscMakerModel_used_19 : decode b_DiscMakerModel_used 19 = .ok (.iconst 2, 1) := by decide +kernel
theorem d_DiscMakerModel_used_20 : decode b_DiscMakerModel_used 20 = .ok (.irem, 1) := by decide +kernel
theorem d_DiscMakerModel_used_21 : decode b_DiscMakerModel_used 21 = .ok (.iadd, 1) := by decide +kernel
theorem d_DiscMakerModel_used_22 : decode b_DiscMakerModel_used 22 = .ok (.istore 4, 2) := by decide +kernel
theorem d_DiscMakerModel_used_24 : decode b_DiscMakerModel_used 24 = .ok (.iload_n 2, 1) := by decide +kernel
theorem d_DiscMakerModel_used_25 : decode b_DiscMakerModel_used 25 = .ok (.aload_n 0, 1) := by decide +kernel
theorem d_DiscMakerModel_used_26 : decode b_DiscMakerModel_used 26 = .ok (.iload_n 2, 1) := by decide +kernel
theorem d_DiscMakerModel_used_27 : decode b_DiscMakerModel_used 27 = .ok (.invokevirtual 303, 3) := by decide +kernel
theorem d_DiscMakerModel_used_30 : decode b_DiscMakerModel_used 30 = .ok (.iadd, 1) := by decide +kernel
theorem d_DiscMakerModel_used_31 : decode b_DiscMakerModel_used 31 = .ok (.istore 5, 2) := by decide +kernel
theorem d_DiscMakerModel_used_33 : decode b_DiscMakerModel_used 33 = .ok (.aload_n 0, 1) := by decide +kernel
theorem d_DiscMakerModel_used_34 : decode b_DiscMakerModel_used 34 = .ok (.iconst 0, 1) := by decide +kernel
theorem d_DiscMakerModel_used_35 : decode b_DiscMakerModel_used 35 = .ok (.putfield 355, 3) := by decide +kernel
theorem d_DiscMakerModel_used_38 : decode b_DiscMakerModel_used 38 = .ok (.iconst 0, 1) := by decide +kernel
theorem d_DiscMakerModel_used_39 : decode b_DiscMakerModel_used 39 = .ok (.istore 6, 2) := by decide +kernel
theorem d_DiscMakerModel_used_41 : decode b_DiscMakerModel_used 41 = .ok (.aload_n 0, 1) := by decide +kernel
theorem d_DiscMakerModel_used_42 : decode b_DiscMakerModel_used 42 = .ok (.iconst (-1), 1) := by decide +kernel
theorem d_DiscMakerModel_used_43 : decode b_DiscMakerModel_used 43 = .ok (.putfield 358, 3) := by decide +kernel
theorem d_DiscMakerModel_used_46 : decode b_DiscMakerModel_used 46 = .ok (.iload 5, 2) := by decide +kernel
theorem d_DiscMakerModel_used_48 : decode b_DiscMakerModel_used 48 = .ok (.iload 4, 2) := by decide +kernel
theorem d_DiscMakerModel_used_50 : decode b_DiscMakerModel_used 50 = .ok (.isub, 1) := by decide +kernel
theorem d_DiscMakerModel_used_51 : decode b_DiscMakerModel_used 51 = .ok (.iconst 4, 1) := by decide +kernel
theorem d_DiscMakerModel_used_52 : decode b_DiscMakerModel_used 52 = .ok (.if_icmp .lt 65, 3) := by decide +kernel
theorem d_DiscMakerModel_used_55 : decode b_DiscMakerModel_used 55 = .ok (.aload_n 0, 1) := by decide +kernel
theorem d_DiscMakerModel_used_56 : decode b_DiscMakerModel_used 56 = .ok (.iload 4, 2) := by decide +kernel
theorem d_DiscMakerModel_used_58 : decode b_DiscMakerModel_used 58 = .ok (.iconst 2, 1) := by decide +kernel
theorem d_DiscMakerModel_used_59 : decode b_DiscMakerModel_used 59 = .ok (.iadd, 1) := by decide +kernel
theorem d_DiscMakerModel_used_60 : decode b_DiscMakerModel_used 60 = .ok (.invokevirtual 303, 3) := by decide +kernel
theorem d_DiscMakerModel_used_63 : decode b_DiscMakerModel_used 63 = .ok (.istore 7, 2) := by decide +kernel
theorem d_DiscMakerModel_used_65 : decode b_DiscMakerModel_used 65 = .ok (.iload 7, 2) := by decide +kernel
theorem d_DiscMakerModel_used_67 : decode b_DiscMakerModel_used 67 = .ok (.iconst 4, 1) := by decide +kernel
theorem d_DiscMakerModel_used_68 : decode b_DiscMakerModel_used 68 = .ok (.if_icmp .lt 13, 3) := by decide +kernel
theorem d_DiscMakerModel_used_71 : decode b_DiscMakerModel_used 71 = .ok (.iload 4, 2) := by decide +kernel
theorem d_DiscMakerModel_used_73 : decode b_DiscMakerModel_used 73 = .ok (.iload 7, 2) := by decide +kernel
theorem d_DiscMakerModel_used_75 : decode b_DiscMakerModel_used 75 = .ok (.iadd, 1) := by decide +kernel
theorem d_DiscMakerModel_used_76 : decode b_DiscMakerModel_used 76 = .ok (.iload 5, 2) := by decide +kernel
theorem d_DiscMakerModel_used_78 : decode b_DiscMakerModel_used 78 = .ok (.if_icmp .le 10, 3) := by decide +kernel
theorem d_DiscMakerModel_used_81 : decode b_DiscMakerModel_used 81 = .ok (.aload_n 0, 1) := by decide +kernel
theorem d_DiscMakerModel_used_82 : decode b_DiscMakerModel_used 82 = .ok (.iload 4, 2) := by decide +kernel
theorem d_DiscMakerModel_used_84 : decode b_DiscMakerModel_used 84 = .ok (.invokevirtual 309, 3) := by decide +kernel
theorem d_DiscMakerModel_used_87 : decode b_DiscMakerModel_used 87 = .ok (.ireturn, 1) := by decide +kernel
theorem d_DiscMakerModel_used_88 : decode b_DiscMakerModel_used 88 = .ok (.aload_n 0, 1) := by decide +kernel
theorem d_DiscMakerModel_used_89 : decode b_DiscMakerModel_used 89 = .ok (.iload_n 1, 1) := by decide +kernel
theorem d_DiscMakerModel_used_90 : decode b_DiscMakerModel_used 90 = .ok (.iload 4, 2) := by decide +kernel
theorem d_DiscMakerModel_used_92 : decode b_DiscMakerModel_used 92 = .ok (.iload 7, 2) := by decide +kernel
theorem d_DiscMakerModel_used_94 : decode b_DiscMakerModel_used 94 = .ok (.invokevirtual 361, 3) := by decide +kernel
theorem d_DiscMakerModel_used_97 : decode b_DiscMakerModel_used 97 = .ok (.ifCond .ne 10, 3) := by decide +kernel
theorem d_DiscMakerModel_used_100 : decode b_DiscMakerModel_used 100 = .ok (.aload_n 0, 1) := by decide +kernel
theorem d_DiscMakerModel_used_101 : decode b_DiscMakerModel_used 101 = .ok (.iload 4, 2) := by decide +kernel
theorem d_DiscMakerModel_used_103 : decode b_DiscMakerModel_used 103 = .ok (.invokevirtual 309, 3) := by decide +kernel
theorem d_DiscMakerModel_used_106 : decode b_DiscMakerModel_used 106 = .ok (.ireturn, 1) := by decide +kernel
theorem d_DiscMakerModel_used_107 : decode b_DiscMakerModel_used 107 = .ok (.iload 4, 2) := by decide +kernel
theorem d_DiscMakerModel_used_109 : decode b_DiscMakerModel_used 109 = .ok (.iload 7, 2) := by decide +kernel
theorem d_DiscMakerModel_used_111 : decode b_DiscMakerModel_used 111 = .ok (.iadd, 1) := by decide +kernel
theorem d_DiscMakerModel_used_112 : decode b_DiscMakerModel_used 112 = .ok (.istore 4, 2) := by decide +kernel
theorem d_DiscMakerModel_used_114 : decode b_DiscMakerModel_used 114 = .ok (.goto (-68), 3) := by decide +kernel
theorem d_DiscMakerModel_used_117 : decode b_DiscMakerModel_used 117 = .ok (.aload_n 0, 1) := by decide +kernel
theorem d_DiscMakerModel_used_118 : decode b_DiscMakerModel_used 118 = .ok (.getfield 358, 3) := by decide +kernel
theorem d_DiscMakerModel_used_121 : decode b_DiscMakerModel_used 121 = .ok (.ifCond .ge 6, 3) := by decide +kernel
theorem d_DiscMakerModel_used_124 : decode b_DiscMakerModel_used 124 = .ok (.goto 41, 3) := by decide +kernel
theorem d_DiscMakerModel_used_127 : decode b_DiscMakerModel_used 127 = .ok (.iinc 6 1, 3) := by decide +kernel
theorem d_DiscMakerModel_used_130 : decode b_DiscMakerModel_used 130 = .ok (.iload 6, 2) := by decide +kernel
theorem d_DiscMakerModel_used_132 : decode b_DiscMakerModel_used 132 = .ok (.iconst 5, 1) := by decide +kernel
theorem d_DiscMakerModel_used_133 : decode b_DiscMakerModel_used 133 = .ok (.if_icmp .le 12, 3) := by decide +kernel
theorem d_DiscMakerModel_used_136 : decode b_DiscMakerModel_used 136 = .ok (.aload_n 0, 1) := by decide +kernel
theorem d_DiscMakerModel_used_137 : decode b_DiscMakerModel_used 137 = .ok (.aload_n 0, 1) := by decide +kernel
theorem d_DiscMakerModel_used_138 : decode b_DiscMakerModel_used 138 = .ok (.getfield 364, 3) := by decide +kernel
theorem d_DiscMakerModel_used_141 : decode b_DiscMakerModel_used 141 = .ok (.invokevirtual 309, 3) := by decide +kernel
theorem d_DiscMakerModel_used_144 : decode b_DiscMakerModel_used 144 = .ok (.ireturn, 1) := by decide +kernel
theorem d_DiscMakerModel_used_145 : decode b_DiscMakerModel_used 145 = .ok (.aload_n 0, 1) := by decide +kernel
theorem d_DiscMakerModel_used_146 : decode b_DiscMakerModel_used 146 = .ok (.getfield 358, 3) := by decide +kernel
theorem d_DiscMakerModel_used_149 : decode b_DiscMakerModel_used 149 = .ok (.istore 4, 2) := by decide +kernel
theorem d_DiscMakerModel_used_151 : decode b_DiscMakerModel_used 151 = .ok (.aload_n 0, 1) := by decide +kernel
theorem d_DiscMakerModel_used_152 : decode b_DiscMakerModel_used 152 = .ok (.getfield 358, 3) := by decide +kernel
theorem d_DiscMakerModel_used_155 : decode b_DiscMakerModel_used 155 = .ok (.aload_n 0, 1) := by decide +kernel
theorem d_DiscMakerModel_used_156 : decode b_DiscMakerModel_used 156 = .ok (.getfield 367, 3) := by decide +kernel
theorem d_DiscMakerModel_used_159 : decode b_DiscMakerModel_used 159 = .ok (.iadd, 1) := by decide +kernel
theorem d_DiscMakerModel_used_160 : decode b_DiscMakerModel_used 160 = .ok (.istore 5, 2) := by decide +kernel
theorem d_DiscMakerModel_used_162 : decode b_DiscMakerModel_used 162 = .ok (.goto (-121), 3) := by decide +kernel
theorem d_DiscMakerModel_used_165 : decode b_DiscMakerModel_used 165 = .ok (.iconst 1, 1) := by decide +kernel
theorem d_DiscMakerModel_used_166 : decode b_DiscMakerModel_used 166 = .ok (.ireturn, 1) := by decide +kernel
set_option maxHeartbeats 4000000 in
set_option maxRecDepth 100000 in
theorem m_used (l : Launch) (D : va_G) (cB cI cJ cZ cN cF : ClassId) (sz : Nat) (h0 : Nat) (ma : Nat → Nat) (sv_thrown sv_length sv_nodes sv_many sv_directories sv_runsFrom sv_runs sv_read sv_wrong sv_isNamed sv_goes sv_goesSize sv_goesAt sv_targetParts sv_isRoot : Int32) (F : Nat → Int64) (fM : Nat → Int32) (fO : Nat → Int32) (fG : Nat → Int32) (fN : Nat → Int32) (fNS : Nat → Int32) (fT : Nat → Int32) (fTS : Nat → Int32) (x : Int32) (y : Int32) (hm0 : 0 ≤ sv_many.toInt ∧ sv_many.toInt ≤ 180) (hk0 : 0 ≤ x.toInt ∧ x.toInt < 100) (hy0 : 0 ≤ y.toInt) (hy1 : 34 ≤ (atF F y).toInt ∧ y.toInt + (atF F y).toInt ≤ 2048 * sv_many.toInt) (hy2 : 33 + (atF F (y + 32)).toInt ≤ (atF F y).toInt) (hfNS : Rg 0 60 100 fNS) (hfTS : Rg 0 400 100 fTS) : Met l y_DiscMakerModel_used w_DiscMakerModel_used ({ frames := 3, cells := 0, slots := 0, locals := 76 }) (va_Pc [.ref h0, .int x, .int y] (fun U => U.heap.size = sz ∧ va_P D CL [(h0, .inr (11, MO ma sv_thrown sv_length sv_nodes sv_many sv_directories sv_runsFrom sv_runs sv_read sv_wrong sv_isNamed sv_goes sv_goesSize sv_goesAt sv_targetParts sv_isRoot)), ((ma 16), .inl (cJ, 46080, .inr (.inl F))), ((ma 25), .inl (cI, 100, .inl fM)), ((ma 26), .inl (cI, 100, .inl fO)), ((ma 27), .inl (cI, 100, .inl fG)), ((ma 28), .inl (cB, 6000, .inl fN)), ((ma 29), .inl (cI, 100, .inl fNS)), ((ma 30), .inl (cB, 40000, .inl fT)), ((ma 31), .inl (cI, 100, .inl fTS))] U.heap ∧ va_K D CL (TY cB cI cJ cZ cN cF) U ∧ NN U ∧ va_D (fun _ => True) [(h0, .inr (11, MO ma sv_thrown sv_length sv_nodes sv_many sv_directories sv_runsFrom sv_runs sv_read sv_wrong sv_isNamed sv_goes sv_goesSize sv_goesAt sv_targetParts sv_isRoot)), ((ma 16), .inl (cJ, 46080, .inr (.inl F))), ((ma 25), .inl (cI, 100, .inl fM)), ((ma 26), .inl (cI, 100, .inl fO)), ((ma 27), .inl (cI, 100, .inl fG)), ((ma 28), .inl (cB, 6000, .inl fN)), ((ma 29), .inl (cI, 100, .inl fNS)), ((ma 30), .inl (cB, 40000, .inl fT)), ((ma 31), .inl (cI, 100, .inl fTS))])) (va_Qi (fun (r : Int32) (u : Int32 × Int32 × Int32 × Int32 × Int32 × Int32 × Int32 × (Nat → Int32) × (Nat → Int32) × (Nat → Int32) × (Nat → Int32) × (Nat → Int32) × (Nat → Int32) × (Nat → Int32)) => match u with | (wr, nm, go, gz, ga, tp, ro, gM, gO, gG, gN, gNS, gT, gTS) => (0 ≤ r.toInt ∧ r.toInt ≤ 1) ∧ (Rg 0 60 100 gNS) ∧ (Rg 0 400 100 gTS)) (fun (u : Int32 × Int32 × Int32 × Int32 × Int32 × Int32 × Int32 × (Nat → Int32) × (Nat → Int32) × (Nat → Int32) × (Nat → Int32) × (Nat → Int32) × (Nat → Int32) × (Nat → Int32)) (t : State) => match u with | (wr, nm, go, gz, ga, tp, ro, gM, gO, gG, gN, gNS, gT, gTS) => va_P D CL [(h0, .inr (11, MO ma sv_thrown sv_length sv_nodes sv_many sv_directories sv_runsFrom sv_runs sv_read wr nm go gz ga tp ro)), ((ma 16), .inl (cJ, 46080, .inr (.inl F))), ((ma 25), .inl (cI, 100, .inl gM)), ((ma 26), .inl (cI, 100, .inl gO)), ((ma 27), .inl (cI, 100, .inl gG)), ((ma 28), .inl (cB, 6000, .inl gN)), ((ma 29), .inl (cI, 100, .inl gNS)), ((ma 30), .inl (cB, 40000, .inl gT)), ((ma 31), .inl (cI, 100, .inl gTS))] t.heap ∧ va_D (va_A [(h0, .inr (11, MO ma sv_thrown sv_length sv_nodes sv_many sv_directories sv_runsFrom sv_runs sv_read sv_wrong sv_isNamed sv_goes sv_goesSize sv_goesAt sv_targetParts sv_isRoot)), ((ma 16), .inl (cJ, 46080, .inr (.inl F))), ((ma 25), .inl (cI, 100, .inl fM)), ((ma 26), .inl (cI, 100, .inl fO)), ((ma 27), .inl (cI, 100, .inl fG)), ((ma 28), .inl (cB, 6000, .inl fN)), ((ma 29), .inl (cI, 100, .inl fNS)), ((ma 30), .inl (cB, 40000, .inl fT)), ((ma 31), .inl (cI, 100, .inl fTS))] sz) [(h0, .inr (11, MO ma sv_thrown sv_length sv_nodes sv_many sv_directories sv_runsFrom sv_runs sv_read wr nm go gz ga tp ro)), ((ma 16), .inl (cJ, 46080, .inr (.inl F))), ((ma 25), .inl (cI, 100, .inl gM)), ((ma 26), .inl (cI, 100, .inl gO)), ((ma 27), .inl (cI, 100, .inl gG)), ((ma 28), .inl (cB, 6000, .inl gN)), ((ma 29), .inl (cI, 100, .inl gNS)), ((ma 30), .inl (cB, 40000, .inl gT)), ((ma 31), .inl (cI, 100, .inl gTS))]) (va_A [(h0, .inr (11, MO ma sv_thrown sv_length sv_nodes sv_many sv_directories sv_runsFrom sv_runs sv_read sv_wrong sv_isNamed sv_goes sv_goesSize sv_goesAt sv_targetParts sv_isRoot)), ((ma 16), .inl (cJ, 46080, .inr (.inl F))), ((ma 25), .inl (cI, 100, .inl fM)), ((ma 26), .inl (cI, 100, .inl fO)), ((ma 27), .inl (cI, 100, .inl fG)), ((ma 28), .inl (cB, 6000, .inl fN)), ((ma 29), .inl (cI, 100, .inl fNS)), ((ma 30), .inl (cB, 40000, .inl fT)), ((ma 31), .inl (cI, 100, .inl fTS))] sz)) 0 0 (va_A [(h0, .inr (11, MO ma sv_thrown sv_length sv_nodes sv_many sv_directories sv_runsFrom sv_runs sv_read sv_wrong sv_isNamed sv_goes sv_goesSize sv_goesAt sv_targetParts sv_isRoot)), ((ma 16), .inl (cJ, 46080, .inr (.inl F))), ((ma 25), .inl (cI, 100, .inl fM)), ((ma 26), .inl (cI, 100, .inl fO)), ((ma 27), .inl (cI, 100, .inl fG)), ((ma 28), .inl (cB, 6000, .inl fN)), ((ma 29), .inl (cI, 100, .inl fNS)), ((ma 30), .inl (cB, 40000, .inl fT)), ((ma 31), .inl (cI, 100, .inl fTS))] sz) := by
  refine Met.ofW (cc := b_DiscMakerModel_used) (maxL := 8) (ret := some .boolean) (by decide) rfl ?_
  intro p e s m args below meth c s₁ B hml hv
  obtain ⟨rfl, hsz, hP, hK, hN, hD0⟩ := hv
  have hx := B.exec
  have hb := B.bytes
  have hr := B.returns
  have hts := atoms_spec (ws := w_DiscMakerModel_used) B.pre
  have ht9 := fun (w : Cond) (h : w ∈ lw_g) => hts w (List.mem_cons_of_mem _ h)
  have hown : s.vm.findClass "DiscMakerModel" = some m.cls := findClass_of_methodNamed B.named
  have hlocks := B.notSynchronized
  subst hsz
  have hD := hD0.self (sz := s.heap.size)
  generalize hAe : va_A [(h0, .inr (11, MO ma sv_thrown sv_length sv_nodes sv_many sv_directories sv_runsFrom sv_runs sv_read sv_wrong sv_isNamed sv_goes sv_goesSize sv_goesAt sv_targetParts sv_isRoot)), ((ma 16), .inl (cJ, 46080, .inr (.inl F))), ((ma 25), .inl (cI, 100, .inl fM)), ((ma 26), .inl (cI, 100, .inl fO)), ((ma 27), .inl (cI, 100, .inl fG)), ((ma 28), .inl (cB, 6000, .inl fN)), ((ma 29), .inl (cI, 100, .inl fNS)), ((ma 30), .inl (cB, 40000, .inl fT)), ((ma 31), .inl (cI, 100, .inl fTS))] s.heap.size = A at hD ⊢
  have hA : ∀ q : Nat, s.heap.size ≤ q → A q := fun q h => by rw [← hAe]; exact Or.inr h
  have hS : va_S A s.heap s.heap [] := va_S.rf
  have hP : va_P D CL [(h0, .inr (11, MO ma sv_thrown sv_length sv_nodes sv_many sv_directories sv_runsFrom sv_runs sv_read sv_wrong sv_isNamed sv_goes sv_goesSize sv_goesAt sv_targetParts sv_isRoot)), ((ma 16), .inl (cJ, 46080, .inr (.inl F))), ((ma 25), .inl (cI, 100, .inl fM)), ((ma 26), .inl (cI, 100, .inl fO)), ((ma 27), .inl (cI, 100, .inl fG)), ((ma 28), .inl (cB, 6000, .inl fN)), ((ma 29), .inl (cI, 100, .inl fNS)), ((ma 30), .inl (cB, 40000, .inl fT)), ((ma 31), .inl (cI, 100, .inl fTS))] s.heap := hP
  have hl := lv_entry [.ref h0, .int x, .int y] (n := 8) (Nat.le_of_ble_eq_true rfl)
  rw [lg_entry_eq]
  generalize (lg_sl [.ref h0, .int x, .int y] ++ List.replicate (8 - (lg_sl [.ref h0, .int x, .int y]).length) Slot.unset).toArray = ls at hl ⊢
  have hl : lv_has ls 8 [(0, .ref h0), (1, .int x), (2, .int y)] := hl
  have L_m1 : ((-1) : Int32).toInt = (-1) := by decide
  have L_0 : (0 : Int32).toInt = 0 := by decide
  have L_1 : (1 : Int32).toInt = 1 := by decide
  have L_2 : (2 : Int32).toInt = 2 := by decide
  have L_4 : (4 : Int32).toInt = 4 := by decide
  have L_5 : (5 : Int32).toInt = 5 := by decide
  have L_32 : (32 : Int32).toInt = 32 := by decide
  have L_33 : (33 : Int32).toInt = 33 := by decide
  refine lv_aload_n hx hb d_DiscMakerModel_used_0 rfl (lv_at hl 0 rfl) ?_
  refine lv_iload_n hx hb d_DiscMakerModel_used_1 rfl (lv_at hl 2 rfl) ?_
  refine lv_bipush (v := 32) hx hb d_DiscMakerModel_used_2 (by decide) ?_
  refine lv_iadd hx hb d_DiscMakerModel_used_4 ?_
  refine lv_topi (fun v1 e_v1 => ?_)
  have t_v1 : v1.toInt = y.toInt + 32 := by rw [e_v1]; exact i_add rfl (by decide) (by omega) (by omega)
  have hPc := hP.sub (ws' := [(h0, .inr (11, MO ma sv_thrown sv_length sv_nodes sv_many sv_directories sv_runsFrom sv_runs sv_read sv_wrong sv_isNamed sv_goes sv_goesSize sv_goesAt sv_targetParts sv_isRoot)), ((ma 16), .inl (cJ, 46080, .inr (.inl F)))]) [0, 1] rfl
  have hDc := hD.sub (ws' := [(h0, .inr (11, MO ma sv_thrown sv_length sv_nodes sv_many sv_directories sv_runsFrom sv_runs sv_read sv_wrong sv_isNamed sv_goes sv_goesSize sv_goesAt sv_targetParts sv_isRoot)), ((ma 16), .inl (cJ, 46080, .inr (.inl F)))]) [0, 1] (by decide +kernel) rfl
  have hFc := va_free (wc := [(h0, .inr (11, MO ma sv_thrown sv_length sv_nodes sv_many sv_directories sv_runsFrom sv_runs sv_read sv_wrong sv_isNamed sv_goes sv_goesSize sv_goesAt sv_targetParts sv_isRoot)), ((ma 16), .inl (cJ, 46080, .inr (.inl F)))]) hD hS hA [0, 1] rfl
  have hkc : 0 ≤ 0 := by decide
  have hks : 0 ≤ 0 := by decide
  refine va_calli (va_runV (C := "DiscMakerModel") (As := [.int v1]) (rest := []) ⟨hx, hb, hml, hown, hts⟩ (m_at l D cB cI cJ cZ cN cF s.heap.size h0 ma sv_thrown sv_length sv_nodes sv_many sv_directories sv_runsFrom sv_runs sv_read sv_wrong sv_isNamed sv_goes sv_goesSize sv_goesAt sv_targetParts sv_isRoot F v1 (by (try dsimp only); first | assumption | omega | trivial) (by (try dsimp only); first | assumption | omega | trivial)) (cwV 1 hts (lg_goodV k1809 k1811 k95 k125 kc_DiscMakerModel_at) rfl rfl rfl (by decide +kernel) ⟨Nat.le_of_ble_eq_true rfl, Nat.le_of_ble_eq_true rfl⟩) ⟨fun a U g mk q => by obtain ⟨q0, q1, qP, qK, qN, qD⟩ := q; exact ⟨q0, q1, qP, va_K.moved (u := U) (U := U.calling g mk a) (Vm.Alike.refl U.vm) qK, qN.calling, qD⟩, va_recv hK hP (ci := 11) (q0 := 0) rfl rfl, fun U hU hW => ⟨rfl, by rw [hU], by rw [hU]; exact hPc, va_K.moved hW.alike hK, NN.warm hW hN, hDc.weaken (fun _ _ _ _ => trivial)⟩⟩ rfl rfl hl.1 rfl (lv_room (Nat.le_of_ble_eq_true rfl)) d_DiscMakerModel_used_5 ⟨hkc, hks⟩) hS (fun q _ h => hFc q h) hFc (fun r2 u t H1 locs ht hvm hp_r2 hB hz1 hk1 hS => ?_)
  obtain ⟨hP1, hD1⟩ := hB
  rw [ht] at hP1
  obtain ⟨hP, hD⟩ := va_join (wr := [((ma 25), .inl (cI, 100, .inl fM)), ((ma 26), .inl (cI, 100, .inl fO)), ((ma 27), .inl (cI, 100, .inl fG)), ((ma 28), .inl (cB, 6000, .inl fN)), ((ma 29), .inl (cI, 100, .inl fNS)), ((ma 30), .inl (cB, 40000, .inl fT)), ((ma 31), .inl (cI, 100, .inl fTS))]) (w1 := [(h0, .inr (11, MO ma sv_thrown sv_length sv_nodes sv_many sv_directories sv_runsFrom sv_runs sv_read sv_wrong sv_isNamed sv_goes sv_goesSize sv_goesAt sv_targetParts sv_isRoot)), ((ma 16), .inl (cJ, 46080, .inr (.inl F)))]) hP hD [0, 1] [2, 3, 4, 5, 6, 7, 8] rfl rfl (by decide +kernel) (by decide +kernel) hk1 hFc hP1 hD1
  clear hPc hDc hFc hP1 hD1 hk1 hz1 hkc hks
  generalize H1 = H at hP hS ⊢
  have hP : va_P D CL [((ma 25), .inl (cI, 100, .inl fM)), ((ma 26), .inl (cI, 100, .inl fO)), ((ma 27), .inl (cI, 100, .inl fG)), ((ma 28), .inl (cB, 6000, .inl fN)), ((ma 29), .inl (cI, 100, .inl fNS)), ((ma 30), .inl (cB, 40000, .inl fT)), ((ma 31), .inl (cI, 100, .inl fTS)), (h0, .inr (11, MO ma sv_thrown sv_length sv_nodes sv_many sv_directories sv_runsFrom sv_runs sv_read sv_wrong sv_isNamed sv_goes sv_goesSize sv_goesAt sv_targetParts sv_isRoot)), ((ma 16), .inl (cJ, 46080, .inr (.inl F)))] H := hP
  have hD : va_D A [((ma 25), .inl (cI, 100, .inl fM)), ((ma 26), .inl (cI, 100, .inl fO)), ((ma 27), .inl (cI, 100, .inl fG)), ((ma 28), .inl (cB, 6000, .inl fN)), ((ma 29), .inl (cI, 100, .inl fNS)), ((ma 30), .inl (cB, 40000, .inl fT)), ((ma 31), .inl (cI, 100, .inl fTS)), (h0, .inr (11, MO ma sv_thrown sv_length sv_nodes sv_many sv_directories sv_runsFrom sv_runs sv_read sv_wrong sv_isNamed sv_goes sv_goesSize sv_goesAt sv_targetParts sv_isRoot)), ((ma 16), .inl (cJ, 46080, .inr (.inl F)))] := hD
  try dsimp only at hp_r2
  obtain ⟨hr_3, hv_4, hw_5⟩ := hp_r2
  have qr2 : 33 + r2.toInt ≤ (atF F y).toInt := by subst_vars; exact hy2
  refine lv_istore_n hx hb d_DiscMakerModel_used_8 rfl hl (by decide) rfl (fun ls hl => ?_)
  have hl : lv_has ls 8 [(3, .int r2), (0, .ref h0), (1, .int x), (2, .int y)] := hl
  refine lv_iload_n hx hb d_DiscMakerModel_used_9 rfl (lv_at hl 3 rfl) ?_
  refine lv_bipush (v := 33) hx hb d_DiscMakerModel_used_10 (by decide) ?_
  refine lv_iadd hx hb d_DiscMakerModel_used_12 ?_
  refine lv_topi (fun v6 e_v6 => ?_)
  have t_v6 : v6.toInt = y.toInt + 33 := by rw [e_v6]; exact i_add rfl (by decide) (by omega) (by omega)
  refine lv_iload_n hx hb d_DiscMakerModel_used_13 rfl (lv_at hl 0 rfl) ?_
  refine lv_iadd hx hb d_DiscMakerModel_used_14 ?_
  refine lv_topi (fun v7 e_v7 => ?_)
  have t_v7 : v7.toInt = v6.toInt + r2.toInt := by rw [e_v7]; exact i_add rfl rfl (by omega) (by omega)
  refine lv_bipush (v := 33) hx hb d_DiscMakerModel_used_15 (by decide) ?_
  refine lv_iload_n hx hb d_DiscMakerModel_used_17 rfl (lv_at hl 0 rfl) ?_
  refine lv_iadd hx hb d_DiscMakerModel_used_18 ?_
  refine lv_topi (fun v8 e_v8 => ?_)
  have t_v8 : v8.toInt = 33 + r2.toInt := by rw [e_v8]; exact i_add (by decide) rfl (by omega) (by omega)
  refine lv_iconst (v := 2) hx hb d_DiscMakerModel_used_19 (by decide) ?_
  refine lv_irem hx hb d_DiscMakerModel_used_20 (by decide) ?_
  refine lv_topi (fun v9 e_v9 => ?_)
  have t_v9 : v9.toInt = v8.toInt % 2 := by rw [e_v9]; exact i_rem rfl (by decide) (by omega) (by omega)
  refine lv_iadd hx hb d_DiscMakerModel_used_21 ?_
  refine lv_topi (fun v10 e_v10 => ?_)
  have t_v10 : v10.toInt = v7.toInt + v9.toInt := by rw [e_v10]; exact i_add rfl rfl (by omega) (by omega)
  refine lv_istore hx hb d_DiscMakerModel_used_22 hl (by decide) rfl (fun ls hl => ?_)
  have hl : lv_has ls 8 [(4, .int v10), (3, .int r2), (0, .ref h0), (1, .int x), (2, .int y)] := hl
  refine lv_iload_n hx hb d_DiscMakerModel_used_24 rfl (lv_at hl 4 rfl) ?_
  refine lv_aload_n hx hb d_DiscMakerModel_used_25 rfl (lv_at hl 2 rfl) ?_
  refine lv_iload_n hx hb d_DiscMakerModel_used_26 rfl (lv_at hl 4 rfl) ?_
  have hPc := hP.sub (ws' := [(h0, .inr (11, MO ma sv_thrown sv_length sv_nodes sv_many sv_directories sv_runsFrom sv_runs sv_read sv_wrong sv_isNamed sv_goes sv_goesSize sv_goesAt sv_targetParts sv_isRoot)), ((ma 16), .inl (cJ, 46080, .inr (.inl F)))]) [7, 8] rfl
  have hDc := hD.sub (ws' := [(h0, .inr (11, MO ma sv_thrown sv_length sv_nodes sv_many sv_directories sv_runsFrom sv_runs sv_read sv_wrong sv_isNamed sv_goes sv_goesSize sv_goesAt sv_targetParts sv_isRoot)), ((ma 16), .inl (cJ, 46080, .inr (.inl F)))]) [7, 8] (by decide +kernel) rfl
  have hFc := va_free (wc := [(h0, .inr (11, MO ma sv_thrown sv_length sv_nodes sv_many sv_directories sv_runsFrom sv_runs sv_read sv_wrong sv_isNamed sv_goes sv_goesSize sv_goesAt sv_targetParts sv_isRoot)), ((ma 16), .inl (cJ, 46080, .inr (.inl F)))]) hD hS hA [7, 8] rfl
  have hkc : 0 ≤ 0 := by decide
  have hks : 0 ≤ 0 := by decide
  refine va_calli (va_runV (C := "DiscMakerModel") (As := [.int y]) (rest := [.int y]) ⟨hx, hb, hml, hown, hts⟩ (m_at l D cB cI cJ cZ cN cF H.size h0 ma sv_thrown sv_length sv_nodes sv_many sv_directories sv_runsFrom sv_runs sv_read sv_wrong sv_isNamed sv_goes sv_goesSize sv_goesAt sv_targetParts sv_isRoot F y (by (try dsimp only); first | assumption | omega | trivial) (by (try dsimp only); first | assumption | omega | trivial)) (cwV 1 hts (lg_goodV k1809 k1811 k95 k125 kc_DiscMakerModel_at) rfl rfl rfl (by decide +kernel) ⟨Nat.le_of_ble_eq_true rfl, Nat.le_of_ble_eq_true rfl⟩) ⟨fun a U g mk q => by obtain ⟨q0, q1, qP, qK, qN, qD⟩ := q; exact ⟨q0, q1, qP, va_K.moved (u := U) (U := U.calling g mk a) (Vm.Alike.refl U.vm) qK, qN.calling, qD⟩, va_recv hK hP (ci := 11) (q0 := 7) rfl rfl, fun U hU hW => ⟨rfl, by rw [hU], by rw [hU]; exact hPc, va_K.moved hW.alike hK, NN.warm hW hN, hDc.weaken (fun _ _ _ _ => trivial)⟩⟩ rfl rfl hl.1 rfl (lv_room (Nat.le_of_ble_eq_true rfl)) d_DiscMakerModel_used_27 ⟨hkc, hks⟩) hS (fun q _ h => hFc q h) hFc (fun r11 u t H1 locs ht hvm hp_r11 hB hz1 hk1 hS => ?_)
  obtain ⟨hP1, hD1⟩ := hB
  rw [ht] at hP1
  obtain ⟨hP, hD⟩ := va_join (wr := [((ma 25), .inl (cI, 100, .inl fM)), ((ma 26), .inl (cI, 100, .inl fO)), ((ma 27), .inl (cI, 100, .inl fG)), ((ma 28), .inl (cB, 6000, .inl fN)), ((ma 29), .inl (cI, 100, .inl fNS)), ((ma 30), .inl (cB, 40000, .inl fT)), ((ma 31), .inl (cI, 100, .inl fTS))]) (w1 := [(h0, .inr (11, MO ma sv_thrown sv_length sv_nodes sv_many sv_directories sv_runsFrom sv_runs sv_read sv_wrong sv_isNamed sv_goes sv_goesSize sv_goesAt sv_targetParts sv_isRoot)), ((ma 16), .inl (cJ, 46080, .inr (.inl F)))]) hP hD [7, 8] [0, 1, 2, 3, 4, 5, 6] rfl rfl (by decide +kernel) (by decide +kernel) hk1 hFc hP1 hD1
  clear hPc hDc hFc hP1 hD1 hk1 hz1 hkc hks
  generalize H1 = H at hP hS ⊢
  have hP : va_P D CL [((ma 25), .inl (cI, 100, .inl fM)), ((ma 26), .inl (cI, 100, .inl fO)), ((ma 27), .inl (cI, 100, .inl fG)), ((ma 28), .inl (cB, 6000, .inl fN)), ((ma 29), .inl (cI, 100, .inl fNS)), ((ma 30), .inl (cB, 40000, .inl fT)), ((ma 31), .inl (cI, 100, .inl fTS)), (h0, .inr (11, MO ma sv_thrown sv_length sv_nodes sv_many sv_directories sv_runsFrom sv_runs sv_read sv_wrong sv_isNamed sv_goes sv_goesSize sv_goesAt sv_targetParts sv_isRoot)), ((ma 16), .inl (cJ, 46080, .inr (.inl F)))] H := hP
  have hD : va_D A [((ma 25), .inl (cI, 100, .inl fM)), ((ma 26), .inl (cI, 100, .inl fO)), ((ma 27), .inl (cI, 100, .inl fG)), ((ma 28), .inl (cB, 6000, .inl fN)), ((ma 29), .inl (cI, 100, .inl fNS)), ((ma 30), .inl (cB, 40000, .inl fT)), ((ma 31), .inl (cI, 100, .inl fTS)), (h0, .inr (11, MO ma sv_thrown sv_length sv_nodes sv_many sv_directories sv_runsFrom sv_runs sv_read sv_wrong sv_isNamed sv_goes sv_goesSize sv_goesAt sv_targetParts sv_isRoot)), ((ma 16), .inl (cJ, 46080, .inr (.inl F)))] := hD
  try dsimp only at hp_r11
  obtain ⟨hr_12, hv_13, hw_14⟩ := hp_r11
  have qr11 : r11.toInt = (atF F y).toInt := by subst_vars; rfl
  refine lv_iadd hx hb d_DiscMakerModel_used_30 ?_
  refine lv_topi (fun v15 e_v15 => ?_)
  have t_v15 : v15.toInt = y.toInt + r11.toInt := by rw [e_v15]; exact i_add rfl rfl (by omega) (by omega)
  refine lv_istore hx hb d_DiscMakerModel_used_31 hl (by decide) rfl (fun ls hl => ?_)
  have hl : lv_has ls 8 [(5, .int v15), (4, .int v10), (3, .int r2), (0, .ref h0), (1, .int x), (2, .int y)] := hl
  refine lv_aload_n hx hb d_DiscMakerModel_used_33 rfl (lv_at hl 3 rfl) ?_
  refine lv_iconst (v := 0) hx hb d_DiscMakerModel_used_34 (by decide) ?_
  refine va_put (D := D) (ci := 11) (v := .int 0) (ty := .int) (C := "DiscMakerModel") (T := F_DiscMakerModel) (N := 48) hx hb ht9 in_DiscMakerModel t_DiscMakerModel t_DiscMakerModel_ok n_DiscMakerModel hown hK hP hD hS 7 rfl rfl 46 (by decide) (ht9 _ k1477) (fun _ h9 => h9) rfl (by decide +kernel) rfl rfl (Nat.le_of_ble_eq_true rfl) d_DiscMakerModel_used_35 (fun H locs hP hD hS => ?_)
  have hP : va_P D CL [((ma 25), .inl (cI, 100, .inl fM)), ((ma 26), .inl (cI, 100, .inl fO)), ((ma 27), .inl (cI, 100, .inl fG)), ((ma 28), .inl (cB, 6000, .inl fN)), ((ma 29), .inl (cI, 100, .inl fNS)), ((ma 30), .inl (cB, 40000, .inl fT)), ((ma 31), .inl (cI, 100, .inl fTS)), (h0, .inr (11, MO ma sv_thrown sv_length sv_nodes sv_many sv_directories sv_runsFrom sv_runs sv_read sv_wrong sv_isNamed sv_goes sv_goesSize sv_goesAt 0 sv_isRoot)), ((ma 16), .inl (cJ, 46080, .inr (.inl F)))] H := hP
  have hD : va_D A [((ma 25), .inl (cI, 100, .inl fM)), ((ma 26), .inl (cI, 100, .inl fO)), ((ma 27), .inl (cI, 100, .inl fG)), ((ma 28), .inl (cB, 6000, .inl fN)), ((ma 29), .inl (cI, 100, .inl fNS)), ((ma 30), .inl (cB, 40000, .inl fT)), ((ma 31), .inl (cI, 100, .inl fTS)), (h0, .inr (11, MO ma sv_thrown sv_length sv_nodes sv_many sv_directories sv_runsFrom sv_runs sv_read sv_wrong sv_isNamed sv_goes sv_goesSize sv_goesAt 0 sv_isRoot)), ((ma 16), .inl (cJ, 46080, .inr (.inl F)))] := hD
  refine lv_iconst (v := 0) hx hb d_DiscMakerModel_used_38 (by decide) ?_
  refine lv_istore hx hb d_DiscMakerModel_used_39 hl (by decide) rfl (fun ls hl => ?_)
  have hl : lv_has ls 8 [(6, .int 0), (5, .int v15), (4, .int v10), (3, .int r2), (0, .ref h0), (1, .int x), (2, .int y)] := hl
  refine zz_labM (B := fun (lk : Nat) (K : Heap → List Loc → Array Slot → List Value → Prop) => ∀ (lp : Int32) (le : Int32) (lf : Int32) (lnm : Int32) (lgo : Int32) (lgz : Int32) (lga : Int32) (ltp : Int32) (lro : Int32) (lM : Nat → Int32) (lO : Nat → Int32) (lG : Nat → Int32) (lN : Nat → Int32) (lNS : Nat → Int32) (lT : Nat → Int32) (lTS : Nat → Int32) (H : Heap) (locs : List Loc) (ls : Array Slot), lk = (6 - lf.toInt).toNat → (0 ≤ lp.toInt ∧ lp.toInt ≤ 1000000) → (0 ≤ le.toInt ∧ le.toInt ≤ 2048 * sv_many.toInt) → (0 ≤ lf.toInt ∧ lf.toInt ≤ 5) → (Rg 0 60 100 lNS) → (Rg 0 400 100 lTS) → va_P D CL [((ma 25), .inl (cI, 100, .inl lM)), ((ma 26), .inl (cI, 100, .inl lO)), ((ma 27), .inl (cI, 100, .inl lG)), ((ma 28), .inl (cB, 6000, .inl lN)), ((ma 29), .inl (cI, 100, .inl lNS)), ((ma 30), .inl (cB, 40000, .inl lT)), ((ma 31), .inl (cI, 100, .inl lTS)), (h0, .inr (11, MO ma sv_thrown sv_length sv_nodes sv_many sv_directories sv_runsFrom sv_runs sv_read sv_wrong lnm lgo lgz lga ltp lro)), ((ma 16), .inl (cJ, 46080, .inr (.inl F)))] H → va_D A [((ma 25), .inl (cI, 100, .inl lM)), ((ma 26), .inl (cI, 100, .inl lO)), ((ma 27), .inl (cI, 100, .inl lG)), ((ma 28), .inl (cB, 6000, .inl lN)), ((ma 29), .inl (cI, 100, .inl lNS)), ((ma 30), .inl (cB, 40000, .inl lT)), ((ma 31), .inl (cI, 100, .inl lTS)), (h0, .inr (11, MO ma sv_thrown sv_length sv_nodes sv_many sv_directories sv_runsFrom sv_runs sv_read sv_wrong lnm lgo lgz lga ltp lro)), ((ma 16), .inl (cJ, 46080, .inr (.inl F)))] → va_S A s.heap H locs → lv_has ls 8 [(0, .ref h0), (1, .int x), (2, .int y), (3, .int r2), (4, .int lp), (5, .int le), (6, .int lf)] → K H locs ls []) 41 ?_ ?_
  · skip
    intro lk ih41 lp le lf lnm lgo lgz lga ltp lro lM lO lG lN lNS lT lTS H locs ls hm41 f1 f2 f3 hlNS hlTS hP hD hS hl
    refine lv_aload_n hx hb d_DiscMakerModel_used_41 rfl (lv_at hl 0 rfl) ?_
    refine lv_iconst (v := (-1)) hx hb d_DiscMakerModel_used_42 (by decide) ?_
    refine va_put (D := D) (ci := 11) (v := .int (-1)) (ty := .int) (C := "DiscMakerModel") (T := F_DiscMakerModel) (N := 48) hx hb ht9 in_DiscMakerModel t_DiscMakerModel t_DiscMakerModel_ok n_DiscMakerModel hown hK hP hD hS 7 rfl rfl 43 (by decide) (ht9 _ k1474) (fun _ h9 => h9) rfl (by decide +kernel) rfl rfl (Nat.le_of_ble_eq_true rfl) d_DiscMakerModel_used_43 (fun H locs hP hD hS => ?_)
    have hP : va_P D CL [((ma 25), .inl (cI, 100, .inl lM)), ((ma 26), .inl (cI, 100, .inl lO)), ((ma 27), .inl (cI, 100, .inl lG)), ((ma 28), .inl (cB, 6000, .inl lN)), ((ma 29), .inl (cI, 100, .inl lNS)), ((ma 30), .inl (cB, 40000, .inl lT)), ((ma 31), .inl (cI, 100, .inl lTS)), (h0, .inr (11, MO ma sv_thrown sv_length sv_nodes sv_many sv_directories sv_runsFrom sv_runs sv_read sv_wrong lnm (-1) lgz lga ltp lro)), ((ma 16), .inl (cJ, 46080, .inr (.inl F)))] H := hP
    have hD : va_D A [((ma 25), .inl (cI, 100, .inl lM)), ((ma 26), .inl (cI, 100, .inl lO)), ((ma 27), .inl (cI, 100, .inl lG)), ((ma 28), .inl (cB, 6000, .inl lN)), ((ma 29), .inl (cI, 100, .inl lNS)), ((ma 30), .inl (cB, 40000, .inl lT)), ((ma 31), .inl (cI, 100, .inl lTS)), (h0, .inr (11, MO ma sv_thrown sv_length sv_nodes sv_many sv_directories sv_runsFrom sv_runs sv_read sv_wrong lnm (-1) lgz lga ltp lro)), ((ma 16), .inl (cJ, 46080, .inr (.inl F)))] := hD
    refine zz_labM (B := fun (lk : Nat) (K : Heap → List Loc → Array Slot → List Value → Prop) => ∀ (np : Int32) (nnm : Int32) (ngo : Int32) (ngz : Int32) (nga : Int32) (ntp : Int32) (nro : Int32) (nM : Nat → Int32) (nO : Nat → Int32) (nG : Nat → Int32) (nN : Nat → Int32) (nNS : Nat → Int32) (nT : Nat → Int32) (nTS : Nat → Int32) (H : Heap) (locs : List Loc) (ls : Array Slot), lk = (1000000 - np.toInt).toNat → (0 ≤ np.toInt ∧ np.toInt ≤ 1000000) → (ngo.toInt < 0 ∨ (0 ≤ ngo.toInt ∧ 0 ≤ ngz.toInt ∧ ngo.toInt + ngz.toInt ≤ 2048 * sv_many.toInt)) → (Rg 0 60 100 nNS) → (Rg 0 400 100 nTS) → va_P D CL [((ma 25), .inl (cI, 100, .inl nM)), ((ma 26), .inl (cI, 100, .inl nO)), ((ma 27), .inl (cI, 100, .inl nG)), ((ma 28), .inl (cB, 6000, .inl nN)), ((ma 29), .inl (cI, 100, .inl nNS)), ((ma 30), .inl (cB, 40000, .inl nT)), ((ma 31), .inl (cI, 100, .inl nTS)), (h0, .inr (11, MO ma sv_thrown sv_length sv_nodes sv_many sv_directories sv_runsFrom sv_runs sv_read sv_wrong nnm ngo ngz nga ntp nro)), ((ma 16), .inl (cJ, 46080, .inr (.inl F)))] H → va_D A [((ma 25), .inl (cI, 100, .inl nM)), ((ma 26), .inl (cI, 100, .inl nO)), ((ma 27), .inl (cI, 100, .inl nG)), ((ma 28), .inl (cB, 6000, .inl nN)), ((ma 29), .inl (cI, 100, .inl nNS)), ((ma 30), .inl (cB, 40000, .inl nT)), ((ma 31), .inl (cI, 100, .inl nTS)), (h0, .inr (11, MO ma sv_thrown sv_length sv_nodes sv_many sv_directories sv_runsFrom sv_runs sv_read sv_wrong nnm ngo ngz nga ntp nro)), ((ma 16), .inl (cJ, 46080, .inr (.inl F)))] → va_S A s.heap H locs → lv_has ls 8 [(0, .ref h0), (1, .int x), (2, .int y), (3, .int r2), (4, .int np), (5, .int le), (6, .int lf)] → K H locs ls []) 46 ?_ ?_
    · skip
      intro lk ih46 np nnm ngo ngz nga ntp nro nM nO nG nN nNS nT nTS H locs ls hm46 f4 f5 hnNS hnTS hP hD hS hl
      refine lv_iload hx hb d_DiscMakerModel_used_46 (lv_at hl 5 rfl) ?_
      refine lv_iload hx hb d_DiscMakerModel_used_48 (lv_at hl 4 rfl) ?_
      refine lv_isub hx hb d_DiscMakerModel_used_50 ?_
      refine lv_topi (fun v16 e_v16 => ?_)
      have t_v16 : v16.toInt = le.toInt - np.toInt := by rw [e_v16]; exact i_sub rfl rfl (by omega) (by omega)
      refine lv_iconst (v := 4) hx hb d_DiscMakerModel_used_51 (by decide) ?_
      refine lv_icmp_lt (tgt := 117) hx hb d_DiscMakerModel_used_52 (by decide) (fun h_9 => ?_) (fun h_9 => ?_)
      · skip
        have g52_37 : v16.toInt < 4 := (i_lt rfl (by decide)).mp h_9
        refine lv_aload_n hx hb d_DiscMakerModel_used_117 rfl (lv_at hl 0 rfl) ?_
        refine va_get (D := D) (ci := 11) (v := .int ngo) (C := "DiscMakerModel") (T := F_DiscMakerModel) (N := 48) hx hb ht9 in_DiscMakerModel hown hK hP 7 rfl rfl 43 (by decide) (ht9 _ k1474) (fun _ h9 => h9) rfl d_DiscMakerModel_used_118 ?_
        refine lv_if_ge (tgt := 127) hx hb d_DiscMakerModel_used_121 (by decide) (fun h_9 => ?_) (fun h_9 => ?_)
        · skip
          have g121_40 : 0 ≤ ngo.toInt := (i_le (by decide) rfl).mp h_9
          obtain ⟨v17, e_v17⟩ : ∃ z : Int32, z = lf + 1 := ⟨_, rfl⟩
          refine lv_iinc (v := v17) hx hb d_DiscMakerModel_used_127 hl (k := 6) rfl e_v17.symm (by decide +kernel) rfl (fun ls hl => ?_)
          have t_v17 : v17.toInt = lf.toInt + 1 := by rw [e_v17]; exact i_add rfl (by decide) (by omega) (by omega)
          have hl : lv_has ls 8 [(6, .int v17), (0, .ref h0), (1, .int x), (2, .int y), (3, .int r2), (4, .int np), (5, .int le)] := hl
          refine lv_iload hx hb d_DiscMakerModel_used_130 (lv_at hl 0 rfl) ?_
          refine lv_iconst (v := 5) hx hb d_DiscMakerModel_used_132 (by decide) ?_
          refine lv_icmp_le (tgt := 145) hx hb d_DiscMakerModel_used_133 (by decide) (fun h_9 => ?_) (fun h_9 => ?_)
          · skip
            have g133_44 : v17.toInt ≤ 5 := (i_le rfl (by decide)).mp h_9
            refine lv_aload_n hx hb d_DiscMakerModel_used_145 rfl (lv_at hl 1 rfl) ?_
            refine va_get (D := D) (ci := 11) (v := .int ngo) (C := "DiscMakerModel") (T := F_DiscMakerModel) (N := 48) hx hb ht9 in_DiscMakerModel hown hK hP 7 rfl rfl 43 (by decide) (ht9 _ k1474) (fun _ h9 => h9) rfl d_DiscMakerModel_used_146 ?_
            refine lv_istore hx hb d_DiscMakerModel_used_149 hl (by decide) rfl (fun ls hl => ?_)
            have hl : lv_has ls 8 [(4, .int ngo), (6, .int v17), (0, .ref h0), (1, .int x), (2, .int y), (3, .int r2), (5, .int le)] := hl
            refine lv_aload_n hx hb d_DiscMakerModel_used_151 rfl (lv_at hl 2 rfl) ?_
            refine va_get (D := D) (ci := 11) (v := .int ngo) (C := "DiscMakerModel") (T := F_DiscMakerModel) (N := 48) hx hb ht9 in_DiscMakerModel hown hK hP 7 rfl rfl 43 (by decide) (ht9 _ k1474) (fun _ h9 => h9) rfl d_DiscMakerModel_used_152 ?_
            refine lv_aload_n hx hb d_DiscMakerModel_used_155 rfl (lv_at hl 2 rfl) ?_
            refine va_get (D := D) (ci := 11) (v := .int ngz) (C := "DiscMakerModel") (T := F_DiscMakerModel) (N := 48) hx hb ht9 in_DiscMakerModel hown hK hP 7 rfl rfl 44 (by decide) (ht9 _ k1475) (fun _ h9 => h9) rfl d_DiscMakerModel_used_156 ?_
            refine lv_iadd hx hb d_DiscMakerModel_used_159 ?_
            refine lv_topi (fun v18 e_v18 => ?_)
            have t_v18 : v18.toInt = ngo.toInt + ngz.toInt := by rw [e_v18]; exact i_add rfl rfl (by omega) (by omega)
            refine lv_istore hx hb d_DiscMakerModel_used_160 hl (by decide) rfl (fun ls hl => ?_)
            have hl : lv_has ls 8 [(5, .int v18), (4, .int ngo), (6, .int v17), (0, .ref h0), (1, .int x), (2, .int y), (3, .int r2)] := hl
            refine lv_goto (tgt := 41) hx hb d_DiscMakerModel_used_162 (by decide) ?_
            have hP := hP.sub (ws' := [((ma 25), .inl (cI, 100, .inl nM)), ((ma 26), .inl (cI, 100, .inl nO)), ((ma 27), .inl (cI, 100, .inl nG)), ((ma 28), .inl (cB, 6000, .inl nN)), ((ma 29), .inl (cI, 100, .inl nNS)), ((ma 30), .inl (cB, 40000, .inl nT)), ((ma 31), .inl (cI, 100, .inl nTS)), (h0, .inr (11, MO ma sv_thrown sv_length sv_nodes sv_many sv_directories sv_runsFrom sv_runs sv_read sv_wrong nnm ngo ngz nga ntp nro)), ((ma 16), .inl (cJ, 46080, .inr (.inl F)))]) [0, 1, 2, 3, 4, 5, 6, 7, 8] rfl
            have hD := hD.sub (ws' := [((ma 25), .inl (cI, 100, .inl nM)), ((ma 26), .inl (cI, 100, .inl nO)), ((ma 27), .inl (cI, 100, .inl nG)), ((ma 28), .inl (cB, 6000, .inl nN)), ((ma 29), .inl (cI, 100, .inl nNS)), ((ma 30), .inl (cB, 40000, .inl nT)), ((ma 31), .inl (cI, 100, .inl nTS)), (h0, .inr (11, MO ma sv_thrown sv_length sv_nodes sv_many sv_directories sv_runsFrom sv_runs sv_read sv_wrong nnm ngo ngz nga ntp nro)), ((ma 16), .inl (cJ, 46080, .inr (.inl F)))]) [0, 1, 2, 3, 4, 5, 6, 7, 8] (by decide +kernel) rfl
            have hl := lv_sub hl [3, 4, 5, 6, 1, 0, 2] rfl
            exact ih41 _ (by first | omega | (dsimp only; omega)) ngo v18 v17 nnm ngo ngz nga ntp nro nM nO nG nN nNS nT nTS _ _ _ rfl ((by (try dsimp only); first | assumption | omega | trivial)) ((by (try dsimp only); first | assumption | omega | trivial)) ((by (try dsimp only); first | assumption | omega | trivial)) ((by (try dsimp only); first | assumption | omega | trivial)) ((by (try dsimp only); first | assumption | omega | trivial)) hP hD hS hl
          · skip
            have g133_44 : ¬ v17.toInt ≤ 5 := fun h8 => h_9 ((i_le rfl (by decide)).mpr h8)
            refine lv_aload_n hx hb d_DiscMakerModel_used_136 rfl (lv_at hl 1 rfl) ?_
            refine lv_aload_n hx hb d_DiscMakerModel_used_137 rfl (lv_at hl 1 rfl) ?_
            refine va_get (D := D) (ci := 11) (v := .int nga) (C := "DiscMakerModel") (T := F_DiscMakerModel) (N := 48) hx hb ht9 in_DiscMakerModel hown hK hP 7 rfl rfl 45 (by decide) (ht9 _ k1476) (fun _ h9 => h9) rfl d_DiscMakerModel_used_138 ?_
            have hPc := hP.sub (ws' := [(h0, .inr (11, MO ma sv_thrown sv_length sv_nodes sv_many sv_directories sv_runsFrom sv_runs sv_read sv_wrong nnm ngo ngz nga ntp nro))]) [7] rfl
            have hDc := hD.sub (ws' := [(h0, .inr (11, MO ma sv_thrown sv_length sv_nodes sv_many sv_directories sv_runsFrom sv_runs sv_read sv_wrong nnm ngo ngz nga ntp nro))]) [7] (by decide +kernel) rfl
            have hFc := va_free (wc := [(h0, .inr (11, MO ma sv_thrown sv_length sv_nodes sv_many sv_directories sv_runsFrom sv_runs sv_read sv_wrong nnm ngo ngz nga ntp nro))]) hD hS hA [7] rfl
            have hkc : 0 ≤ 0 := by decide
            have hks : 0 ≤ 0 := by decide
            refine va_calli (va_runV (C := "DiscMakerModel") (As := [.int nga]) (rest := []) ⟨hx, hb, hml, hown, hts⟩ (m_isWrong l D cB cI cJ cZ cN cF H.size h0 ma sv_thrown sv_length sv_nodes sv_many sv_directories sv_runsFrom sv_runs sv_read sv_wrong nnm ngo ngz nga ntp nro nga) (cwV 1 hts (lg_goodV k1833 k1835 k98 k125 kc_DiscMakerModel_isWrong) rfl rfl rfl (by decide +kernel) ⟨Nat.le_of_ble_eq_true rfl, Nat.le_of_ble_eq_true rfl⟩) ⟨fun a U g mk q => by obtain ⟨q0, q1, qP, qK, qN, qD⟩ := q; exact ⟨q0, q1, qP, va_K.moved (u := U) (U := U.calling g mk a) (Vm.Alike.refl U.vm) qK, qN.calling, qD⟩, va_recv hK hP (ci := 11) (q0 := 7) rfl rfl, fun U hU hW => ⟨rfl, by rw [hU], by rw [hU]; exact hPc, va_K.moved hW.alike hK, NN.warm hW hN, hDc.weaken (fun _ _ _ _ => trivial)⟩⟩ rfl rfl hl.1 rfl (lv_room (Nat.le_of_ble_eq_true rfl)) d_DiscMakerModel_used_141 ⟨hkc, hks⟩) hS (fun q _ h => hFc q h) hFc (fun r19 u t H1 locs ht hvm hp_r19 hB hz1 hk1 hS => ?_)
            obtain ⟨wr_20, rfl⟩ : ∃ z, z = u := ⟨_, rfl⟩
            obtain ⟨hP1, hD1⟩ := hB
            rw [ht] at hP1
            obtain ⟨hP, hD⟩ := va_join (wr := [((ma 25), .inl (cI, 100, .inl nM)), ((ma 26), .inl (cI, 100, .inl nO)), ((ma 27), .inl (cI, 100, .inl nG)), ((ma 28), .inl (cB, 6000, .inl nN)), ((ma 29), .inl (cI, 100, .inl nNS)), ((ma 30), .inl (cB, 40000, .inl nT)), ((ma 31), .inl (cI, 100, .inl nTS)), ((ma 16), .inl (cJ, 46080, .inr (.inl F)))]) (w1 := [(h0, .inr (11, MO ma sv_thrown sv_length sv_nodes sv_many sv_directories sv_runsFrom sv_runs sv_read wr_20 nnm ngo ngz nga ntp nro))]) hP hD [7] [0, 1, 2, 3, 4, 5, 6, 8] rfl rfl (by decide +kernel) (by decide +kernel) hk1 hFc hP1 hD1
            clear hPc hDc hFc hP1 hD1 hk1 hz1 hkc hks
            generalize H1 = H at hP hS ⊢
            have hP : va_P D CL [((ma 25), .inl (cI, 100, .inl nM)), ((ma 26), .inl (cI, 100, .inl nO)), ((ma 27), .inl (cI, 100, .inl nG)), ((ma 28), .inl (cB, 6000, .inl nN)), ((ma 29), .inl (cI, 100, .inl nNS)), ((ma 30), .inl (cB, 40000, .inl nT)), ((ma 31), .inl (cI, 100, .inl nTS)), ((ma 16), .inl (cJ, 46080, .inr (.inl F))), (h0, .inr (11, MO ma sv_thrown sv_length sv_nodes sv_many sv_directories sv_runsFrom sv_runs sv_read wr_20 nnm ngo ngz nga ntp nro))] H := hP
            have hD : va_D A [((ma 25), .inl (cI, 100, .inl nM)), ((ma 26), .inl (cI, 100, .inl nO)), ((ma 27), .inl (cI, 100, .inl nG)), ((ma 28), .inl (cB, 6000, .inl nN)), ((ma 29), .inl (cI, 100, .inl nNS)), ((ma 30), .inl (cB, 40000, .inl nT)), ((ma 31), .inl (cI, 100, .inl nTS)), ((ma 16), .inl (cJ, 46080, .inr (.inl F))), (h0, .inr (11, MO ma sv_thrown sv_length sv_nodes sv_many sv_directories sv_runsFrom sv_runs sv_read wr_20 nnm ngo ngz nga ntp nro))] := hD
            try dsimp only at hp_r19
            have hr_21 := hp_r19
            have hP9 := hP.sub (ws' := [(h0, .inr (11, MO ma sv_thrown sv_length sv_nodes sv_many sv_directories sv_runsFrom sv_runs sv_read wr_20 nnm ngo ngz nga ntp nro)), ((ma 16), .inl (cJ, 46080, .inr (.inl F))), ((ma 25), .inl (cI, 100, .inl nM)), ((ma 26), .inl (cI, 100, .inl nO)), ((ma 27), .inl (cI, 100, .inl nG)), ((ma 28), .inl (cB, 6000, .inl nN)), ((ma 29), .inl (cI, 100, .inl nNS)), ((ma 30), .inl (cB, 40000, .inl nT)), ((ma 31), .inl (cI, 100, .inl nTS))]) [8, 7, 0, 1, 2, 3, 4, 5, 6] rfl
            have hD9 := hD.sub (ws' := [(h0, .inr (11, MO ma sv_thrown sv_length sv_nodes sv_many sv_directories sv_runsFrom sv_runs sv_read wr_20 nnm ngo ngz nga ntp nro)), ((ma 16), .inl (cJ, 46080, .inr (.inl F))), ((ma 25), .inl (cI, 100, .inl nM)), ((ma 26), .inl (cI, 100, .inl nO)), ((ma 27), .inl (cI, 100, .inl nG)), ((ma 28), .inl (cB, 6000, .inl nN)), ((ma 29), .inl (cI, 100, .inl nNS)), ((ma 30), .inl (cB, 40000, .inl nT)), ((ma 31), .inl (cI, 100, .inl nTS))]) [8, 7, 0, 1, 2, 3, 4, 5, 6] (by decide +kernel) rfl
            exact W.zret (v := r19) hx hb hr (by first | rfl | decide | exact i_narZ (by omega)) (fun t ht hW => ⟨⟨r19, (wr_20, nnm, ngo, ngz, nga, ntp, nro, nM, nO, nG, nN, nNS, nT, nTS), rfl, ⟨(by (try dsimp only); first | assumption | omega | trivial), (by (try dsimp only); first | assumption | omega | trivial), (by (try dsimp only); first | assumption | omega | trivial)⟩, by rw [ht]; exact hP9, hD9⟩, hS.F ht⟩) hS.2.2 d_DiscMakerModel_used_144
        · skip
          have g121_40 : ¬ 0 ≤ ngo.toInt := fun h8 => h_9 ((i_le (by decide) rfl).mpr h8)
          refine lv_goto (tgt := 165) hx hb d_DiscMakerModel_used_124 (by decide) ?_
          refine lv_iconst (v := 1) hx hb d_DiscMakerModel_used_165 (by decide) ?_
          have hP9 := hP.sub (ws' := [(h0, .inr (11, MO ma sv_thrown sv_length sv_nodes sv_many sv_directories sv_runsFrom sv_runs sv_read sv_wrong nnm ngo ngz nga ntp nro)), ((ma 16), .inl (cJ, 46080, .inr (.inl F))), ((ma 25), .inl (cI, 100, .inl nM)), ((ma 26), .inl (cI, 100, .inl nO)), ((ma 27), .inl (cI, 100, .inl nG)), ((ma 28), .inl (cB, 6000, .inl nN)), ((ma 29), .inl (cI, 100, .inl nNS)), ((ma 30), .inl (cB, 40000, .inl nT)), ((ma 31), .inl (cI, 100, .inl nTS))]) [7, 8, 0, 1, 2, 3, 4, 5, 6] rfl
          have hD9 := hD.sub (ws' := [(h0, .inr (11, MO ma sv_thrown sv_length sv_nodes sv_many sv_directories sv_runsFrom sv_runs sv_read sv_wrong nnm ngo ngz nga ntp nro)), ((ma 16), .inl (cJ, 46080, .inr (.inl F))), ((ma 25), .inl (cI, 100, .inl nM)), ((ma 26), .inl (cI, 100, .inl nO)), ((ma 27), .inl (cI, 100, .inl nG)), ((ma 28), .inl (cB, 6000, .inl nN)), ((ma 29), .inl (cI, 100, .inl nNS)), ((ma 30), .inl (cB, 40000, .inl nT)), ((ma 31), .inl (cI, 100, .inl nTS))]) [7, 8, 0, 1, 2, 3, 4, 5, 6] (by decide +kernel) rfl
          exact W.zret (v := 1) hx hb hr (by first | rfl | decide | exact i_narZ (by omega)) (fun t ht hW => ⟨⟨1, (sv_wrong, nnm, ngo, ngz, nga, ntp, nro, nM, nO, nG, nN, nNS, nT, nTS), rfl, ⟨(by (try dsimp only); first | assumption | omega | trivial), (by (try dsimp only); first | assumption | omega | trivial), (by (try dsimp only); first | assumption | omega | trivial)⟩, by rw [ht]; exact hP9, hD9⟩, hS.F ht⟩) hS.2.2 d_DiscMakerModel_used_166
      · skip
        have g52_37 : ¬ v16.toInt < 4 := fun h8 => h_9 ((i_lt rfl (by decide)).mpr h8)
        refine lv_aload_n hx hb d_DiscMakerModel_used_55 rfl (lv_at hl 0 rfl) ?_
        refine lv_iload hx hb d_DiscMakerModel_used_56 (lv_at hl 4 rfl) ?_
        refine lv_iconst (v := 2) hx hb d_DiscMakerModel_used_58 (by decide) ?_
        refine lv_iadd hx hb d_DiscMakerModel_used_59 ?_
        refine lv_topi (fun v22 e_v22 => ?_)
        have t_v22 : v22.toInt = np.toInt + 2 := by rw [e_v22]; exact i_add rfl (by decide) (by omega) (by omega)
        have hPc := hP.sub (ws' := [(h0, .inr (11, MO ma sv_thrown sv_length sv_nodes sv_many sv_directories sv_runsFrom sv_runs sv_read sv_wrong nnm ngo ngz nga ntp nro)), ((ma 16), .inl (cJ, 46080, .inr (.inl F)))]) [7, 8] rfl
        have hDc := hD.sub (ws' := [(h0, .inr (11, MO ma sv_thrown sv_length sv_nodes sv_many sv_directories sv_runsFrom sv_runs sv_read sv_wrong nnm ngo ngz nga ntp nro)), ((ma 16), .inl (cJ, 46080, .inr (.inl F)))]) [7, 8] (by decide +kernel) rfl
        have hFc := va_free (wc := [(h0, .inr (11, MO ma sv_thrown sv_length sv_nodes sv_many sv_directories sv_runsFrom sv_runs sv_read sv_wrong nnm ngo ngz nga ntp nro)), ((ma 16), .inl (cJ, 46080, .inr (.inl F)))]) hD hS hA [7, 8] rfl
        have hkc : 0 ≤ 0 := by decide
        have hks : 0 ≤ 0 := by decide
        refine va_calli (va_runV (C := "DiscMakerModel") (As := [.int v22]) (rest := []) ⟨hx, hb, hml, hown, hts⟩ (m_at l D cB cI cJ cZ cN cF H.size h0 ma sv_thrown sv_length sv_nodes sv_many sv_directories sv_runsFrom sv_runs sv_read sv_wrong nnm ngo ngz nga ntp nro F v22 (by (try dsimp only); first | assumption | omega | trivial) (by (try dsimp only); first | assumption | omega | trivial)) (cwV 1 hts (lg_goodV k1809 k1811 k95 k125 kc_DiscMakerModel_at) rfl rfl rfl (by decide +kernel) ⟨Nat.le_of_ble_eq_true rfl, Nat.le_of_ble_eq_true rfl⟩) ⟨fun a U g mk q => by obtain ⟨q0, q1, qP, qK, qN, qD⟩ := q; exact ⟨q0, q1, qP, va_K.moved (u := U) (U := U.calling g mk a) (Vm.Alike.refl U.vm) qK, qN.calling, qD⟩, va_recv hK hP (ci := 11) (q0 := 7) rfl rfl, fun U hU hW => ⟨rfl, by rw [hU], by rw [hU]; exact hPc, va_K.moved hW.alike hK, NN.warm hW hN, hDc.weaken (fun _ _ _ _ => trivial)⟩⟩ rfl rfl hl.1 rfl (lv_room (Nat.le_of_ble_eq_true rfl)) d_DiscMakerModel_used_60 ⟨hkc, hks⟩) hS (fun q _ h => hFc q h) hFc (fun r23 u t H1 locs ht hvm hp_r23 hB hz1 hk1 hS => ?_)
        obtain ⟨hP1, hD1⟩ := hB
        rw [ht] at hP1
        obtain ⟨hP, hD⟩ := va_join (wr := [((ma 25), .inl (cI, 100, .inl nM)), ((ma 26), .inl (cI, 100, .inl nO)), ((ma 27), .inl (cI, 100, .inl nG)), ((ma 28), .inl (cB, 6000, .inl nN)), ((ma 29), .inl (cI, 100, .inl nNS)), ((ma 30), .inl (cB, 40000, .inl nT)), ((ma 31), .inl (cI, 100, .inl nTS))]) (w1 := [(h0, .inr (11, MO ma sv_thrown sv_length sv_nodes sv_many sv_directories sv_runsFrom sv_runs sv_read sv_wrong nnm ngo ngz nga ntp nro)), ((ma 16), .inl (cJ, 46080, .inr (.inl F)))]) hP hD [7, 8] [0, 1, 2, 3, 4, 5, 6] rfl rfl (by decide +kernel) (by decide +kernel) hk1 hFc hP1 hD1
        clear hPc hDc hFc hP1 hD1 hk1 hz1 hkc hks
        generalize H1 = H at hP hS ⊢
        have hP : va_P D CL [((ma 25), .inl (cI, 100, .inl nM)), ((ma 26), .inl (cI, 100, .inl nO)), ((ma 27), .inl (cI, 100, .inl nG)), ((ma 28), .inl (cB, 6000, .inl nN)), ((ma 29), .inl (cI, 100, .inl nNS)), ((ma 30), .inl (cB, 40000, .inl nT)), ((ma 31), .inl (cI, 100, .inl nTS)), (h0, .inr (11, MO ma sv_thrown sv_length sv_nodes sv_many sv_directories sv_runsFrom sv_runs sv_read sv_wrong nnm ngo ngz nga ntp nro)), ((ma 16), .inl (cJ, 46080, .inr (.inl F)))] H := hP
        have hD : va_D A [((ma 25), .inl (cI, 100, .inl nM)), ((ma 26), .inl (cI, 100, .inl nO)), ((ma 27), .inl (cI, 100, .inl nG)), ((ma 28), .inl (cB, 6000, .inl nN)), ((ma 29), .inl (cI, 100, .inl nNS)), ((ma 30), .inl (cB, 40000, .inl nT)), ((ma 31), .inl (cI, 100, .inl nTS)), (h0, .inr (11, MO ma sv_thrown sv_length sv_nodes sv_many sv_directories sv_runsFrom sv_runs sv_read sv_wrong nnm ngo ngz nga ntp nro)), ((ma 16), .inl (cJ, 46080, .inr (.inl F)))] := hD
        try dsimp only at hp_r23
        obtain ⟨hr_24, hv_25, hw_26⟩ := hp_r23
        refine lv_istore hx hb d_DiscMakerModel_used_63 hl (by decide) rfl (fun ls hl => ?_)
        have hl : lv_has ls 8 [(7, .int r23), (0, .ref h0), (1, .int x), (2, .int y), (3, .int r2), (4, .int np), (5, .int le), (6, .int lf)] := hl
        refine lv_iload hx hb d_DiscMakerModel_used_65 (lv_at hl 0 rfl) ?_
        refine lv_iconst (v := 4) hx hb d_DiscMakerModel_used_67 (by decide) ?_
        refine lv_icmp_lt (tgt := 81) hx hb d_DiscMakerModel_used_68 (by decide) (fun h_9 => ?_) (fun h_9 => ?_)
        · skip
          have g68_72 : r23.toInt < 4 := (i_lt rfl (by decide)).mp h_9
          refine lv_aload_n hx hb d_DiscMakerModel_used_81 rfl (lv_at hl 1 rfl) ?_
          refine lv_iload hx hb d_DiscMakerModel_used_82 (lv_at hl 5 rfl) ?_
          have hPc := hP.sub (ws' := [(h0, .inr (11, MO ma sv_thrown sv_length sv_nodes sv_many sv_directories sv_runsFrom sv_runs sv_read sv_wrong nnm ngo ngz nga ntp nro))]) [7] rfl
          have hDc := hD.sub (ws' := [(h0, .inr (11, MO ma sv_thrown sv_length sv_nodes sv_many sv_directories sv_runsFrom sv_runs sv_read sv_wrong nnm ngo ngz nga ntp nro))]) [7] (by decide +kernel) rfl
          have hFc := va_free (wc := [(h0, .inr (11, MO ma sv_thrown sv_length sv_nodes sv_many sv_directories sv_runsFrom sv_runs sv_read sv_wrong nnm ngo ngz nga ntp nro))]) hD hS hA [7] rfl
          have hkc : 0 ≤ 0 := by decide
          have hks : 0 ≤ 0 := by decide
          refine va_calli (va_runV (C := "DiscMakerModel") (As := [.int np]) (rest := []) ⟨hx, hb, hml, hown, hts⟩ (m_isWrong l D cB cI cJ cZ cN cF H.size h0 ma sv_thrown sv_length sv_nodes sv_many sv_directories sv_runsFrom sv_runs sv_read sv_wrong nnm ngo ngz nga ntp nro np) (cwV 1 hts (lg_goodV k1833 k1835 k98 k125 kc_DiscMakerModel_isWrong) rfl rfl rfl (by decide +kernel) ⟨Nat.le_of_ble_eq_true rfl, Nat.le_of_ble_eq_true rfl⟩) ⟨fun a U g mk q => by obtain ⟨q0, q1, qP, qK, qN, qD⟩ := q; exact ⟨q0, q1, qP, va_K.moved (u := U) (U := U.calling g mk a) (Vm.Alike.refl U.vm) qK, qN.calling, qD⟩, va_recv hK hP (ci := 11) (q0 := 7) rfl rfl, fun U hU hW => ⟨rfl, by rw [hU], by rw [hU]; exact hPc, va_K.moved hW.alike hK, NN.warm hW hN, hDc.weaken (fun _ _ _ _ => trivial)⟩⟩ rfl rfl hl.1 rfl (lv_room (Nat.le_of_ble_eq_true rfl)) d_DiscMakerModel_used_84 ⟨hkc, hks⟩) hS (fun q _ h => hFc q h) hFc (fun r27 u t H1 locs ht hvm hp_r27 hB hz1 hk1 hS => ?_)
          obtain ⟨wr_28, rfl⟩ : ∃ z, z = u := ⟨_, rfl⟩
          obtain ⟨hP1, hD1⟩ := hB
          rw [ht] at hP1
          obtain ⟨hP, hD⟩ := va_join (wr := [((ma 25), .inl (cI, 100, .inl nM)), ((ma 26), .inl (cI, 100, .inl nO)), ((ma 27), .inl (cI, 100, .inl nG)), ((ma 28), .inl (cB, 6000, .inl nN)), ((ma 29), .inl (cI, 100, .inl nNS)), ((ma 30), .inl (cB, 40000, .inl nT)), ((ma 31), .inl (cI, 100, .inl nTS)), ((ma 16), .inl (cJ, 46080, .inr (.inl F)))]) (w1 := [(h0, .inr (11, MO ma sv_thrown sv_length sv_nodes sv_many sv_directories sv_runsFrom sv_runs sv_read wr_28 nnm ngo ngz nga ntp nro))]) hP hD [7] [0, 1, 2, 3, 4, 5, 6, 8] rfl rfl (by decide +kernel) (by decide +kernel) hk1 hFc hP1 hD1
          clear hPc hDc hFc hP1 hD1 hk1 hz1 hkc hks
          generalize H1 = H at hP hS ⊢
          have hP : va_P D CL [((ma 25), .inl (cI, 100, .inl nM)), ((ma 26), .inl (cI, 100, .inl nO)), ((ma 27), .inl (cI, 100, .inl nG)), ((ma 28), .inl (cB, 6000, .inl nN)), ((ma 29), .inl (cI, 100, .inl nNS)), ((ma 30), .inl (cB, 40000, .inl nT)), ((ma 31), .inl (cI, 100, .inl nTS)), ((ma 16), .inl (cJ, 46080, .inr (.inl F))), (h0, .inr (11, MO ma sv_thrown sv_length sv_nodes sv_many sv_directories sv_runsFrom sv_runs sv_read wr_28 nnm ngo ngz nga ntp nro))] H := hP
          have hD : va_D A [((ma 25), .inl (cI, 100, .inl nM)), ((ma 26), .inl (cI, 100, .inl nO)), ((ma 27), .inl (cI, 100, .inl nG)), ((ma 28), .inl (cB, 6000, .inl nN)), ((ma 29), .inl (cI, 100, .inl nNS)), ((ma 30), .inl (cB, 40000, .inl nT)), ((ma 31), .inl (cI, 100, .inl nTS)), ((ma 16), .inl (cJ, 46080, .inr (.inl F))), (h0, .inr (11, MO ma sv_thrown sv_length sv_nodes sv_many sv_directories sv_runsFrom sv_runs sv_read wr_28 nnm ngo ngz nga ntp nro))] := hD
          try dsimp only at hp_r27
          have hr_29 := hp_r27
          have hP9 := hP.sub (ws' := [(h0, .inr (11, MO ma sv_thrown sv_length sv_nodes sv_many sv_directories sv_runsFrom sv_runs sv_read wr_28 nnm ngo ngz nga ntp nro)), ((ma 16), .inl (cJ, 46080, .inr (.inl F))), ((ma 25), .inl (cI, 100, .inl nM)), ((ma 26), .inl (cI, 100, .inl nO)), ((ma 27), .inl (cI, 100, .inl nG)), ((ma 28), .inl (cB, 6000, .inl nN)), ((ma 29), .inl (cI, 100, .inl nNS)), ((ma 30), .inl (cB, 40000, .inl nT)), ((ma 31), .inl (cI, 100, .inl nTS))]) [8, 7, 0, 1, 2, 3, 4, 5, 6] rfl
          have hD9 := hD.sub (ws' := [(h0, .inr (11, MO ma sv_thrown sv_length sv_nodes sv_many sv_directories sv_runsFrom sv_runs sv_read wr_28 nnm ngo ngz nga ntp nro)), ((ma 16), .inl (cJ, 46080, .inr (.inl F))), ((ma 25), .inl (cI, 100, .inl nM)), ((ma 26), .inl (cI, 100, .inl nO)), ((ma 27), .inl (cI, 100, .inl nG)), ((ma 28), .inl (cB, 6000, .inl nN)), ((ma 29), .inl (cI, 100, .inl nNS)), ((ma 30), .inl (cB, 40000, .inl nT)), ((ma 31), .inl (cI, 100, .inl nTS))]) [8, 7, 0, 1, 2, 3, 4, 5, 6] (by decide +kernel) rfl
          exact W.zret (v := r27) hx hb hr (by first | rfl | decide | exact i_narZ (by omega)) (fun t ht hW => ⟨⟨r27, (wr_28, nnm, ngo, ngz, nga, ntp, nro, nM, nO, nG, nN, nNS, nT, nTS), rfl, ⟨(by (try dsimp only); first | assumption | omega | trivial), (by (try dsimp only); first | assumption | omega | trivial), (by (try dsimp only); first | assumption | omega | trivial)⟩, by rw [ht]; exact hP9, hD9⟩, hS.F ht⟩) hS.2.2 d_DiscMakerModel_used_87
        · skip
          have g68_72 : ¬ r23.toInt < 4 := fun h8 => h_9 ((i_lt rfl (by decide)).mpr h8)
          refine lv_iload hx hb d_DiscMakerModel_used_71 (lv_at hl 5 rfl) ?_
          refine lv_iload hx hb d_DiscMakerModel_used_73 (lv_at hl 0 rfl) ?_
          refine lv_iadd hx hb d_DiscMakerModel_used_75 ?_
          refine lv_topi (fun v30 e_v30 => ?_)
          have t_v30 : v30.toInt = np.toInt + r23.toInt := by rw [e_v30]; exact i_add rfl rfl (by omega) (by omega)
          refine lv_iload hx hb d_DiscMakerModel_used_76 (lv_at hl 6 rfl) ?_
          refine lv_icmp_le (tgt := 88) hx hb d_DiscMakerModel_used_78 (by decide) (fun h_9 => ?_) (fun h_9 => ?_)
          · skip
            have g78_81 : v30.toInt ≤ le.toInt := (i_le rfl rfl).mp h_9
            refine lv_aload_n hx hb d_DiscMakerModel_used_88 rfl (lv_at hl 1 rfl) ?_
            refine lv_iload_n hx hb d_DiscMakerModel_used_89 rfl (lv_at hl 2 rfl) ?_
            refine lv_iload hx hb d_DiscMakerModel_used_90 (lv_at hl 5 rfl) ?_
            refine lv_iload hx hb d_DiscMakerModel_used_92 (lv_at hl 0 rfl) ?_
            have hPc := hP.sub (ws' := [(h0, .inr (11, MO ma sv_thrown sv_length sv_nodes sv_many sv_directories sv_runsFrom sv_runs sv_read sv_wrong nnm ngo ngz nga ntp nro)), ((ma 16), .inl (cJ, 46080, .inr (.inl F))), ((ma 25), .inl (cI, 100, .inl nM)), ((ma 26), .inl (cI, 100, .inl nO)), ((ma 27), .inl (cI, 100, .inl nG)), ((ma 28), .inl (cB, 6000, .inl nN)), ((ma 29), .inl (cI, 100, .inl nNS)), ((ma 30), .inl (cB, 40000, .inl nT)), ((ma 31), .inl (cI, 100, .inl nTS))]) [7, 8, 0, 1, 2, 3, 4, 5, 6] rfl
            have hDc := hD.sub (ws' := [(h0, .inr (11, MO ma sv_thrown sv_length sv_nodes sv_many sv_directories sv_runsFrom sv_runs sv_read sv_wrong nnm ngo ngz nga ntp nro)), ((ma 16), .inl (cJ, 46080, .inr (.inl F))), ((ma 25), .inl (cI, 100, .inl nM)), ((ma 26), .inl (cI, 100, .inl nO)), ((ma 27), .inl (cI, 100, .inl nG)), ((ma 28), .inl (cB, 6000, .inl nN)), ((ma 29), .inl (cI, 100, .inl nNS)), ((ma 30), .inl (cB, 40000, .inl nT)), ((ma 31), .inl (cI, 100, .inl nTS))]) [7, 8, 0, 1, 2, 3, 4, 5, 6] (by decide +kernel) rfl
            have hFc := va_free (wc := [(h0, .inr (11, MO ma sv_thrown sv_length sv_nodes sv_many sv_directories sv_runsFrom sv_runs sv_read sv_wrong nnm ngo ngz nga ntp nro)), ((ma 16), .inl (cJ, 46080, .inr (.inl F))), ((ma 25), .inl (cI, 100, .inl nM)), ((ma 26), .inl (cI, 100, .inl nO)), ((ma 27), .inl (cI, 100, .inl nG)), ((ma 28), .inl (cB, 6000, .inl nN)), ((ma 29), .inl (cI, 100, .inl nNS)), ((ma 30), .inl (cB, 40000, .inl nT)), ((ma 31), .inl (cI, 100, .inl nTS))]) hD hS hA [7, 8, 0, 1, 2, 3, 4, 5, 6] rfl
            have hkc : 0 ≤ 0 := by decide
            have hks : 0 ≤ 0 := by decide
            refine va_calli (va_runV (C := "DiscMakerModel") (As := [.int x, .int np, .int r23]) (rest := []) ⟨hx, hb, hml, hown, hts⟩ (m_part l D cB cI cJ cZ cN cF H.size h0 ma sv_thrown sv_length sv_nodes sv_many sv_directories sv_runsFrom sv_runs sv_read sv_wrong nnm ngo ngz nga ntp nro F nM nO nG nN nNS nT nTS x np r23 (by (try dsimp only); first | assumption | omega | trivial) (by (try dsimp only); first | assumption | omega | trivial) (by (try dsimp only); first | assumption | omega | trivial) (by (try dsimp only); first | assumption | omega | trivial) (by (try dsimp only); first | assumption | omega | trivial) (by (try dsimp only); first | assumption | omega | trivial) (by (try dsimp only); first | assumption | omega | trivial)) (cwV 3 hts (lg_goodV k1866 k1868 k106 k125 kc_DiscMakerModel_part) rfl rfl rfl (by decide +kernel) ⟨Nat.le_of_ble_eq_true rfl, Nat.le_of_ble_eq_true rfl⟩) ⟨fun a U g mk q => by obtain ⟨q0, q1, qP, qK, qN, qD⟩ := q; exact ⟨q0, q1, qP, va_K.moved (u := U) (U := U.calling g mk a) (Vm.Alike.refl U.vm) qK, qN.calling, qD⟩, va_recv hK hP (ci := 11) (q0 := 7) rfl rfl, fun U hU hW => ⟨rfl, by rw [hU], by rw [hU]; exact hPc, va_K.moved hW.alike hK, NN.warm hW hN, hDc.weaken (fun _ _ _ _ => trivial)⟩⟩ rfl rfl hl.1 rfl (lv_room (Nat.le_of_ble_eq_true rfl)) d_DiscMakerModel_used_94 ⟨hkc, hks⟩) hS (fun q _ h => hFc q h) hFc (fun r31 u t H1 locs ht hvm hp_r31 hB hz1 hk1 hS => ?_)
            obtain ⟨nm_32, go_33, gz_34, ga_35, tp_36, ro_37, gM_38, gO_39, gG_40, gN_41, gNS_42, gT_43, gTS_44⟩ := u
            obtain ⟨hP1, hD1⟩ := hB
            rw [ht] at hP1
            obtain ⟨hP, hD⟩ := va_join (wr := []) (w1 := [(h0, .inr (11, MO ma sv_thrown sv_length sv_nodes sv_many sv_directories sv_runsFrom sv_runs sv_read sv_wrong nm_32 go_33 gz_34 ga_35 tp_36 ro_37)), ((ma 16), .inl (cJ, 46080, .inr (.inl F))), ((ma 25), .inl (cI, 100, .inl gM_38)), ((ma 26), .inl (cI, 100, .inl gO_39)), ((ma 27), .inl (cI, 100, .inl gG_40)), ((ma 28), .inl (cB, 6000, .inl gN_41)), ((ma 29), .inl (cI, 100, .inl gNS_42)), ((ma 30), .inl (cB, 40000, .inl gT_43)), ((ma 31), .inl (cI, 100, .inl gTS_44))]) hP hD [7, 8, 0, 1, 2, 3, 4, 5, 6] [] rfl rfl (by decide +kernel) (by decide +kernel) hk1 hFc hP1 hD1
            clear hPc hDc hFc hP1 hD1 hk1 hz1 hkc hks
            generalize H1 = H at hP hS ⊢
            have hP : va_P D CL [(h0, .inr (11, MO ma sv_thrown sv_length sv_nodes sv_many sv_directories sv_runsFrom sv_runs sv_read sv_wrong nm_32 go_33 gz_34 ga_35 tp_36 ro_37)), ((ma 16), .inl (cJ, 46080, .inr (.inl F))), ((ma 25), .inl (cI, 100, .inl gM_38)), ((ma 26), .inl (cI, 100, .inl gO_39)), ((ma 27), .inl (cI, 100, .inl gG_40)), ((ma 28), .inl (cB, 6000, .inl gN_41)), ((ma 29), .inl (cI, 100, .inl gNS_42)), ((ma 30), .inl (cB, 40000, .inl gT_43)), ((ma 31), .inl (cI, 100, .inl gTS_44))] H := hP
            have hD : va_D A [(h0, .inr (11, MO ma sv_thrown sv_length sv_nodes sv_many sv_directories sv_runsFrom sv_runs sv_read sv_wrong nm_32 go_33 gz_34 ga_35 tp_36 ro_37)), ((ma 16), .inl (cJ, 46080, .inr (.inl F))), ((ma 25), .inl (cI, 100, .inl gM_38)), ((ma 26), .inl (cI, 100, .inl gO_39)), ((ma 27), .inl (cI, 100, .inl gG_40)), ((ma 28), .inl (cB, 6000, .inl gN_41)), ((ma 29), .inl (cI, 100, .inl gNS_42)), ((ma 30), .inl (cB, 40000, .inl gT_43)), ((ma 31), .inl (cI, 100, .inl gTS_44))] := hD
            try dsimp only at hp_r31
            obtain ⟨hr_45, hgo_46, hgNS_47, hgTS_48⟩ := hp_r31
            refine lv_if_ne (tgt := 107) hx hb d_DiscMakerModel_used_97 (by decide) (fun h_9 => ?_) (fun h_9 => ?_)
            · skip
              have g97_87 : ¬ r31.toInt = 0 := fun h8 => h_9 ((i_eq rfl (by decide)).mpr h8)
              refine lv_iload hx hb d_DiscMakerModel_used_107 (lv_at hl 5 rfl) ?_
              refine lv_iload hx hb d_DiscMakerModel_used_109 (lv_at hl 0 rfl) ?_
              refine lv_iadd hx hb d_DiscMakerModel_used_111 ?_
              refine lv_topi (fun v49 e_v49 => ?_)
              have t_v49 : v49.toInt = np.toInt + r23.toInt := by rw [e_v49]; exact i_add rfl rfl (by omega) (by omega)
              refine lv_istore hx hb d_DiscMakerModel_used_112 hl (by decide) rfl (fun ls hl => ?_)
              have hl : lv_has ls 8 [(4, .int v49), (7, .int r23), (0, .ref h0), (1, .int x), (2, .int y), (3, .int r2), (5, .int le), (6, .int lf)] := hl
              refine lv_goto (tgt := 46) hx hb d_DiscMakerModel_used_114 (by decide) ?_
              have hP := hP.sub (ws' := [((ma 25), .inl (cI, 100, .inl gM_38)), ((ma 26), .inl (cI, 100, .inl gO_39)), ((ma 27), .inl (cI, 100, .inl gG_40)), ((ma 28), .inl (cB, 6000, .inl gN_41)), ((ma 29), .inl (cI, 100, .inl gNS_42)), ((ma 30), .inl (cB, 40000, .inl gT_43)), ((ma 31), .inl (cI, 100, .inl gTS_44)), (h0, .inr (11, MO ma sv_thrown sv_length sv_nodes sv_many sv_directories sv_runsFrom sv_runs sv_read sv_wrong nm_32 go_33 gz_34 ga_35 tp_36 ro_37)), ((ma 16), .inl (cJ, 46080, .inr (.inl F)))]) [2, 3, 4, 5, 6, 7, 8, 0, 1] rfl
              have hD := hD.sub (ws' := [((ma 25), .inl (cI, 100, .inl gM_38)), ((ma 26), .inl (cI, 100, .inl gO_39)), ((ma 27), .inl (cI, 100, .inl gG_40)), ((ma 28), .inl (cB, 6000, .inl gN_41)), ((ma 29), .inl (cI, 100, .inl gNS_42)), ((ma 30), .inl (cB, 40000, .inl gT_43)), ((ma 31), .inl (cI, 100, .inl gTS_44)), (h0, .inr (11, MO ma sv_thrown sv_length sv_nodes sv_many sv_directories sv_runsFrom sv_runs sv_read sv_wrong nm_32 go_33 gz_34 ga_35 tp_36 ro_37)), ((ma 16), .inl (cJ, 46080, .inr (.inl F)))]) [2, 3, 4, 5, 6, 7, 8, 0, 1] (by decide +kernel) rfl
              have hl := lv_sub hl [2, 3, 4, 5, 0, 6, 7] rfl
              exact ih46 _ (by first | omega | (dsimp only; omega)) v49 nm_32 go_33 gz_34 ga_35 tp_36 ro_37 gM_38 gO_39 gG_40 gN_41 gNS_42 gT_43 gTS_44 _ _ _ rfl ((by (try dsimp only); first | assumption | omega | trivial)) ((by (try dsimp only); first | assumption | omega | trivial)) ((by (try dsimp only); first | assumption | omega | trivial)) ((by (try dsimp only); first | assumption | omega | trivial)) hP hD hS hl
            · skip
              have g97_87 : r31.toInt = 0 := (i_eq rfl (by decide)).mp h_9
              refine lv_aload_n hx hb d_DiscMakerModel_used_100 rfl (lv_at hl 1 rfl) ?_
              refine lv_iload hx hb d_DiscMakerModel_used_101 (lv_at hl 5 rfl) ?_
              have hPc := hP.sub (ws' := [(h0, .inr (11, MO ma sv_thrown sv_length sv_nodes sv_many sv_directories sv_runsFrom sv_runs sv_read sv_wrong nm_32 go_33 gz_34 ga_35 tp_36 ro_37))]) [0] rfl
              have hDc := hD.sub (ws' := [(h0, .inr (11, MO ma sv_thrown sv_length sv_nodes sv_many sv_directories sv_runsFrom sv_runs sv_read sv_wrong nm_32 go_33 gz_34 ga_35 tp_36 ro_37))]) [0] (by decide +kernel) rfl
              have hFc := va_free (wc := [(h0, .inr (11, MO ma sv_thrown sv_length sv_nodes sv_many sv_directories sv_runsFrom sv_runs sv_read sv_wrong nm_32 go_33 gz_34 ga_35 tp_36 ro_37))]) hD hS hA [0] rfl
              have hkc : 0 ≤ 0 := by decide
              have hks : 0 ≤ 0 := by decide
              refine va_calli (va_runV (C := "DiscMakerModel") (As := [.int np]) (rest := []) ⟨hx, hb, hml, hown, hts⟩ (m_isWrong l D cB cI cJ cZ cN cF H.size h0 ma sv_thrown sv_length sv_nodes sv_many sv_directories sv_runsFrom sv_runs sv_read sv_wrong nm_32 go_33 gz_34 ga_35 tp_36 ro_37 np) (cwV 1 hts (lg_goodV k1833 k1835 k98 k125 kc_DiscMakerModel_isWrong) rfl rfl rfl (by decide +kernel) ⟨Nat.le_of_ble_eq_true rfl, Nat.le_of_ble_eq_true rfl⟩) ⟨fun a U g mk q => by obtain ⟨q0, q1, qP, qK, qN, qD⟩ := q; exact ⟨q0, q1, qP, va_K.moved (u := U) (U := U.calling g mk a) (Vm.Alike.refl U.vm) qK, qN.calling, qD⟩, va_recv hK hP (ci := 11) (q0 := 0) rfl rfl, fun U hU hW => ⟨rfl, by rw [hU], by rw [hU]; exact hPc, va_K.moved hW.alike hK, NN.warm hW hN, hDc.weaken (fun _ _ _ _ => trivial)⟩⟩ rfl rfl hl.1 rfl (lv_room (Nat.le_of_ble_eq_true rfl)) d_DiscMakerModel_used_103 ⟨hkc, hks⟩) hS (fun q _ h => hFc q h) hFc (fun r50 u t H1 locs ht hvm hp_r50 hB hz1 hk1 hS => ?_)
              obtain ⟨wr_51, rfl⟩ : ∃ z, z = u := ⟨_, rfl⟩
              obtain ⟨hP1, hD1⟩ := hB
              rw [ht] at hP1
              obtain ⟨hP, hD⟩ := va_join (wr := [((ma 16), .inl (cJ, 46080, .inr (.inl F))), ((ma 25), .inl (cI, 100, .inl gM_38)), ((ma 26), .inl (cI, 100, .inl gO_39)), ((ma 27), .inl (cI, 100, .inl gG_40)), ((ma 28), .inl (cB, 6000, .inl gN_41)), ((ma 29), .inl (cI, 100, .inl gNS_42)), ((ma 30), .inl (cB, 40000, .inl gT_43)), ((ma 31), .inl (cI, 100, .inl gTS_44))]) (w1 := [(h0, .inr (11, MO ma sv_thrown sv_length sv_nodes sv_many sv_directories sv_runsFrom sv_runs sv_read wr_51 nm_32 go_33 gz_34 ga_35 tp_36 ro_37))]) hP hD [0] [1, 2, 3, 4, 5, 6, 7, 8] rfl rfl (by decide +kernel) (by decide +kernel) hk1 hFc hP1 hD1
              clear hPc hDc hFc hP1 hD1 hk1 hz1 hkc hks
              generalize H1 = H at hP hS ⊢
              have hP : va_P D CL [((ma 16), .inl (cJ, 46080, .inr (.inl F))), ((ma 25), .inl (cI, 100, .inl gM_38)), ((ma 26), .inl (cI, 100, .inl gO_39)), ((ma 27), .inl (cI, 100, .inl gG_40)), ((ma 28), .inl (cB, 6000, .inl gN_41)), ((ma 29), .inl (cI, 100, .inl gNS_42)), ((ma 30), .inl (cB, 40000, .inl gT_43)), ((ma 31), .inl (cI, 100, .inl gTS_44)), (h0, .inr (11, MO ma sv_thrown sv_length sv_nodes sv_many sv_directories sv_runsFrom sv_runs sv_read wr_51 nm_32 go_33 gz_34 ga_35 tp_36 ro_37))] H := hP
              have hD : va_D A [((ma 16), .inl (cJ, 46080, .inr (.inl F))), ((ma 25), .inl (cI, 100, .inl gM_38)), ((ma 26), .inl (cI, 100, .inl gO_39)), ((ma 27), .inl (cI, 100, .inl gG_40)), ((ma 28), .inl (cB, 6000, .inl gN_41)), ((ma 29), .inl (cI, 100, .inl gNS_42)), ((ma 30), .inl (cB, 40000, .inl gT_43)), ((ma 31), .inl (cI, 100, .inl gTS_44)), (h0, .inr (11, MO ma sv_thrown sv_length sv_nodes sv_many sv_directories sv_runsFrom sv_runs sv_read wr_51 nm_32 go_33 gz_34 ga_35 tp_36 ro_37))] := hD
              try dsimp only at hp_r50
              have hr_52 := hp_r50
              have hP9 := hP.sub (ws' := [(h0, .inr (11, MO ma sv_thrown sv_length sv_nodes sv_many sv_directories sv_runsFrom sv_runs sv_read wr_51 nm_32 go_33 gz_34 ga_35 tp_36 ro_37)), ((ma 16), .inl (cJ, 46080, .inr (.inl F))), ((ma 25), .inl (cI, 100, .inl gM_38)), ((ma 26), .inl (cI, 100, .inl gO_39)), ((ma 27), .inl (cI, 100, .inl gG_40)), ((ma 28), .inl (cB, 6000, .inl gN_41)), ((ma 29), .inl (cI, 100, .inl gNS_42)), ((ma 30), .inl (cB, 40000, .inl gT_43)), ((ma 31), .inl (cI, 100, .inl gTS_44))]) [8, 0, 1, 2, 3, 4, 5, 6, 7] rfl
              have hD9 := hD.sub (ws' := [(h0, .inr (11, MO ma sv_thrown sv_length sv_nodes sv_many sv_directories sv_runsFrom sv_runs sv_read wr_51 nm_32 go_33 gz_34 ga_35 tp_36 ro_37)), ((ma 16), .inl (cJ, 46080, .inr (.inl F))), ((ma 25), .inl (cI, 100, .inl gM_38)), ((ma 26), .inl (cI, 100, .inl gO_39)), ((ma 27), .inl (cI, 100, .inl gG_40)), ((ma 28), .inl (cB, 6000, .inl gN_41)), ((ma 29), .inl (cI, 100, .inl gNS_42)), ((ma 30), .inl (cB, 40000, .inl gT_43)), ((ma 31), .inl (cI, 100, .inl gTS_44))]) [8, 0, 1, 2, 3, 4, 5, 6, 7] (by decide +kernel) rfl
              exact W.zret (v := r50) hx hb hr (by first | rfl | decide | exact i_narZ (by omega)) (fun t ht hW => ⟨⟨r50, (wr_51, nm_32, go_33, gz_34, ga_35, tp_36, ro_37, gM_38, gO_39, gG_40, gN_41, gNS_42, gT_43, gTS_44), rfl, ⟨(by (try dsimp only); first | assumption | omega | trivial), (by (try dsimp only); first | assumption | omega | trivial), (by (try dsimp only); first | assumption | omega | trivial)⟩, by rw [ht]; exact hP9, hD9⟩, hS.F ht⟩) hS.2.2 d_DiscMakerModel_used_106
          · skip
            have g78_81 : ¬ v30.toInt ≤ le.toInt := fun h8 => h_9 ((i_le rfl rfl).mpr h8)
            refine lv_aload_n hx hb d_DiscMakerModel_used_81 rfl (lv_at hl 1 rfl) ?_
            refine lv_iload hx hb d_DiscMakerModel_used_82 (lv_at hl 5 rfl) ?_
            have hPc := hP.sub (ws' := [(h0, .inr (11, MO ma sv_thrown sv_length sv_nodes sv_many sv_directories sv_runsFrom sv_runs sv_read sv_wrong nnm ngo ngz nga ntp nro))]) [7] rfl
            have hDc := hD.sub (ws' := [(h0, .inr (11, MO ma sv_thrown sv_length sv_nodes sv_many sv_directories sv_runsFrom sv_runs sv_read sv_wrong nnm ngo ngz nga ntp nro))]) [7] (by decide +kernel) rfl
            have hFc := va_free (wc := [(h0, .inr (11, MO ma sv_thrown sv_length sv_nodes sv_many sv_directories sv_runsFrom sv_runs sv_read sv_wrong nnm ngo ngz nga ntp nro))]) hD hS hA [7] rfl
            have hkc : 0 ≤ 0 := by decide
            have hks : 0 ≤ 0 := by decide
            refine va_calli (va_runV (C := "DiscMakerModel") (As := [.int np]) (rest := []) ⟨hx, hb, hml, hown, hts⟩ (m_isWrong l D cB cI cJ cZ cN cF H.size h0 ma sv_thrown sv_length sv_nodes sv_many sv_directories sv_runsFrom sv_runs sv_read sv_wrong nnm ngo ngz nga ntp nro np) (cwV 1 hts (lg_goodV k1833 k1835 k98 k125 kc_DiscMakerModel_isWrong) rfl rfl rfl (by decide +kernel) ⟨Nat.le_of_ble_eq_true rfl, Nat.le_of_ble_eq_true rfl⟩) ⟨fun a U g mk q => by obtain ⟨q0, q1, qP, qK, qN, qD⟩ := q; exact ⟨q0, q1, qP, va_K.moved (u := U) (U := U.calling g mk a) (Vm.Alike.refl U.vm) qK, qN.calling, qD⟩, va_recv hK hP (ci := 11) (q0 := 7) rfl rfl, fun U hU hW => ⟨rfl, by rw [hU], by rw [hU]; exact hPc, va_K.moved hW.alike hK, NN.warm hW hN, hDc.weaken (fun _ _ _ _ => trivial)⟩⟩ rfl rfl hl.1 rfl (lv_room (Nat.le_of_ble_eq_true rfl)) d_DiscMakerModel_used_84 ⟨hkc, hks⟩) hS (fun q _ h => hFc q h) hFc (fun r53 u t H1 locs ht hvm hp_r53 hB hz1 hk1 hS => ?_)
            obtain ⟨wr_54, rfl⟩ : ∃ z, z = u := ⟨_, rfl⟩
            obtain ⟨hP1, hD1⟩ := hB
            rw [ht] at hP1
            obtain ⟨hP, hD⟩ := va_join (wr := [((ma 25), .inl (cI, 100, .inl nM)), ((ma 26), .inl (cI, 100, .inl nO)), ((ma 27), .inl (cI, 100, .inl nG)), ((ma 28), .inl (cB, 6000, .inl nN)), ((ma 29), .inl (cI, 100, .inl nNS)), ((ma 30), .inl (cB, 40000, .inl nT)), ((ma 31), .inl (cI, 100, .inl nTS)), ((ma 16), .inl (cJ, 46080, .inr (.inl F)))]) (w1 := [(h0, .inr (11, MO ma sv_thrown sv_length sv_nodes sv_many sv_directories sv_runsFrom sv_runs sv_read wr_54 nnm ngo ngz nga ntp nro))]) hP hD [7] [0, 1, 2, 3, 4, 5, 6, 8] rfl rfl (by decide +kernel) (by decide +kernel) hk1 hFc hP1 hD1
            clear hPc hDc hFc hP1 hD1 hk1 hz1 hkc hks
            generalize H1 = H at hP hS ⊢
            have hP : va_P D CL [((ma 25), .inl (cI, 100, .inl nM)), ((ma 26), .inl (cI, 100, .inl nO)), ((ma 27), .inl (cI, 100, .inl nG)), ((ma 28), .inl (cB, 6000, .inl nN)), ((ma 29), .inl (cI, 100, .inl nNS)), ((ma 30), .inl (cB, 40000, .inl nT)), ((ma 31), .inl (cI, 100, .inl nTS)), ((ma 16), .inl (cJ, 46080, .inr (.inl F))), (h0, .inr (11, MO ma sv_thrown sv_length sv_nodes sv_many sv_directories sv_runsFrom sv_runs sv_read wr_54 nnm ngo ngz nga ntp nro))] H := hP
            have hD : va_D A [((ma 25), .inl (cI, 100, .inl nM)), ((ma 26), .inl (cI, 100, .inl nO)), ((ma 27), .inl (cI, 100, .inl nG)), ((ma 28), .inl (cB, 6000, .inl nN)), ((ma 29), .inl (cI, 100, .inl nNS)), ((ma 30), .inl (cB, 40000, .inl nT)), ((ma 31), .inl (cI, 100, .inl nTS)), ((ma 16), .inl (cJ, 46080, .inr (.inl F))), (h0, .inr (11, MO ma sv_thrown sv_length sv_nodes sv_many sv_directories sv_runsFrom sv_runs sv_read wr_54 nnm ngo ngz nga ntp nro))] := hD
            try dsimp only at hp_r53
            have hr_55 := hp_r53
            have hP9 := hP.sub (ws' := [(h0, .inr (11, MO ma sv_thrown sv_length sv_nodes sv_many sv_directories sv_runsFrom sv_runs sv_read wr_54 nnm ngo ngz nga ntp nro)), ((ma 16), .inl (cJ, 46080, .inr (.inl F))), ((ma 25), .inl (cI, 100, .inl nM)), ((ma 26), .inl (cI, 100, .inl nO)), ((ma 27), .inl (cI, 100, .inl nG)), ((ma 28), .inl (cB, 6000, .inl nN)), ((ma 29), .inl (cI, 100, .inl nNS)), ((ma 30), .inl (cB, 40000, .inl nT)), ((ma 31), .inl (cI, 100, .inl nTS))]) [8, 7, 0, 1, 2, 3, 4, 5, 6] rfl
            have hD9 := hD.sub (ws' := [(h0, .inr (11, MO ma sv_thrown sv_length sv_nodes sv_many sv_directories sv_runsFrom sv_runs sv_read wr_54 nnm ngo ngz nga ntp nro)), ((ma 16), .inl (cJ, 46080, .inr (.inl F))), ((ma 25), .inl (cI, 100, .inl nM)), ((ma 26), .inl (cI, 100, .inl nO)), ((ma 27), .inl (cI, 100, .inl nG)), ((ma 28), .inl (cB, 6000, .inl nN)), ((ma 29), .inl (cI, 100, .inl nNS)), ((ma 30), .inl (cB, 40000, .inl nT)), ((ma 31), .inl (cI, 100, .inl nTS))]) [8, 7, 0, 1, 2, 3, 4, 5, 6] (by decide +kernel) rfl
            exact W.zret (v := r53) hx hb hr (by first | rfl | decide | exact i_narZ (by omega)) (fun t ht hW => ⟨⟨r53, (wr_54, nnm, ngo, ngz, nga, ntp, nro, nM, nO, nG, nN, nNS, nT, nTS), rfl, ⟨(by (try dsimp only); first | assumption | omega | trivial), (by (try dsimp only); first | assumption | omega | trivial), (by (try dsimp only); first | assumption | omega | trivial)⟩, by rw [ht]; exact hP9, hD9⟩, hS.F ht⟩) hS.2.2 d_DiscMakerModel_used_87
    · skip
      intro kk46
      have hP := hP.sub (ws' := [((ma 25), .inl (cI, 100, .inl lM)), ((ma 26), .inl (cI, 100, .inl lO)), ((ma 27), .inl (cI, 100, .inl lG)), ((ma 28), .inl (cB, 6000, .inl lN)), ((ma 29), .inl (cI, 100, .inl lNS)), ((ma 30), .inl (cB, 40000, .inl lT)), ((ma 31), .inl (cI, 100, .inl lTS)), (h0, .inr (11, MO ma sv_thrown sv_length sv_nodes sv_many sv_directories sv_runsFrom sv_runs sv_read sv_wrong lnm (-1) lgz lga ltp lro)), ((ma 16), .inl (cJ, 46080, .inr (.inl F)))]) [0, 1, 2, 3, 4, 5, 6, 7, 8] rfl
      have hD := hD.sub (ws' := [((ma 25), .inl (cI, 100, .inl lM)), ((ma 26), .inl (cI, 100, .inl lO)), ((ma 27), .inl (cI, 100, .inl lG)), ((ma 28), .inl (cB, 6000, .inl lN)), ((ma 29), .inl (cI, 100, .inl lNS)), ((ma 30), .inl (cB, 40000, .inl lT)), ((ma 31), .inl (cI, 100, .inl lTS)), (h0, .inr (11, MO ma sv_thrown sv_length sv_nodes sv_many sv_directories sv_runsFrom sv_runs sv_read sv_wrong lnm (-1) lgz lga ltp lro)), ((ma 16), .inl (cJ, 46080, .inr (.inl F)))]) [0, 1, 2, 3, 4, 5, 6, 7, 8] (by decide +kernel) rfl
      have hl := lv_sub hl [0, 1, 2, 3, 4, 5, 6] rfl
      exact kk46 _ lp lnm (-1) lgz lga ltp lro lM lO lG lN lNS lT lTS _ _ _ rfl ((by (try dsimp only); first | assumption | omega | trivial)) ((by (try dsimp only); first | assumption | omega | trivial)) ((by (try dsimp only); first | assumption | omega | trivial)) ((by (try dsimp only); first | assumption | omega | trivial)) hP hD hS hl
  · skip
    intro kk41
    have hP := hP.sub (ws' := [((ma 25), .inl (cI, 100, .inl fM)), ((ma 26), .inl (cI, 100, .inl fO)), ((ma 27), .inl (cI, 100, .inl fG)), ((ma 28), .inl (cB, 6000, .inl fN)), ((ma 29), .inl (cI, 100, .inl fNS)), ((ma 30), .inl (cB, 40000, .inl fT)), ((ma 31), .inl (cI, 100, .inl fTS)), (h0, .inr (11, MO ma sv_thrown sv_length sv_nodes sv_many sv_directories sv_runsFrom sv_runs sv_read sv_wrong sv_isNamed sv_goes sv_goesSize sv_goesAt 0 sv_isRoot)), ((ma 16), .inl (cJ, 46080, .inr (.inl F)))]) [0, 1, 2, 3, 4, 5, 6, 7, 8] rfl
    have hD := hD.sub (ws' := [((ma 25), .inl (cI, 100, .inl fM)), ((ma 26), .inl (cI, 100, .inl fO)), ((ma 27), .inl (cI, 100, .inl fG)), ((ma 28), .inl (cB, 6000, .inl fN)), ((ma 29), .inl (cI, 100, .inl fNS)), ((ma 30), .inl (cB, 40000, .inl fT)), ((ma 31), .inl (cI, 100, .inl fTS)), (h0, .inr (11, MO ma sv_thrown sv_length sv_nodes sv_many sv_directories sv_runsFrom sv_runs sv_read sv_wrong sv_isNamed sv_goes sv_goesSize sv_goesAt 0 sv_isRoot)), ((ma 16), .inl (cJ, 46080, .inr (.inl F)))]) [0, 1, 2, 3, 4, 5, 6, 7, 8] (by decide +kernel) rfl
    have hl := lv_sub hl [4, 5, 6, 3, 2, 1, 0] rfl
    exact kk41 _ v10 v15 0 sv_isNamed sv_goes sv_goesSize sv_goesAt 0 sv_isRoot fM fO fG fN fNS fT fTS _ _ _ rfl ((by (try dsimp only); first | assumption | omega | trivial)) ((by (try dsimp only); first | assumption | omega | trivial)) ((by (try dsimp only); first | assumption | omega | trivial)) ((by (try dsimp only); first | assumption | omega | trivial)) ((by (try dsimp only); first | assumption | omega | trivial)) hP hD hS hl

theorem d_DiscMakerModel_plainName_0 : decode b_DiscMakerModel_plainName 0 = .ok (.aload_n 0, 1) := by decide +kernel
theorem d_DiscMakerModel_plainName_1 : decode b_DiscMakerModel_plainName 1 = .ok (.iload_n 2, 1) := by decide +kernel
theorem d_DiscMakerModel_plainName_2 : decode b_DiscMakerModel_plainName 2 = .ok (.bipush 32, 2) := by decide +kernel
theorem d_DiscMakerModel_plainName_4 : decode b_DiscMakerModel_plainName 4 = .ok (.iadd, 1) := by decide +kernel
theorem d_DiscMakerModel_plainName_5 : decode b_DiscMakerModel_plainName 5 = .ok (.invokevirtual 303, 3) := by decide +kernel
theorem d_DiscMakerModel_plainName_8 : decode b_DiscMakerModel_plainName 8 = .ok (.istore 4, 2) := by decide +kernel
theorem d_DiscMakerModel_plainName_10 : decode b_DiscMakerModel_plainName 10 = .ok (.iload_n 3, 1) := by decide +kernel
theorem d_DiscMakerModel_plainName_11 : decode b_DiscMakerModel_plainName 11 = .ok (.iconst 1, 1) := by decide +kernel
theorem d_DiscMakerModel_plainName_12 : decode b_DiscMakerModel_plainName 12 = .ok (.if_icmp .ne 122, 3) := by decide +kernel
theorem d_DiscMakerModel_plainName_15 : decode b_DiscMakerModel_plainName 15 = .ok (.iload 4, 2) := by decide +kernel
theorem d_DiscMakerModel_plainName_17 : decode b_DiscMakerModel_plainName 17 = .ok (.iconst 2, 1) := by decide +kernel
theorem d_DiscMakerModel_plainName_18 : decode b_DiscMakerModel_plainName 18 = .ok (.irem, 1) := by decide +kernel
theorem d_DiscMakerModel_plainName_19 : decode b_DiscMakerModel_plainName 19 = .ok (.iconst 1, 1) := by decide +kernel
theorem d_DiscMakerModel_plainName_20 : decode b_DiscMakerModel_plainName 20 = .ok (.if_icmp .ne 9, 3) := by decide +kernel
theorem d_DiscMakerModel_plainName_23 : decode b_DiscMakerModel_plainName 23 = .ok (.aload_n 0, 1) := by decide +kernel
theorem d_DiscMakerModel_plainName_24 : decode b_DiscMakerModel_plainName 24 = .ok (.iload_n 2, 1) := by decide +kernel
theorem d_DiscMakerModel_plainName_25 : decode b_DiscMakerModel_plainName 25 = .ok (.invokevirtual 309, 3) := by decide +kernel
theorem d_DiscMakerModel_plainName_28 : decode b_DiscMakerModel_plainName 28 = .ok (.ireturn, 1) := by decide +kernel
theorem d_DiscMakerModel_plainName_29 : decode b_DiscMakerModel_plainName 29 = .ok (.iconst 0, 1) := by decide +kernel
theorem d_DiscMakerModel_plainName_30 : decode b_DiscMakerModel_plainName 30 = .ok (.istore 5, 2) := by decide +kernel
theorem d_DiscMakerModel_plainName_32 : decode b_DiscMakerModel_plainName 32 = .ok (.iload 5, 2) := by decide +kernel
theorem d_DiscMakerModel_plainName_34 : decode b_DiscMakerModel_plainName 34 = .ok (.iload 4, 2) := by decide +kernel
theorem d_DiscMakerModel_plainName_36 : decode b_DiscMakerModel_plainName 36 = .ok (.iconst 2, 1) := by decide +kernel
theorem d_DiscMakerModel_plainName_37 : decode b_DiscMakerModel_plainName 37 = .ok (.idiv, 1) := by decide +kernel
theorem d_DiscMakerModel_plainName_38 : decode b_DiscMakerModel_plainName 38 = .ok (.if_icmp .ge 84, 3) := by decide +kernel
theorem d_DiscMakerModel_plainName_41 : decode b_DiscMakerModel_plainName 41 = .ok (.sipush 256, 3) := by decide +kernel
theorem d_DiscMakerModel_plainName_44 : decode b_DiscMakerModel_plainName 44 = .ok (.aload_n 0, 1) := by decide +kernel
theorem d_DiscMakerModel_plainName_45 : decode b_DiscMakerModel_plainName 45 = .ok (.iload_n 2, 1) := by decide +kernel
theorem d_DiscMakerModel_plainName_46 : decode b_DiscMakerModel_plainName 46 = .ok (.bipush 33, 2) := by decide +kernel
theorem d_DiscMakerModel_plainName_48 : decode b_DiscMakerModel_plainName 48 = .ok (.iadd, 1) := by decide +kernel
theorem d_DiscMakerModel_plainName_49 : decode b_DiscMakerModel_plainName 49 = .ok (.iconst 2, 1) := by decide +kernel
theorem d_DiscMakerModel_plainName_50 : decode b_DiscMakerModel_plainName 50 = .ok (.iload 5, 2) := by decide +kernel
theorem d_DiscMakerModel_plainName_52 : decode b_DiscMakerModel_plainName 52 = .ok (.imul, 1) := by decide +kernel
theorem d_DiscMakerModel_plainName_53 : decode b_DiscMakerModel_plainName 53 = .ok (.iadd, 1) := by decide +kernel
theorem d_DiscMakerModel_plainName_54 : decode b_DiscMakerModel_plainName 54 = .ok (.invokevirtual 303, 3) := by decide +kernel
theorem d_DiscMakerModel_plainName_57 : decode b_DiscMakerModel_plainName 57 = .ok (.imul, 1) := by decide +kernel
theorem d_DiscMakerModel_plainName_58 : decode b_DiscMakerModel_plainName 58 = .ok (.aload_n 0, 1) := by decide +kernel
theorem d_DiscMakerModel_plainName_59 : decode b_DiscMakerModel_plainName 59 = .ok (.iload_n 2, 1) := by decide +kernel
theorem d_DiscMakerModel_plainName_60 : decode b_DiscMakerModel_plainName 60 = .ok (.bipush 34, 2) := by decide +kernel
theorem d_DiscMakerModel_plainName_62 : decode b_DiscMakerModel_plainName 62 = .ok (.iadd, 1) := by decide +kernel
theorem d_DiscMakerModel_plainName_63 : decode b_DiscMakerModel_plainName 63 = .ok (.iconst 2, 1) := by decide +kernel
theorem d_DiscMakerModel_plainName_64 : decode b_DiscMakerModel_plainName 64 = .ok (.iload 5, 2) := by decide +kernel
theorem d_DiscMakerModel_plainName_66 : decode b_DiscMakerModel_plainName 66 = .ok (.imul, 1) := by decide +kernel
theorem d_DiscMakerModel_plainName_67 : decode b_DiscMakerModel_plainName 67 = .ok (.iadd, 1) := by decide +kernel
theorem d_DiscMakerModel_plainName_68 : decode b_DiscMakerModel_plainName 68 = .ok (.invokevirtual 303, 3) := by decide +kernel
theorem d_DiscMakerModel_plainName_71 : decode b_DiscMakerModel_plainName 71 = .ok (.iadd, 1) := by decide +kernel
theorem d_DiscMakerModel_plainName_72 : decode b_DiscMakerModel_plainName 72 = .ok (.istore 6, 2) := by decide +kernel
theorem d_DiscMakerModel_plainName_74 : decode b_DiscMakerModel_plainName 74 = .ok (.iload 6, 2) := by decide +kernel
theorem d_DiscMakerModel_plainName_76 : decode b_DiscMakerModel_plainName 76 = .ok (.bipush 33, 2) := by decide +kernel
theorem d_DiscMakerModel_plainName_78 : decode b_DiscMakerModel_plainName 78 = .ok (.if_icmp .lt 17, 3) := by decide +kernel
theorem d_DiscMakerModel_plainName_81 : decode b_DiscMakerModel_plainName 81 = .ok (.iload 6, 2) := by decide +kernel
theorem d_DiscMakerModel_plainName_83 : decode b_DiscMakerModel_plainName 83 = .ok (.bipush 126, 2) := by decide +kernel
theorem d_DiscMakerModel_plainName_85 : decode b_DiscMakerModel_plainName 85 = .ok (.if_icmp .gt 10, 3) := by decide +kernel
theorem d_DiscMakerModel_plainName_88 : decode b_DiscMakerModel_plainName 88 = .ok (.iload 5, 2) := by decide +kernel
theorem d_DiscMakerModel_plainName_90 : decode b_DiscMakerModel_plainName 90 = .ok (.bipush 60, 2) := by decide +kernel
theorem d_DiscMakerModel_plainName_92 : decode b_DiscMakerModel_plainName 92 = .ok (.if_icmp .ne 9, 3) := by decide +kernel
theorem d_DiscMakerModel_plainName_95 : decode b_DiscMakerModel_plainName 95 = .ok (.aload_n 0, 1) := by decide +kernel
theorem d_DiscMakerModel_plainName_96 : decode b_DiscMakerModel_plainName 96 = .ok (.iload_n 2, 1) := by decide +kernel
theorem d_DiscMakerModel_plainName_97 : decode b_DiscMakerModel_plainName 97 = .ok (.invokevirtual 309, 3) := by decide +kernel
theorem d_DiscMakerModel_plainName_100 : decode b_DiscMakerModel_plainName 100 = .ok (.ireturn, 1) := by decide +kernel
theorem d_DiscMakerModel_plainName_101 : decode b_DiscMakerModel_plainName 101 = .ok (.aload_n 0, 1) := by decide +kernel
theorem d_DiscMakerModel_plainName_102 : decode b_DiscMakerModel_plainName 102 = .ok (.getfield 98, 3) := by decide +kernel
theorem d_DiscMakerModel_plainName_105 : decode b_DiscMakerModel_plainName 105 = .ok (.bipush 60, 2) := by decide +kernel
theorem d_DiscMakerModel_plainName_107 : decode b_DiscMakerModel_plainName 107 = .ok (.iload_n 1, 1) := by decide +kernel
theorem d_DiscMakerModel_plainName_108 : decode b_DiscMakerModel_plainName 108 = .ok (.imul, 1) := by decide +kernel
theorem d_DiscMakerModel_plainName_109 : decode b_DiscMakerModel_plainName 109 = .ok (.iload 5, 2) := by decide +kernel
theorem d_DiscMakerModel_plainName_111 : decode b_DiscMakerModel_plainName 111 = .ok (.iadd, 1) := by decide +kernel
theorem d_DiscMakerModel_plainName_112 : decode b_DiscMakerModel_plainName 112 = .ok (.iload 6, 2) := by decide +kernel
theorem d_DiscMakerModel_plainName_114 : decode b_DiscMakerModel_plainName 114 = .ok (.i2b, 1) := by decide +kernel
theorem d_DiscMakerModel_plainName_115 : decode b_DiscMakerModel_plainName 115 = .ok (.bastore, 1) := by decide +kernel
theorem d_DiscMakerModel_plainName_116 : decode b_DiscMakerModel_plainName 116 = .ok (.iinc 5 1, 3) := by decide +kernel
theorem d_DiscMakerModel_plainName_119 : decode b_DiscMakerModel_plainName 119 = .ok (.goto (-87), 3) := by decide +kernel
theorem d_DiscMakerModel_plainName_122 : decode b_DiscMakerModel_plainName 122 = .ok (.aload_n 0, 1) := by decide +kernel
theorem d_DiscMakerModel_plainName_123 : decode b_DiscMakerModel_plainName 123 = .ok (.getfield 101, 3) := by decide +kernel
theorem d_DiscMakerModel_plainName_126 : decode b_DiscMakerModel_plainName 126 = .ok (.iload_n 1, 1) := by decide +kernel
theorem d_DiscMakerModel_plainName_127 : decode b_DiscMakerModel_plainName 127 = .ok (.iload 4, 2) := by decide +kernel
theorem d_DiscMakerModel_plainName_129 : decode b_DiscMakerModel_plainName 129 = .ok (.iconst 2, 1) := by decide +kernel
theorem d_DiscMakerModel_plainName_130 : decode b_DiscMakerModel_plainName 130 = .ok (.idiv, 1) := by decide +kernel
theorem d_DiscMakerModel_plainName_131 : decode b_DiscMakerModel_plainName 131 = .ok (.iastore, 1) := by decide +kernel
theorem d_DiscMakerModel_plainName_132 : decode b_DiscMakerModel_plainName 132 = .ok (.iconst 1, 1) := by decide +kernel
theorem d_DiscMakerModel_plainName_133 : decode b_DiscMakerModel_plainName 133 = .ok (.ireturn, 1) := by decide +kernel
theorem d_DiscMakerModel_plainName_134 : decode b_DiscMakerModel_plainName 134 = .ok (.iload 4, 2) := by decide +kernel
theorem d_DiscMakerModel_plainName_136 : decode b_DiscMakerModel_plainName 136 = .ok (.iconst 1, 1) := by decide +kernel
theorem d_DiscMakerModel_plainName_137 : decode b_DiscMakerModel_plainName 137 = .ok (.if_icmp .le 42, 3) := by decide +kernel
theorem d_DiscMakerModel_plainName_140 : decode b_DiscMakerModel_plainName 140 = .ok (.aload_n 0, 1) := by decide +kernel
theorem d_DiscMakerModel_plainName_141 : decode b_DiscMakerModel_plainName 141 = .ok (.iload_n 2, 1) := by decide +kernel
theorem d_DiscMakerModel_plainName_142 : decode b_DiscMakerModel_plainName 142 = .ok (.bipush 33, 2) := by decide +kernel
theorem d_DiscMakerModel_plainName_144 : decode b_DiscMakerModel_plainName 144 = .ok (.iadd, 1) := by decide +kernel
theorem d_DiscMakerModel_plainName_145 : decode b_DiscMakerModel_plainName 145 = .ok (.iload 4, 2) := by decide +kernel
theorem d_DiscMakerModel_plainName_147 : decode b_DiscMakerModel_plainName 147 = .ok (.iadd, 1) := by decide +kernel
theorem d_DiscMakerModel_plainName_148 : decode b_DiscMakerModel_plainName 148 = .ok (.iconst 2, 1) := by decide +kernel
theorem d_DiscMakerModel_plainName_149 : decode b_DiscMakerModel_plainName 149 = .ok (.isub, 1) := by decide +kernel
theorem d_DiscMakerModel_plainName_150 : decode b_DiscMakerModel_plainName 150 = .ok (.invokevirtual 303, 3) := by decide +kernel
theorem d_DiscMakerModel_plainName_153 : decode b_DiscMakerModel_plainName 153 = .ok (.bipush 59, 2) := by decide +kernel
theorem d_DiscMakerModel_plainName_155 : decode b_DiscMakerModel_plainName 155 = .ok (.if_icmp .ne 24, 3) := by decide +kernel
theorem d_DiscMakerModel_plainName_158 : decode b_DiscMakerModel_plainName 158 = .ok (.aload_n 0, 1) := by decide +kernel
theorem d_DiscMakerModel_plainName_159 : decode b_DiscMakerModel_plainName 159 = .ok (.iload_n 2, 1) := by decide +kernel
theorem d_DiscMakerModel_plainName_160 : decode b_DiscMakerModel_plainName 160 = .ok (.bipush 33, 2) := by decide +kernel
theorem d_DiscMakerModel_plainName_162 : decode b_DiscMakerModel_plainName 162 = .ok (.iadd, 1) := by decide +kernel
theorem d_DiscMakerModel_plainName_163 : decode b_DiscMakerModel_plainName 163 = .ok (.iload 4, 2) := by decide +kernel
theorem d_DiscMakerModel_plainName_165 : decode b_DiscMakerModel_plainName 165 = .ok (.iadd, 1) := by decide +kernel
theorem d_DiscMakerModel_plainName_166 : decode b_DiscMakerModel_plainName 166 = .ok (.iconst 1, 1) := by decide +kernel
theorem d_DiscMakerModel_plainName_167 : decode b_DiscMakerModel_plainName 167 = .ok (.isub, 1) := by decide +kernel
theorem d_DiscMakerModel_plainName_168 : decode b_DiscMakerModel_plainName 168 = .ok (.invokevirtual 303, 3) := by decide +kernel
theorem d_DiscMakerModel_plainName_171 : decode b_DiscMakerModel_plainName 171 = .ok (.bipush 49, 2) := by decide +kernel
theorem d_DiscMakerModel_plainName_173 : decode b_DiscMakerModel_plainName 173 = .ok (.if_icmp .ne 6, 3) := by decide +kernel
theorem d_DiscMakerModel_plainName_176 : decode b_DiscMakerModel_plainName 176 = .ok (.iinc 4 (-2), 3) := by decide +kernel
theorem d_DiscMakerModel_plainName_179 : decode b_DiscMakerModel_plainName 179 = .ok (.iload 4, 2) := by decide +kernel
theorem d_DiscMakerModel_plainName_181 : decode b_DiscMakerModel_plainName 181 = .ok (.ifCond .le 24, 3) := by decide +kernel
theorem d_DiscMakerModel_plainName_184 : decode b_DiscMakerModel_plainName 184 = .ok (.aload_n 0, 1) := by decide +kernel
theorem d_DiscMakerModel_plainName_185 : decode b_DiscMakerModel_plainName 185 = .ok (.iload_n 2, 1) := by decide +kernel
theorem d_DiscMakerModel_plainName_186 : decode b_DiscMakerModel_plainName 186 = .ok (.bipush 33, 2) := by decide +kernel
theorem d_DiscMakerModel_plainName_188 : decode b_DiscMakerModel_plainName 188 = .ok (.iadd, 1) := by decide +kernel
theorem d_DiscMakerModel_plainName_189 : decode b_DiscMakerModel_plainName 189 = .ok (.iload 4, 2) := by decide +kernel
theorem d_DiscMakerModel_plainName_191 : decode b_DiscMakerModel_plainName 191 = .ok (.iadd, 1) := by decide +kernel
theorem d_DiscMakerModel_plainName_192 : decode b_DiscMakerModel_plainName 192 = .ok (.iconst 1, 1) := by decide +kernel
theorem d_DiscMakerModel_plainName_193 : decode b_DiscMakerModel_plainName 193 = .ok (.isub, 1) := by decide +kernel
theorem d_DiscMakerModel_plainName_194 : decode b_DiscMakerModel_plainName 194 = .ok (.invokevirtual 303, 3) := by decide +kernel
theorem d_DiscMakerModel_plainName_197 : decode b_DiscMakerModel_plainName 197 = .ok (.bipush 46, 2) := by decide +kernel
theorem d_DiscMakerModel_plainName_199 : decode b_DiscMakerModel_plainName 199 = .ok (.if_icmp .ne 6, 3) := by decide +kernel
theorem d_DiscMakerModel_plainName_202 : decode b_DiscMakerModel_plainName 202 = .ok (.iinc 4 (-1), 3) := by decide +kernel
theorem d_DiscMakerModel_plainName_205 : decode b_DiscMakerModel_plainName 205 = .ok (.iload 4, 2) := by decide +kernel
theorem d_DiscMakerModel_plainName_207 : decode b_DiscMakerModel_plainName 207 = .ok (.bipush 60, 2) := by decide +kernel
theorem d_DiscMakerModel_plainName_209 : decode b_DiscMakerModel_plainName 209 = .ok (.if_icmp .le 9, 3) := by decide +kernel
theorem d_DiscMakerModel_plainName_212 : decode b_DiscMakerModel_plainName 212 = .ok (.aload_n 0, 1) := by decide +kernel
theorem d_DiscMakerModel_plainName_213 : decode b_DiscMakerModel_plainName 213 = .ok (.iload_n 2, 1) := by decide +kernel
theorem d_DiscMakerModel_plainName_214 : decode b_DiscMakerModel_plainName 214 = .ok (.invokevirtual 309, 3) := by decide +kernel
theorem d_DiscMakerModel_plainName_217 : decode b_DiscMakerModel_plainName 217 = .ok (.ireturn, 1) := by decide +kernel
theorem d_DiscMakerModel_plainName_218 : decode b_DiscMakerModel_plainName 218 = .ok (.iconst 0, 1) := by decide +kernel
theorem d_DiscMakerModel_plainName_219 : decode b_DiscMakerModel_plainName 219 = .ok (.istore 5, 2) := by decide +kernel
theorem d_DiscMakerModel_plainName_221 : decode b_DiscMakerModel_plainName 221 = .ok (.iload 5, 2) := by decide +kernel
theorem d_DiscMakerModel_plainName_223 : decode b_DiscMakerModel_plainName 223 = .ok (.iload 4, 2) := by decide +kernel
theorem d_DiscMakerModel_plainName_225 : decode b_DiscMakerModel_plainName 225 = .ok (.if_icmp .ge 33, 3) := by decide +kernel
theorem d_DiscMakerModel_plainName_228 : decode b_DiscMakerModel_plainName 228 = .ok (.aload_n 0, 1) := by decide +kernel
theorem d_DiscMakerModel_plainName_229 : decode b_DiscMakerModel_plainName 229 = .ok (.getfield 98, 3) := by decide +kernel
theorem d_DiscMakerModel_plainName_232 : decode b_DiscMakerModel_plainName 232 = .ok (.bipush 60, 2) := by decide +kernel
theorem d_DiscMakerModel_plainName_234 : decode b_DiscMakerModel_plainName 234 = .ok (.iload_n 1, 1) := by decide +kernel
theorem d_DiscMakerModel_plainName_235 : decode b_DiscMakerModel_plainName 235 = .ok (.imul, 1) := by decide +kernel
theorem d_DiscMakerModel_plainName_236 : decode b_DiscMakerModel_plainName 236 = .ok (.iload 5, 2) := by decide +kernel
theorem d_DiscMakerModel_plainName_238 : decode b_DiscMakerModel_plainName 238 = .ok (.iadd, 1) := by decide +kernel
theorem d_DiscMakerModel_plainName_239 : decode b_DiscMakerModel_plainName 239 = .ok (.aload_n 0, 1) := by decide +kernel
theorem d_DiscMakerModel_plainName_240 : decode b_DiscMakerModel_plainName 240 = .ok (.iload_n 2, 1) := by decide +kernel
theorem d_DiscMakerModel_plainName_241 : decode b_DiscMakerModel_plainName 241 = .ok (.bipush 33, 2) := by decide +kernel
theorem d_DiscMakerModel_plainName_243 : decode b_DiscMakerModel_plainName 243 = .ok (.iadd, 1) := by decide +kernel
theorem d_DiscMakerModel_plainName_244 : decode b_DiscMakerModel_plainName 244 = .ok (.iload 5, 2) := by decide +kernel
theorem d_DiscMakerModel_plainName_246 : decode b_DiscMakerModel_plainName 246 = .ok (.iadd, 1) := by decide +kernel
theorem d_DiscMakerModel_plainName_247 : decode b_DiscMakerModel_plainName 247 = .ok (.invokevirtual 303, 3) := by decide +kernel
theorem d_DiscMakerModel_plainName_250 : decode b_DiscMakerModel_plainName 250 = .ok (.i2b, 1) := by decide +kernel
theorem d_DiscMakerModel_plainName_251 : decode b_DiscMakerModel_plainName 251 = .ok (.bastore, 1) := by decide +kernel
theorem d_DiscMakerModel_plainName_252 : decode b_DiscMakerModel_plainName 252 = .ok (.iinc 5 1, 3) := by decide +kernel
theorem d_DiscMakerModel_plainName_255 : decode b_DiscMakerModel_plainName 255 = .ok (.goto (-34), 3) := by decide +kernel
theorem d_DiscMakerModel_plainName_258 : decode b_DiscMakerModel_plainName 258 = .ok (.aload_n 0, 1) := by decide +kernel
theorem d_DiscMakerModel_plainName_259 : decode b_DiscMakerModel_plainName 259 = .ok (.getfield 101, 3) := by decide +kernel
theorem d_DiscMakerModel_plainName_262 : decode b_DiscMakerModel_plainName 262 = .ok (.iload_n 1, 1) := by decide +kernel
theorem d_DiscMakerModel_plainName_263 : decode b_DiscMakerModel_plainName 263 = .ok (.iload 4, 2) := by decide +kernel
theorem d_DiscMakerModel_plainName_265 : decode b_DiscMakerModel_plainName 265 = .ok (.iastore, 1) := by decide +kernel
theorem d_DiscMakerModel_plainName_266 : decode b_DiscMakerModel_plainName 266 = .ok (.iconst 1, 1) := by decide +kernel
theorem d_DiscMakerModel_plainName_267 : decode b_DiscMakerModel_plainName 267 = .ok (.ireturn, 1) := by decide +kernel
set_option maxHeartbeats 4000000 in
set_option maxRecDepth 100000 in
theorem m_plainName (l : Launch) (D : va_G) (cB cI cJ cZ cN cF : ClassId) (sz : Nat) (h0 : Nat) (ma : Nat → Nat) (sv_thrown sv_length sv_nodes sv_many sv_directories sv_runsFrom sv_runs sv_read sv_wrong sv_isNamed sv_goes sv_goesSize sv_goesAt sv_targetParts sv_isRoot : Int32) (F : Nat → Int64) (fN : Nat → Int32) (fNS : Nat → Int32) (x : Int32) (y : Int32) (z : Int32) (hk0 : 0 ≤ x.toInt ∧ x.toInt < 100) (hy0 : 0 ≤ y.toInt) (hy2 : y.toInt + 33 + (atF F (y + 32)).toInt ≤ 368640) (hfNS : Rg 0 60 100 fNS) : Met l y_DiscMakerModel_plainName w_DiscMakerModel_plainName ({ frames := 1, cells := 0, slots := 0, locals := 21 }) (va_Pc [.ref h0, .int x, .int y, .int z] (fun U => U.heap.size = sz ∧ va_P D CL [(h0, .inr (11, MO ma sv_thrown sv_length sv_nodes sv_many sv_directories sv_runsFrom sv_runs sv_read sv_wrong sv_isNamed sv_goes sv_goesSize sv_goesAt sv_targetParts sv_isRoot)), ((ma 16), .inl (cJ, 46080, .inr (.inl F))), ((ma 28), .inl (cB, 6000, .inl fN)), ((ma 29), .inl (cI, 100, .inl fNS))] U.heap ∧ va_K D CL (TY cB cI cJ cZ cN cF) U ∧ NN U ∧ va_D (fun _ => True) [(h0, .inr (11, MO ma sv_thrown sv_length sv_nodes sv_many sv_directories sv_runsFrom sv_runs sv_read sv_wrong sv_isNamed sv_goes sv_goesSize sv_goesAt sv_targetParts sv_isRoot)), ((ma 16), .inl (cJ, 46080, .inr (.inl F))), ((ma 28), .inl (cB, 6000, .inl fN)), ((ma 29), .inl (cI, 100, .inl fNS))])) (va_Qi (fun (r : Int32) (u : Int32 × (Nat → Int32) × (Nat → Int32)) => match u with | (wr, gN, gNS) => (0 ≤ r.toInt ∧ r.toInt ≤ 1) ∧ (Rg 0 60 100 gNS)) (fun (u : Int32 × (Nat → Int32) × (Nat → Int32)) (t : State) => match u with | (wr, gN, gNS) => va_P D CL [(h0, .inr (11, MO ma sv_thrown sv_length sv_nodes sv_many sv_directories sv_runsFrom sv_runs sv_read wr sv_isNamed sv_goes sv_goesSize sv_goesAt sv_targetParts sv_isRoot)), ((ma 16), .inl (cJ, 46080, .inr (.inl F))), ((ma 28), .inl (cB, 6000, .inl gN)), ((ma 29), .inl (cI, 100, .inl gNS))] t.heap ∧ va_D (va_A [(h0, .inr (11, MO ma sv_thrown sv_length sv_nodes sv_many sv_directories sv_runsFrom sv_runs sv_read sv_wrong sv_isNamed sv_goes sv_goesSize sv_goesAt sv_targetParts sv_isRoot)), ((ma 16), .inl (cJ, 46080, .inr (.inl F))), ((ma 28), .inl (cB, 6000, .inl fN)), ((ma 29), .inl (cI, 100, .inl fNS))] sz) [(h0, .inr (11, MO ma sv_thrown sv_length sv_nodes sv_many sv_directories sv_runsFrom sv_runs sv_read wr sv_isNamed sv_goes sv_goesSize sv_goesAt sv_targetParts sv_isRoot)), ((ma 16), .inl (cJ, 46080, .inr (.inl F))), ((ma 28), .inl (cB, 6000, .inl gN)), ((ma 29), .inl (cI, 100, .inl gNS))]) (va_A [(h0, .inr (11, MO ma sv_thrown sv_length sv_nodes sv_many sv_directories sv_runsFrom sv_runs sv_read sv_wrong sv_isNamed sv_goes sv_goesSize sv_goesAt sv_targetParts sv_isRoot)), ((ma 16), .inl (cJ, 46080, .inr (.inl F))), ((ma 28), .inl (cB, 6000, .inl fN)), ((ma 29), .inl (cI, 100, .inl fNS))] sz)) 0 0 (va_A [(h0, .inr (11, MO ma sv_thrown sv_length sv_nodes sv_many sv_directories sv_runsFrom sv_runs sv_read sv_wrong sv_isNamed sv_goes sv_goesSize sv_goesAt sv_targetParts sv_isRoot)), ((ma 16), .inl (cJ, 46080, .inr (.inl F))), ((ma 28), .inl (cB, 6000, .inl fN)), ((ma 29), .inl (cI, 100, .inl fNS))] sz) := by
  refine Met.ofW (cc := b_DiscMakerModel_plainName) (maxL := 7) (ret := some .boolean) (by decide) rfl ?_
  intro p e s m args below meth c s₁ B hml hv
  obtain ⟨rfl, hsz, hP, hK, hN, hD0⟩ := hv
  have hx := B.exec
  have hb := B.bytes
  have hr := B.returns
  have hts := atoms_spec (ws := w_DiscMakerModel_plainName) B.pre
  have ht9 := fun (w : Cond) (h : w ∈ lw_g) => hts w (List.mem_cons_of_mem _ h)
  have hown : s.vm.findClass "DiscMakerModel" = some m.cls := findClass_of_methodNamed B.named
  have hlocks := B.notSynchronized
  subst hsz
  have hD := hD0.self (sz := s.heap.size)
  generalize hAe : va_A [(h0, .inr (11, MO ma sv_thrown sv_length sv_nodes sv_many sv_directories sv_runsFrom sv_runs sv_read sv_wrong sv_isNamed sv_goes sv_goesSize sv_goesAt sv_targetParts sv_isRoot)), ((ma 16), .inl (cJ, 46080, .inr (.inl F))), ((ma 28), .inl (cB, 6000, .inl fN)), ((ma 29), .inl (cI, 100, .inl fNS))] s.heap.size = A at hD ⊢
  have hA : ∀ q : Nat, s.heap.size ≤ q → A q := fun q h => by rw [← hAe]; exact Or.inr h
  have hS : va_S A s.heap s.heap [] := va_S.rf
  have hP : va_P D CL [(h0, .inr (11, MO ma sv_thrown sv_length sv_nodes sv_many sv_directories sv_runsFrom sv_runs sv_read sv_wrong sv_isNamed sv_goes sv_goesSize sv_goesAt sv_targetParts sv_isRoot)), ((ma 16), .inl (cJ, 46080, .inr (.inl F))), ((ma 28), .inl (cB, 6000, .inl fN)), ((ma 29), .inl (cI, 100, .inl fNS))] s.heap := hP
  have hl := lv_entry [.ref h0, .int x, .int y, .int z] (n := 7) (Nat.le_of_ble_eq_true rfl)
  rw [lg_entry_eq]
  generalize (lg_sl [.ref h0, .int x, .int y, .int z] ++ List.replicate (7 - (lg_sl [.ref h0, .int x, .int y, .int z]).length) Slot.unset).toArray = ls at hl ⊢
  have hl : lv_has ls 7 [(0, .ref h0), (1, .int x), (2, .int y), (3, .int z)] := hl
  have L_m2 : ((-2) : Int32).toInt = (-2) := by decide
  have L_m1 : ((-1) : Int32).toInt = (-1) := by decide
  have L_0 : (0 : Int32).toInt = 0 := by decide
  have L_1 : (1 : Int32).toInt = 1 := by decide
  have L_2 : (2 : Int32).toInt = 2 := by decide
  have L_32 : (32 : Int32).toInt = 32 := by decide
  have L_33 : (33 : Int32).toInt = 33 := by decide
  have L_34 : (34 : Int32).toInt = 34 := by decide
  have L_46 : (46 : Int32).toInt = 46 := by decide
  have L_49 : (49 : Int32).toInt = 49 := by decide
  have L_59 : (59 : Int32).toInt = 59 := by decide
  have L_60 : (60 : Int32).toInt = 60 := by decide
  have L_126 : (126 : Int32).toInt = 126 := by decide
  have L_256 : (256 : Int32).toInt = 256 := by decide
  have hat := atF_rng F (y + 32)
  refine lv_aload_n hx hb d_DiscMakerModel_plainName_0 rfl (lv_at hl 0 rfl) ?_
  refine lv_iload_n hx hb d_DiscMakerModel_plainName_1 rfl (lv_at hl 2 rfl) ?_
  refine lv_bipush (v := 32) hx hb d_DiscMakerModel_plainName_2 (by decide) ?_
  refine lv_iadd hx hb d_DiscMakerModel_plainName_4 ?_
  refine lv_topi (fun v1 e_v1 => ?_)
  have t_v1 : v1.toInt = y.toInt + 32 := by rw [e_v1]; exact i_add rfl (by decide) (by omega) (by omega)
  have hPc := hP.sub (ws' := [(h0, .inr (11, MO ma sv_thrown sv_length sv_nodes sv_many sv_directories sv_runsFrom sv_runs sv_read sv_wrong sv_isNamed sv_goes sv_goesSize sv_goesAt sv_targetParts sv_isRoot)), ((ma 16), .inl (cJ, 46080, .inr (.inl F)))]) [0, 1] rfl
  have hDc := hD.sub (ws' := [(h0, .inr (11, MO ma sv_thrown sv_length sv_nodes sv_many sv_directories sv_runsFrom sv_runs sv_read sv_wrong sv_isNamed sv_goes sv_goesSize sv_goesAt sv_targetParts sv_isRoot)), ((ma 16), .inl (cJ, 46080, .inr (.inl F)))]) [0, 1] (by decide +kernel) rfl
  have hFc := va_free (wc := [(h0, .inr (11, MO ma sv_thrown sv_length sv_nodes sv_many sv_directories sv_runsFrom sv_runs sv_read sv_wrong sv_isNamed sv_goes sv_goesSize sv_goesAt sv_targetParts sv_isRoot)), ((ma 16), .inl (cJ, 46080, .inr (.inl F)))]) hD hS hA [0, 1] rfl
  have hkc : 0 ≤ 0 := by decide
  have hks : 0 ≤ 0 := by decide
  refine va_calli (va_runV (C := "DiscMakerModel") (As := [.int v1]) (rest := []) ⟨hx, hb, hml, hown, hts⟩ (m_at l D cB cI cJ cZ cN cF s.heap.size h0 ma sv_thrown sv_length sv_nodes sv_many sv_directories sv_runsFrom sv_runs sv_read sv_wrong sv_isNamed sv_goes sv_goesSize sv_goesAt sv_targetParts sv_isRoot F v1 (by (try dsimp only); first | assumption | omega | trivial) (by (try dsimp only); first | assumption | omega | trivial)) (cwV 1 hts (lg_goodV k1809 k1811 k95 k125 kc_DiscMakerModel_at) rfl rfl rfl (by decide +kernel) ⟨Nat.le_of_ble_eq_true rfl, Nat.le_of_ble_eq_true rfl⟩) ⟨fun a U g mk q => by obtain ⟨q0, q1, qP, qK, qN, qD⟩ := q; exact ⟨q0, q1, qP, va_K.moved (u := U) (U := U.calling g mk a) (Vm.Alike.refl U.vm) qK, qN.calling, qD⟩, va_recv hK hP (ci := 11) (q0 := 0) rfl rfl, fun U hU hW => ⟨rfl, by rw [hU], by rw [hU]; exact hPc, va_K.moved hW.alike hK, NN.warm hW hN, hDc.weaken (fun _ _ _ _ => trivial)⟩⟩ rfl rfl hl.1 rfl (lv_room (Nat.le_of_ble_eq_true rfl)) d_DiscMakerModel_plainName_5 ⟨hkc, hks⟩) hS (fun q _ h => hFc q h) hFc (fun r2 u t H1 locs ht hvm hp_r2 hB hz1 hk1 hS => ?_)
  obtain ⟨hP1, hD1⟩ := hB
  rw [ht] at hP1
  obtain ⟨hP, hD⟩ := va_join (wr := [((ma 28), .inl (cB, 6000, .inl fN)), ((ma 29), .inl (cI, 100, .inl fNS))]) (w1 := [(h0, .inr (11, MO ma sv_thrown sv_length sv_nodes sv_many sv_directories sv_runsFrom sv_runs sv_read sv_wrong sv_isNamed sv_goes sv_goesSize sv_goesAt sv_targetParts sv_isRoot)), ((ma 16), .inl (cJ, 46080, .inr (.inl F)))]) hP hD [0, 1] [2, 3] rfl rfl (by decide +kernel) (by decide +kernel) hk1 hFc hP1 hD1
  clear hPc hDc hFc hP1 hD1 hk1 hz1 hkc hks
  generalize H1 = H at hP hS ⊢
  have hP : va_P D CL [((ma 28), .inl (cB, 6000, .inl fN)), ((ma 29), .inl (cI, 100, .inl fNS)), (h0, .inr (11, MO ma sv_thrown sv_length sv_nodes sv_many sv_directories sv_runsFrom sv_runs sv_read sv_wrong sv_isNamed sv_goes sv_goesSize sv_goesAt sv_targetParts sv_isRoot)), ((ma 16), .inl (cJ, 46080, .inr (.inl F)))] H := hP
  have hD : va_D A [((ma 28), .inl (cB, 6000, .inl fN)), ((ma 29), .inl (cI, 100, .inl fNS)), (h0, .inr (11, MO ma sv_thrown sv_length sv_nodes sv_many sv_directories sv_runsFrom sv_runs sv_read sv_wrong sv_isNamed sv_goes sv_goesSize sv_goesAt sv_targetParts sv_isRoot)), ((ma 16), .inl (cJ, 46080, .inr (.inl F)))] := hD
  try dsimp only at hp_r2
  obtain ⟨hr_3, hv_4, hw_5⟩ := hp_r2
  have qr2 : y.toInt + 33 + r2.toInt ≤ 368640 := by subst_vars; exact hy2
  refine lv_istore hx hb d_DiscMakerModel_plainName_8 hl (by decide) rfl (fun ls hl => ?_)
  have hl : lv_has ls 7 [(4, .int r2), (0, .ref h0), (1, .int x), (2, .int y), (3, .int z)] := hl
  refine lv_iload_n hx hb d_DiscMakerModel_plainName_10 rfl (lv_at hl 4 rfl) ?_
  refine lv_iconst (v := 1) hx hb d_DiscMakerModel_plainName_11 (by decide) ?_
  refine lv_icmp_ne (tgt := 134) hx hb d_DiscMakerModel_plainName_12 (by decide) (fun h_9 => ?_) (fun h_9 => ?_)
  · skip
    have g12_9 : ¬ z.toInt = 1 := fun h8 => h_9 ((i_eq rfl (by decide)).mpr h8)
    refine zz_labM (B := fun (lk : Nat) (K : Heap → List Loc → Array Slot → List Value → Prop) => ∀ (nn : Int32) (H : Heap) (locs : List Loc) (ls : Array Slot), lk = 0 → (0 ≤ nn.toInt ∧ nn.toInt ≤ 255 ∧ y.toInt + 33 + nn.toInt ≤ 368640) → va_P D CL [((ma 28), .inl (cB, 6000, .inl fN)), ((ma 29), .inl (cI, 100, .inl fNS)), (h0, .inr (11, MO ma sv_thrown sv_length sv_nodes sv_many sv_directories sv_runsFrom sv_runs sv_read sv_wrong sv_isNamed sv_goes sv_goesSize sv_goesAt sv_targetParts sv_isRoot)), ((ma 16), .inl (cJ, 46080, .inr (.inl F)))] H → va_D A [((ma 28), .inl (cB, 6000, .inl fN)), ((ma 29), .inl (cI, 100, .inl fNS)), (h0, .inr (11, MO ma sv_thrown sv_length sv_nodes sv_many sv_directories sv_runsFrom sv_runs sv_read sv_wrong sv_isNamed sv_goes sv_goesSize sv_goesAt sv_targetParts sv_isRoot)), ((ma 16), .inl (cJ, 46080, .inr (.inl F)))] → va_S A s.heap H locs → lv_has ls 7 [(0, .ref h0), (1, .int x), (2, .int y), (3, .int z), (4, .int nn)] → K H locs ls []) 205 ?_ ?_
    · skip
      intro lk ih205 nn H locs ls hm205 f2 hP hD hS hl
      refine lv_iload hx hb d_DiscMakerModel_plainName_205 (lv_at hl 4 rfl) ?_
      refine lv_bipush (v := 60) hx hb d_DiscMakerModel_plainName_207 (by decide) ?_
      refine lv_icmp_le (tgt := 218) hx hb d_DiscMakerModel_plainName_209 (by decide) (fun h_9 => ?_) (fun h_9 => ?_)
      · skip
        have g209_12 : nn.toInt ≤ 60 := (i_le rfl (by decide)).mp h_9
        refine lv_iconst (v := 0) hx hb d_DiscMakerModel_plainName_218 (by decide) ?_
        refine lv_istore hx hb d_DiscMakerModel_plainName_219 hl (by decide) rfl (fun ls hl => ?_)
        have hl : lv_has ls 7 [(5, .int 0), (0, .ref h0), (1, .int x), (2, .int y), (3, .int z), (4, .int nn)] := hl
        refine zz_labM (B := fun (lk : Nat) (K : Heap → List Loc → Array Slot → List Value → Prop) => ∀ (kx : Int32) (lN : Nat → Int32) (H : Heap) (locs : List Loc) (ls : Array Slot), lk = (nn.toInt - kx.toInt).toNat → (0 ≤ kx.toInt ∧ kx.toInt ≤ nn.toInt) → va_P D CL [((ma 28), .inl (cB, 6000, .inl lN)), ((ma 29), .inl (cI, 100, .inl fNS)), (h0, .inr (11, MO ma sv_thrown sv_length sv_nodes sv_many sv_directories sv_runsFrom sv_runs sv_read sv_wrong sv_isNamed sv_goes sv_goesSize sv_goesAt sv_targetParts sv_isRoot)), ((ma 16), .inl (cJ, 46080, .inr (.inl F)))] H → va_D A [((ma 28), .inl (cB, 6000, .inl lN)), ((ma 29), .inl (cI, 100, .inl fNS)), (h0, .inr (11, MO ma sv_thrown sv_length sv_nodes sv_many sv_directories sv_runsFrom sv_runs sv_read sv_wrong sv_isNamed sv_goes sv_goesSize sv_goesAt sv_targetParts sv_isRoot)), ((ma 16), .inl (cJ, 46080, .inr (.inl F)))] → va_S A s.heap H locs → lv_has ls 7 [(0, .ref h0), (1, .int x), (2, .int y), (3, .int z), (4, .int nn), (5, .int kx)] → K H locs ls []) 221 ?_ ?_
        · skip
          intro lk ih221 kx lN H locs ls hm221 f3 hP hD hS hl
          refine lv_iload hx hb d_DiscMakerModel_plainName_221 (lv_at hl 5 rfl) ?_
          refine lv_iload hx hb d_DiscMakerModel_plainName_223 (lv_at hl 4 rfl) ?_
          refine lv_icmp_ge (tgt := 258) hx hb d_DiscMakerModel_plainName_225 (by decide) (fun h_9 => ?_) (fun h_9 => ?_)
          · skip
            have g225_17 : nn.toInt ≤ kx.toInt := (i_le rfl rfl).mp h_9
            refine lv_aload_n hx hb d_DiscMakerModel_plainName_258 rfl (lv_at hl 0 rfl) ?_
            refine va_get (D := D) (ci := 11) (v := .ref (ma 29)) (C := "DiscMakerModel") (T := F_DiscMakerModel) (N := 48) hx hb ht9 in_DiscMakerModel hown hK hP 2 rfl rfl 37 (by decide) (ht9 _ k1468) (fun _ h9 => h9) rfl d_DiscMakerModel_plainName_259 ?_
            refine lv_iload_n hx hb d_DiscMakerModel_plainName_262 rfl (lv_at hl 1 rfl) ?_
            refine lv_iload hx hb d_DiscMakerModel_plainName_263 (lv_at hl 4 rfl) ?_
            refine zq_iast hx hb hK hP hD hS 1 1 rfl rfl (vp_in_iff.mpr ⟨by omega, by omega⟩) d_DiscMakerModel_plainName_265 (fun f6 e_f6 H locs hP hD hS => ?_)
            have hP : va_P D CL [((ma 28), .inl (cB, 6000, .inl lN)), ((ma 29), .inl (cI, 100, .inl f6)), (h0, .inr (11, MO ma sv_thrown sv_length sv_nodes sv_many sv_directories sv_runsFrom sv_runs sv_read sv_wrong sv_isNamed sv_goes sv_goesSize sv_goesAt sv_targetParts sv_isRoot)), ((ma 16), .inl (cJ, 46080, .inr (.inl F)))] H := hP
            have hD : va_D A [((ma 28), .inl (cB, 6000, .inl lN)), ((ma 29), .inl (cI, 100, .inl f6)), (h0, .inr (11, MO ma sv_thrown sv_length sv_nodes sv_many sv_directories sv_runsFrom sv_runs sv_read sv_wrong sv_isNamed sv_goes sv_goesSize sv_goesAt sv_targetParts sv_isRoot)), ((ma 16), .inl (cJ, 46080, .inr (.inl F)))] := hD
            have R_f6 : Rg 0 60 100 f6 := Rg_upd e_f6 hfNS (by omega) (by omega)
            have s_f6 : f6 x.toNatClampNeg = nn := by rw [e_f6]; unfold upd; rw [if_pos (by first | rfl | decide)]
            refine lv_iconst (v := 1) hx hb d_DiscMakerModel_plainName_266 (by decide) ?_
            have hP9 := hP.sub (ws' := [(h0, .inr (11, MO ma sv_thrown sv_length sv_nodes sv_many sv_directories sv_runsFrom sv_runs sv_read sv_wrong sv_isNamed sv_goes sv_goesSize sv_goesAt sv_targetParts sv_isRoot)), ((ma 16), .inl (cJ, 46080, .inr (.inl F))), ((ma 28), .inl (cB, 6000, .inl lN)), ((ma 29), .inl (cI, 100, .inl f6))]) [2, 3, 0, 1] rfl
            have hD9 := hD.sub (ws' := [(h0, .inr (11, MO ma sv_thrown sv_length sv_nodes sv_many sv_directories sv_runsFrom sv_runs sv_read sv_wrong sv_isNamed sv_goes sv_goesSize sv_goesAt sv_targetParts sv_isRoot)), ((ma 16), .inl (cJ, 46080, .inr (.inl F))), ((ma 28), .inl (cB, 6000, .inl lN)), ((ma 29), .inl (cI, 100, .inl f6))]) [2, 3, 0, 1] (by decide +kernel) rfl
            exact W.zret (v := 1) hx hb hr (by first | rfl | decide | exact i_narZ (by omega)) (fun t ht hW => ⟨⟨1, (sv_wrong, lN, f6), rfl, ⟨(by (try dsimp only); first | assumption | omega | trivial), (by (try dsimp only); first | assumption | omega | trivial)⟩, by rw [ht]; exact hP9, hD9⟩, hS.F ht⟩) hS.2.2 d_DiscMakerModel_plainName_267
          · skip
            have g225_17 : ¬ nn.toInt ≤ kx.toInt := fun h8 => h_9 ((i_le rfl rfl).mpr h8)
            refine lv_aload_n hx hb d_DiscMakerModel_plainName_228 rfl (lv_at hl 0 rfl) ?_
            refine va_get (D := D) (ci := 11) (v := .ref (ma 28)) (C := "DiscMakerModel") (T := F_DiscMakerModel) (N := 48) hx hb ht9 in_DiscMakerModel hown hK hP 2 rfl rfl 36 (by decide) (ht9 _ k1467) (fun _ h9 => h9) rfl d_DiscMakerModel_plainName_229 ?_
            refine lv_bipush (v := 60) hx hb d_DiscMakerModel_plainName_232 (by decide) ?_
            refine lv_iload_n hx hb d_DiscMakerModel_plainName_234 rfl (lv_at hl 1 rfl) ?_
            refine lv_imul hx hb d_DiscMakerModel_plainName_235 ?_
            refine lv_topi (fun v7 e_v7 => ?_)
            have t_v7 : v7.toInt = 60 * x.toInt := by rw [e_v7]; exact i_mul (by decide) rfl (by omega) (by omega)
            refine lv_iload hx hb d_DiscMakerModel_plainName_236 (lv_at hl 5 rfl) ?_
            refine lv_iadd hx hb d_DiscMakerModel_plainName_238 ?_
            refine lv_topi (fun v8 e_v8 => ?_)
            have t_v8 : v8.toInt = v7.toInt + kx.toInt := by rw [e_v8]; exact i_add rfl rfl (by omega) (by omega)
            refine lv_aload_n hx hb d_DiscMakerModel_plainName_239 rfl (lv_at hl 0 rfl) ?_
            refine lv_iload_n hx hb d_DiscMakerModel_plainName_240 rfl (lv_at hl 2 rfl) ?_
            refine lv_bipush (v := 33) hx hb d_DiscMakerModel_plainName_241 (by decide) ?_
            refine lv_iadd hx hb d_DiscMakerModel_plainName_243 ?_
            refine lv_topi (fun v9 e_v9 => ?_)
            have t_v9 : v9.toInt = y.toInt + 33 := by rw [e_v9]; exact i_add rfl (by decide) (by omega) (by omega)
            refine lv_iload hx hb d_DiscMakerModel_plainName_244 (lv_at hl 5 rfl) ?_
            refine lv_iadd hx hb d_DiscMakerModel_plainName_246 ?_
            refine lv_topi (fun v10 e_v10 => ?_)
            have t_v10 : v10.toInt = v9.toInt + kx.toInt := by rw [e_v10]; exact i_add rfl rfl (by omega) (by omega)
            have hPc := hP.sub (ws' := [(h0, .inr (11, MO ma sv_thrown sv_length sv_nodes sv_many sv_directories sv_runsFrom sv_runs sv_read sv_wrong sv_isNamed sv_goes sv_goesSize sv_goesAt sv_targetParts sv_isRoot)), ((ma 16), .inl (cJ, 46080, .inr (.inl F)))]) [2, 3] rfl
            have hDc := hD.sub (ws' := [(h0, .inr (11, MO ma sv_thrown sv_length sv_nodes sv_many sv_directories sv_runsFrom sv_runs sv_read sv_wrong sv_isNamed sv_goes sv_goesSize sv_goesAt sv_targetParts sv_isRoot)), ((ma 16), .inl (cJ, 46080, .inr (.inl F)))]) [2, 3] (by decide +kernel) rfl
            have hFc := va_free (wc := [(h0, .inr (11, MO ma sv_thrown sv_length sv_nodes sv_many sv_directories sv_runsFrom sv_runs sv_read sv_wrong sv_isNamed sv_goes sv_goesSize sv_goesAt sv_targetParts sv_isRoot)), ((ma 16), .inl (cJ, 46080, .inr (.inl F)))]) hD hS hA [2, 3] rfl
            have hkc : 0 ≤ 0 := by decide
            have hks : 0 ≤ 0 := by decide
            refine va_calli (va_runV (C := "DiscMakerModel") (As := [.int v10]) (rest := [.int v8, .ref (ma 28)]) ⟨hx, hb, hml, hown, hts⟩ (m_at l D cB cI cJ cZ cN cF H.size h0 ma sv_thrown sv_length sv_nodes sv_many sv_directories sv_runsFrom sv_runs sv_read sv_wrong sv_isNamed sv_goes sv_goesSize sv_goesAt sv_targetParts sv_isRoot F v10 (by (try dsimp only); first | assumption | omega | trivial) (by (try dsimp only); first | assumption | omega | trivial)) (cwV 1 hts (lg_goodV k1809 k1811 k95 k125 kc_DiscMakerModel_at) rfl rfl rfl (by decide +kernel) ⟨Nat.le_of_ble_eq_true rfl, Nat.le_of_ble_eq_true rfl⟩) ⟨fun a U g mk q => by obtain ⟨q0, q1, qP, qK, qN, qD⟩ := q; exact ⟨q0, q1, qP, va_K.moved (u := U) (U := U.calling g mk a) (Vm.Alike.refl U.vm) qK, qN.calling, qD⟩, va_recv hK hP (ci := 11) (q0 := 2) rfl rfl, fun U hU hW => ⟨rfl, by rw [hU], by rw [hU]; exact hPc, va_K.moved hW.alike hK, NN.warm hW hN, hDc.weaken (fun _ _ _ _ => trivial)⟩⟩ rfl rfl hl.1 rfl (lv_room (Nat.le_of_ble_eq_true rfl)) d_DiscMakerModel_plainName_247 ⟨hkc, hks⟩) hS (fun q _ h => hFc q h) hFc (fun r11 u t H1 locs ht hvm hp_r11 hB hz1 hk1 hS => ?_)
            obtain ⟨hP1, hD1⟩ := hB
            rw [ht] at hP1
            obtain ⟨hP, hD⟩ := va_join (wr := [((ma 28), .inl (cB, 6000, .inl lN)), ((ma 29), .inl (cI, 100, .inl fNS))]) (w1 := [(h0, .inr (11, MO ma sv_thrown sv_length sv_nodes sv_many sv_directories sv_runsFrom sv_runs sv_read sv_wrong sv_isNamed sv_goes sv_goesSize sv_goesAt sv_targetParts sv_isRoot)), ((ma 16), .inl (cJ, 46080, .inr (.inl F)))]) hP hD [2, 3] [0, 1] rfl rfl (by decide +kernel) (by decide +kernel) hk1 hFc hP1 hD1
            clear hPc hDc hFc hP1 hD1 hk1 hz1 hkc hks
            generalize H1 = H at hP hS ⊢
            have hP : va_P D CL [((ma 28), .inl (cB, 6000, .inl lN)), ((ma 29), .inl (cI, 100, .inl fNS)), (h0, .inr (11, MO ma sv_thrown sv_length sv_nodes sv_many sv_directories sv_runsFrom sv_runs sv_read sv_wrong sv_isNamed sv_goes sv_goesSize sv_goesAt sv_targetParts sv_isRoot)), ((ma 16), .inl (cJ, 46080, .inr (.inl F)))] H := hP
            have hD : va_D A [((ma 28), .inl (cB, 6000, .inl lN)), ((ma 29), .inl (cI, 100, .inl fNS)), (h0, .inr (11, MO ma sv_thrown sv_length sv_nodes sv_many sv_directories sv_runsFrom sv_runs sv_read sv_wrong sv_isNamed sv_goes sv_goesSize sv_goesAt sv_targetParts sv_isRoot)), ((ma 16), .inl (cJ, 46080, .inr (.inl F)))] := hD
            try dsimp only at hp_r11
            obtain ⟨hr_12, hv_13, hw_14⟩ := hp_r11
            refine lv_i2b hx hb d_DiscMakerModel_plainName_250 rfl ?_
            refine lv_topi (fun v15 e_v15 => ?_)
            have t_v15 : (-128) ≤ v15.toInt ∧ v15.toInt ≤ 127 := by rw [e_v15]; exact i_b _
            refine zq_bast hx hb hK hP hD hS 0 0 rfl rfl (vp_in_iff.mpr ⟨by omega, by omega⟩) d_DiscMakerModel_plainName_251 (fun f16 e_f16 H locs hP hD hS => ?_)
            have hP : va_P D CL [((ma 28), .inl (cB, 6000, .inl f16)), ((ma 29), .inl (cI, 100, .inl fNS)), (h0, .inr (11, MO ma sv_thrown sv_length sv_nodes sv_many sv_directories sv_runsFrom sv_runs sv_read sv_wrong sv_isNamed sv_goes sv_goesSize sv_goesAt sv_targetParts sv_isRoot)), ((ma 16), .inl (cJ, 46080, .inr (.inl F)))] H := hP
            have hD : va_D A [((ma 28), .inl (cB, 6000, .inl f16)), ((ma 29), .inl (cI, 100, .inl fNS)), (h0, .inr (11, MO ma sv_thrown sv_length sv_nodes sv_many sv_directories sv_runsFrom sv_runs sv_read sv_wrong sv_isNamed sv_goes sv_goesSize sv_goesAt sv_targetParts sv_isRoot)), ((ma 16), .inl (cJ, 46080, .inr (.inl F)))] := hD
            obtain ⟨v17, e_v17⟩ : ∃ z : Int32, z = kx + 1 := ⟨_, rfl⟩
            refine lv_iinc (v := v17) hx hb d_DiscMakerModel_plainName_252 hl (k := 5) rfl e_v17.symm (by decide +kernel) rfl (fun ls hl => ?_)
            have t_v17 : v17.toInt = kx.toInt + 1 := by rw [e_v17]; exact i_add rfl (by decide) (by omega) (by omega)
            have hl : lv_has ls 7 [(5, .int v17), (0, .ref h0), (1, .int x), (2, .int y), (3, .int z), (4, .int nn)] := hl
            refine lv_goto (tgt := 221) hx hb d_DiscMakerModel_plainName_255 (by decide) ?_
            have hP := hP.sub (ws' := [((ma 28), .inl (cB, 6000, .inl f16)), ((ma 29), .inl (cI, 100, .inl fNS)), (h0, .inr (11, MO ma sv_thrown sv_length sv_nodes sv_many sv_directories sv_runsFrom sv_runs sv_read sv_wrong sv_isNamed sv_goes sv_goesSize sv_goesAt sv_targetParts sv_isRoot)), ((ma 16), .inl (cJ, 46080, .inr (.inl F)))]) [0, 1, 2, 3] rfl
            have hD := hD.sub (ws' := [((ma 28), .inl (cB, 6000, .inl f16)), ((ma 29), .inl (cI, 100, .inl fNS)), (h0, .inr (11, MO ma sv_thrown sv_length sv_nodes sv_many sv_directories sv_runsFrom sv_runs sv_read sv_wrong sv_isNamed sv_goes sv_goesSize sv_goesAt sv_targetParts sv_isRoot)), ((ma 16), .inl (cJ, 46080, .inr (.inl F)))]) [0, 1, 2, 3] (by decide +kernel) rfl
            have hl := lv_sub hl [1, 2, 3, 4, 5, 0] rfl
            exact ih221 _ (by first | omega | (dsimp only; omega)) v17 f16 _ _ _ rfl ((by (try dsimp only); first | assumption | omega | trivial)) hP hD hS hl
        · skip
          intro kk221
          have hP := hP.sub (ws' := [((ma 28), .inl (cB, 6000, .inl fN)), ((ma 29), .inl (cI, 100, .inl fNS)), (h0, .inr (11, MO ma sv_thrown sv_length sv_nodes sv_many sv_directories sv_runsFrom sv_runs sv_read sv_wrong sv_isNamed sv_goes sv_goesSize sv_goesAt sv_targetParts sv_isRoot)), ((ma 16), .inl (cJ, 46080, .inr (.inl F)))]) [0, 1, 2, 3] rfl
          have hD := hD.sub (ws' := [((ma 28), .inl (cB, 6000, .inl fN)), ((ma 29), .inl (cI, 100, .inl fNS)), (h0, .inr (11, MO ma sv_thrown sv_length sv_nodes sv_many sv_directories sv_runsFrom sv_runs sv_read sv_wrong sv_isNamed sv_goes sv_goesSize sv_goesAt sv_targetParts sv_isRoot)), ((ma 16), .inl (cJ, 46080, .inr (.inl F)))]) [0, 1, 2, 3] (by decide +kernel) rfl
          have hl := lv_sub hl [1, 2, 3, 4, 5, 0] rfl
          exact kk221 _ 0 fN _ _ _ rfl ((by (try dsimp only); first | assumption | omega | trivial)) hP hD hS hl
      · skip
        have g209_12 : ¬ nn.toInt ≤ 60 := fun h8 => h_9 ((i_le rfl (by decide)).mpr h8)
        refine lv_aload_n hx hb d_DiscMakerModel_plainName_212 rfl (lv_at hl 0 rfl) ?_
        refine lv_iload_n hx hb d_DiscMakerModel_plainName_213 rfl (lv_at hl 2 rfl) ?_
        have hPc := hP.sub (ws' := [(h0, .inr (11, MO ma sv_thrown sv_length sv_nodes sv_many sv_directories sv_runsFrom sv_runs sv_read sv_wrong sv_isNamed sv_goes sv_goesSize sv_goesAt sv_targetParts sv_isRoot))]) [2] rfl
        have hDc := hD.sub (ws' := [(h0, .inr (11, MO ma sv_thrown sv_length sv_nodes sv_many sv_directories sv_runsFrom sv_runs sv_read sv_wrong sv_isNamed sv_goes sv_goesSize sv_goesAt sv_targetParts sv_isRoot))]) [2] (by decide +kernel) rfl
        have hFc := va_free (wc := [(h0, .inr (11, MO ma sv_thrown sv_length sv_nodes sv_many sv_directories sv_runsFrom sv_runs sv_read sv_wrong sv_isNamed sv_goes sv_goesSize sv_goesAt sv_targetParts sv_isRoot))]) hD hS hA [2] rfl
        have hkc : 0 ≤ 0 := by decide
        have hks : 0 ≤ 0 := by decide
        refine va_calli (va_runV (C := "DiscMakerModel") (As := [.int y]) (rest := []) ⟨hx, hb, hml, hown, hts⟩ (m_isWrong l D cB cI cJ cZ cN cF H.size h0 ma sv_thrown sv_length sv_nodes sv_many sv_directories sv_runsFrom sv_runs sv_read sv_wrong sv_isNamed sv_goes sv_goesSize sv_goesAt sv_targetParts sv_isRoot y) (cwV 1 hts (lg_goodV k1833 k1835 k98 k125 kc_DiscMakerModel_isWrong) rfl rfl rfl (by decide +kernel) ⟨Nat.le_of_ble_eq_true rfl, Nat.le_of_ble_eq_true rfl⟩) ⟨fun a U g mk q => by obtain ⟨q0, q1, qP, qK, qN, qD⟩ := q; exact ⟨q0, q1, qP, va_K.moved (u := U) (U := U.calling g mk a) (Vm.Alike.refl U.vm) qK, qN.calling, qD⟩, va_recv hK hP (ci := 11) (q0 := 2) rfl rfl, fun U hU hW => ⟨rfl, by rw [hU], by rw [hU]; exact hPc, va_K.moved hW.alike hK, NN.warm hW hN, hDc.weaken (fun _ _ _ _ => trivial)⟩⟩ rfl rfl hl.1 rfl (lv_room (Nat.le_of_ble_eq_true rfl)) d_DiscMakerModel_plainName_214 ⟨hkc, hks⟩) hS (fun q _ h => hFc q h) hFc (fun r18 u t H1 locs ht hvm hp_r18 hB hz1 hk1 hS => ?_)
        obtain ⟨wr_19, rfl⟩ : ∃ z, z = u := ⟨_, rfl⟩
        obtain ⟨hP1, hD1⟩ := hB
        rw [ht] at hP1
        obtain ⟨hP, hD⟩ := va_join (wr := [((ma 28), .inl (cB, 6000, .inl fN)), ((ma 29), .inl (cI, 100, .inl fNS)), ((ma 16), .inl (cJ, 46080, .inr (.inl F)))]) (w1 := [(h0, .inr (11, MO ma sv_thrown sv_length sv_nodes sv_many sv_directories sv_runsFrom sv_runs sv_read wr_19 sv_isNamed sv_goes sv_goesSize sv_goesAt sv_targetParts sv_isRoot))]) hP hD [2] [0, 1, 3] rfl rfl (by decide +kernel) (by decide +kernel) hk1 hFc hP1 hD1
        clear hPc hDc hFc hP1 hD1 hk1 hz1 hkc hks
        generalize H1 = H at hP hS ⊢
        have hP : va_P D CL [((ma 28), .inl (cB, 6000, .inl fN)), ((ma 29), .inl (cI, 100, .inl fNS)), ((ma 16), .inl (cJ, 46080, .inr (.inl F))), (h0, .inr (11, MO ma sv_thrown sv_length sv_nodes sv_many sv_directories sv_runsFrom sv_runs sv_read wr_19 sv_isNamed sv_goes sv_goesSize sv_goesAt sv_targetParts sv_isRoot))] H := hP
        have hD : va_D A [((ma 28), .inl (cB, 6000, .inl fN)), ((ma 29), .inl (cI, 100, .inl fNS)), ((ma 16), .inl (cJ, 46080, .inr (.inl F))), (h0, .inr (11, MO ma sv_thrown sv_length sv_nodes sv_many sv_directories sv_runsFrom sv_runs sv_read wr_19 sv_isNamed sv_goes sv_goesSize sv_goesAt sv_targetParts sv_isRoot))] := hD
        try dsimp only at hp_r18
        have hr_20 := hp_r18
        have hP9 := hP.sub (ws' := [(h0, .inr (11, MO ma sv_thrown sv_length sv_nodes sv_many sv_directories sv_runsFrom sv_runs sv_read wr_19 sv_isNamed sv_goes sv_goesSize sv_goesAt sv_targetParts sv_isRoot)), ((ma 16), .inl (cJ, 46080, .inr (.inl F))), ((ma 28), .inl (cB, 6000, .inl fN)), ((ma 29), .inl (cI, 100, .inl fNS))]) [3, 2, 0, 1] rfl
        have hD9 := hD.sub (ws' := [(h0, .inr (11, MO ma sv_thrown sv_length sv_nodes sv_many sv_directories sv_runsFrom sv_runs sv_read wr_19 sv_isNamed sv_goes sv_goesSize sv_goesAt sv_targetParts sv_isRoot)), ((ma 16), .inl (cJ, 46080, .inr (.inl F))), ((ma 28), .inl (cB, 6000, .inl fN)), ((ma 29), .inl (cI, 100, .inl fNS))]) [3, 2, 0, 1] (by decide +kernel) rfl
        exact W.zret (v := r18) hx hb hr (by first | rfl | decide | exact i_narZ (by omega)) (fun t ht hW => ⟨⟨r18, (wr_19, fN, fNS), rfl, ⟨(by (try dsimp only); first | assumption | omega | trivial), (by (try dsimp only); first | assumption | omega | trivial)⟩, by rw [ht]; exact hP9, hD9⟩, hS.F ht⟩) hS.2.2 d_DiscMakerModel_plainName_217
    · skip
      intro kk205
      refine lv_iload hx hb d_DiscMakerModel_plainName_134 (lv_at hl 0 rfl) ?_
      refine lv_iconst (v := 1) hx hb d_DiscMakerModel_plainName_136 (by decide) ?_
      refine lv_icmp_le (tgt := 179) hx hb d_DiscMakerModel_plainName_137 (by decide) (fun h_9 => ?_) (fun h_9 => ?_)
      · skip
        have g137_50 : r2.toInt ≤ 1 := (i_le rfl (by decide)).mp h_9
        refine lv_iload hx hb d_DiscMakerModel_plainName_179 (lv_at hl 0 rfl) ?_
        refine lv_if_le (tgt := 205) hx hb d_DiscMakerModel_plainName_181 (by decide) (fun h_9 => ?_) (fun h_9 => ?_)
        · skip
          have g181_52 : r2.toInt ≤ 0 := (i_le rfl (by decide)).mp h_9
          have hP := hP.sub (ws' := [((ma 28), .inl (cB, 6000, .inl fN)), ((ma 29), .inl (cI, 100, .inl fNS)), (h0, .inr (11, MO ma sv_thrown sv_length sv_nodes sv_many sv_directories sv_runsFrom sv_runs sv_read sv_wrong sv_isNamed sv_goes sv_goesSize sv_goesAt sv_targetParts sv_isRoot)), ((ma 16), .inl (cJ, 46080, .inr (.inl F)))]) [0, 1, 2, 3] rfl
          have hD := hD.sub (ws' := [((ma 28), .inl (cB, 6000, .inl fN)), ((ma 29), .inl (cI, 100, .inl fNS)), (h0, .inr (11, MO ma sv_thrown sv_length sv_nodes sv_many sv_directories sv_runsFrom sv_runs sv_read sv_wrong sv_isNamed sv_goes sv_goesSize sv_goesAt sv_targetParts sv_isRoot)), ((ma 16), .inl (cJ, 46080, .inr (.inl F)))]) [0, 1, 2, 3] (by decide +kernel) rfl
          have hl := lv_sub hl [1, 2, 3, 4, 0] rfl
          exact kk205 _ r2 _ _ _ rfl ((by (try dsimp only); first | assumption | omega | trivial)) hP hD hS hl
        · skip
          have g181_52 : ¬ r2.toInt ≤ 0 := fun h8 => h_9 ((i_le rfl (by decide)).mpr h8)
          refine lv_aload_n hx hb d_DiscMakerModel_plainName_184 rfl (lv_at hl 1 rfl) ?_
          refine lv_iload_n hx hb d_DiscMakerModel_plainName_185 rfl (lv_at hl 3 rfl) ?_
          refine lv_bipush (v := 33) hx hb d_DiscMakerModel_plainName_186 (by decide) ?_
          refine lv_iadd hx hb d_DiscMakerModel_plainName_188 ?_
          refine lv_topi (fun v21 e_v21 => ?_)
          have t_v21 : v21.toInt = y.toInt + 33 := by rw [e_v21]; exact i_add rfl (by decide) (by omega) (by omega)
          refine lv_iload hx hb d_DiscMakerModel_plainName_189 (lv_at hl 0 rfl) ?_
          refine lv_iadd hx hb d_DiscMakerModel_plainName_191 ?_
          refine lv_topi (fun v22 e_v22 => ?_)
          have t_v22 : v22.toInt = v21.toInt + r2.toInt := by rw [e_v22]; exact i_add rfl rfl (by omega) (by omega)
          refine lv_iconst (v := 1) hx hb d_DiscMakerModel_plainName_192 (by decide) ?_
          refine lv_isub hx hb d_DiscMakerModel_plainName_193 ?_
          refine lv_topi (fun v23 e_v23 => ?_)
          have t_v23 : v23.toInt = v22.toInt - 1 := by rw [e_v23]; exact i_sub rfl (by decide) (by omega) (by omega)
          have hPc := hP.sub (ws' := [(h0, .inr (11, MO ma sv_thrown sv_length sv_nodes sv_many sv_directories sv_runsFrom sv_runs sv_read sv_wrong sv_isNamed sv_goes sv_goesSize sv_goesAt sv_targetParts sv_isRoot)), ((ma 16), .inl (cJ, 46080, .inr (.inl F)))]) [2, 3] rfl
          have hDc := hD.sub (ws' := [(h0, .inr (11, MO ma sv_thrown sv_length sv_nodes sv_many sv_directories sv_runsFrom sv_runs sv_read sv_wrong sv_isNamed sv_goes sv_goesSize sv_goesAt sv_targetParts sv_isRoot)), ((ma 16), .inl (cJ, 46080, .inr (.inl F)))]) [2, 3] (by decide +kernel) rfl
          have hFc := va_free (wc := [(h0, .inr (11, MO ma sv_thrown sv_length sv_nodes sv_many sv_directories sv_runsFrom sv_runs sv_read sv_wrong sv_isNamed sv_goes sv_goesSize sv_goesAt sv_targetParts sv_isRoot)), ((ma 16), .inl (cJ, 46080, .inr (.inl F)))]) hD hS hA [2, 3] rfl
          have hkc : 0 ≤ 0 := by decide
          have hks : 0 ≤ 0 := by decide
          refine va_calli (va_runV (C := "DiscMakerModel") (As := [.int v23]) (rest := []) ⟨hx, hb, hml, hown, hts⟩ (m_at l D cB cI cJ cZ cN cF H.size h0 ma sv_thrown sv_length sv_nodes sv_many sv_directories sv_runsFrom sv_runs sv_read sv_wrong sv_isNamed sv_goes sv_goesSize sv_goesAt sv_targetParts sv_isRoot F v23 (by (try dsimp only); first | assumption | omega | trivial) (by (try dsimp only); first | assumption | omega | trivial)) (cwV 1 hts (lg_goodV k1809 k1811 k95 k125 kc_DiscMakerModel_at) rfl rfl rfl (by decide +kernel) ⟨Nat.le_of_ble_eq_true rfl, Nat.le_of_ble_eq_true rfl⟩) ⟨fun a U g mk q => by obtain ⟨q0, q1, qP, qK, qN, qD⟩ := q; exact ⟨q0, q1, qP, va_K.moved (u := U) (U := U.calling g mk a) (Vm.Alike.refl U.vm) qK, qN.calling, qD⟩, va_recv hK hP (ci := 11) (q0 := 2) rfl rfl, fun U hU hW => ⟨rfl, by rw [hU], by rw [hU]; exact hPc, va_K.moved hW.alike hK, NN.warm hW hN, hDc.weaken (fun _ _ _ _ => trivial)⟩⟩ rfl rfl hl.1 rfl (lv_room (Nat.le_of_ble_eq_true rfl)) d_DiscMakerModel_plainName_194 ⟨hkc, hks⟩) hS (fun q _ h => hFc q h) hFc (fun r24 u t H1 locs ht hvm hp_r24 hB hz1 hk1 hS => ?_)
          obtain ⟨hP1, hD1⟩ := hB
          rw [ht] at hP1
          obtain ⟨hP, hD⟩ := va_join (wr := [((ma 28), .inl (cB, 6000, .inl fN)), ((ma 29), .inl (cI, 100, .inl fNS))]) (w1 := [(h0, .inr (11, MO ma sv_thrown sv_length sv_nodes sv_many sv_directories sv_runsFrom sv_runs sv_read sv_wrong sv_isNamed sv_goes sv_goesSize sv_goesAt sv_targetParts sv_isRoot)), ((ma 16), .inl (cJ, 46080, .inr (.inl F)))]) hP hD [2, 3] [0, 1] rfl rfl (by decide +kernel) (by decide +kernel) hk1 hFc hP1 hD1
          clear hPc hDc hFc hP1 hD1 hk1 hz1 hkc hks
          generalize H1 = H at hP hS ⊢
          have hP : va_P D CL [((ma 28), .inl (cB, 6000, .inl fN)), ((ma 29), .inl (cI, 100, .inl fNS)), (h0, .inr (11, MO ma sv_thrown sv_length sv_nodes sv_many sv_directories sv_runsFrom sv_runs sv_read sv_wrong sv_isNamed sv_goes sv_goesSize sv_goesAt sv_targetParts sv_isRoot)), ((ma 16), .inl (cJ, 46080, .inr (.inl F)))] H := hP
          have hD : va_D A [((ma 28), .inl (cB, 6000, .inl fN)), ((ma 29), .inl (cI, 100, .inl fNS)), (h0, .inr (11, MO ma sv_thrown sv_length sv_nodes sv_many sv_directories sv_runsFrom sv_runs sv_read sv_wrong sv_isNamed sv_goes sv_goesSize sv_goesAt sv_targetParts sv_isRoot)), ((ma 16), .inl (cJ, 46080, .inr (.inl F)))] := hD
          try dsimp only at hp_r24
          obtain ⟨hr_25, hv_26, hw_27⟩ := hp_r24
          refine lv_bipush (v := 46) hx hb d_DiscMakerModel_plainName_197 (by decide) ?_
          refine lv_icmp_ne (tgt := 205) hx hb d_DiscMakerModel_plainName_199 (by decide) (fun h_9 => ?_) (fun h_9 => ?_)
          · skip
            have g199_64 : ¬ r24.toInt = 46 := fun h8 => h_9 ((i_eq rfl (by decide)).mpr h8)
            have hP := hP.sub (ws' := [((ma 28), .inl (cB, 6000, .inl fN)), ((ma 29), .inl (cI, 100, .inl fNS)), (h0, .inr (11, MO ma sv_thrown sv_length sv_nodes sv_many sv_directories sv_runsFrom sv_runs sv_read sv_wrong sv_isNamed sv_goes sv_goesSize sv_goesAt sv_targetParts sv_isRoot)), ((ma 16), .inl (cJ, 46080, .inr (.inl F)))]) [0, 1, 2, 3] rfl
            have hD := hD.sub (ws' := [((ma 28), .inl (cB, 6000, .inl fN)), ((ma 29), .inl (cI, 100, .inl fNS)), (h0, .inr (11, MO ma sv_thrown sv_length sv_nodes sv_many sv_directories sv_runsFrom sv_runs sv_read sv_wrong sv_isNamed sv_goes sv_goesSize sv_goesAt sv_targetParts sv_isRoot)), ((ma 16), .inl (cJ, 46080, .inr (.inl F)))]) [0, 1, 2, 3] (by decide +kernel) rfl
            have hl := lv_sub hl [1, 2, 3, 4, 0] rfl
            exact kk205 _ r2 _ _ _ rfl ((by (try dsimp only); first | assumption | omega | trivial)) hP hD hS hl
          · skip
            have g199_64 : r24.toInt = 46 := (i_eq rfl (by decide)).mp h_9
            obtain ⟨v28, e_v28⟩ : ∃ z : Int32, z = r2 + (-1) := ⟨_, rfl⟩
            refine lv_iinc (v := v28) hx hb d_DiscMakerModel_plainName_202 hl (k := 0) rfl e_v28.symm (by decide +kernel) rfl (fun ls hl => ?_)
            have t_v28 : v28.toInt = r2.toInt + (-1) := by rw [e_v28]; exact i_add rfl (by decide) (by omega) (by omega)
            have hl : lv_has ls 7 [(4, .int v28), (0, .ref h0), (1, .int x), (2, .int y), (3, .int z)] := hl
            have hP := hP.sub (ws' := [((ma 28), .inl (cB, 6000, .inl fN)), ((ma 29), .inl (cI, 100, .inl fNS)), (h0, .inr (11, MO ma sv_thrown sv_length sv_nodes sv_many sv_directories sv_runsFrom sv_runs sv_read sv_wrong sv_isNamed sv_goes sv_goesSize sv_goesAt sv_targetParts sv_isRoot)), ((ma 16), .inl (cJ, 46080, .inr (.inl F)))]) [0, 1, 2, 3] rfl
            have hD := hD.sub (ws' := [((ma 28), .inl (cB, 6000, .inl fN)), ((ma 29), .inl (cI, 100, .inl fNS)), (h0, .inr (11, MO ma sv_thrown sv_length sv_nodes sv_many sv_directories sv_runsFrom sv_runs sv_read sv_wrong sv_isNamed sv_goes sv_goesSize sv_goesAt sv_targetParts sv_isRoot)), ((ma 16), .inl (cJ, 46080, .inr (.inl F)))]) [0, 1, 2, 3] (by decide +kernel) rfl
            have hl := lv_sub hl [1, 2, 3, 4, 0] rfl
            exact kk205 _ v28 _ _ _ rfl ((by (try dsimp only); first | assumption | omega | trivial)) hP hD hS hl
      · skip
        have g137_50 : ¬ r2.toInt ≤ 1 := fun h8 => h_9 ((i_le rfl (by decide)).mpr h8)
        refine lv_aload_n hx hb d_DiscMakerModel_plainName_140 rfl (lv_at hl 1 rfl) ?_
        refine lv_iload_n hx hb d_DiscMakerModel_plainName_141 rfl (lv_at hl 3 rfl) ?_
        refine lv_bipush (v := 33) hx hb d_DiscMakerModel_plainName_142 (by decide) ?_
        refine lv_iadd hx hb d_DiscMakerModel_plainName_144 ?_
        refine lv_topi (fun v29 e_v29 => ?_)
        have t_v29 : v29.toInt = y.toInt + 33 := by rw [e_v29]; exact i_add rfl (by decide) (by omega) (by omega)
        refine lv_iload hx hb d_DiscMakerModel_plainName_145 (lv_at hl 0 rfl) ?_
        refine lv_iadd hx hb d_DiscMakerModel_plainName_147 ?_
        refine lv_topi (fun v30 e_v30 => ?_)
        have t_v30 : v30.toInt = v29.toInt + r2.toInt := by rw [e_v30]; exact i_add rfl rfl (by omega) (by omega)
        refine lv_iconst (v := 2) hx hb d_DiscMakerModel_plainName_148 (by decide) ?_
        refine lv_isub hx hb d_DiscMakerModel_plainName_149 ?_
        refine lv_topi (fun v31 e_v31 => ?_)
        have t_v31 : v31.toInt = v30.toInt - 2 := by rw [e_v31]; exact i_sub rfl (by decide) (by omega) (by omega)
        have hPc := hP.sub (ws' := [(h0, .inr (11, MO ma sv_thrown sv_length sv_nodes sv_many sv_directories sv_runsFrom sv_runs sv_read sv_wrong sv_isNamed sv_goes sv_goesSize sv_goesAt sv_targetParts sv_isRoot)), ((ma 16), .inl (cJ, 46080, .inr (.inl F)))]) [2, 3] rfl
        have hDc := hD.sub (ws' := [(h0, .inr (11, MO ma sv_thrown sv_length sv_nodes sv_many sv_directories sv_runsFrom sv_runs sv_read sv_wrong sv_isNamed sv_goes sv_goesSize sv_goesAt sv_targetParts sv_isRoot)), ((ma 16), .inl (cJ, 46080, .inr (.inl F)))]) [2, 3] (by decide +kernel) rfl
        have hFc := va_free (wc := [(h0, .inr (11, MO ma sv_thrown sv_length sv_nodes sv_many sv_directories sv_runsFrom sv_runs sv_read sv_wrong sv_isNamed sv_goes sv_goesSize sv_goesAt sv_targetParts sv_isRoot)), ((ma 16), .inl (cJ, 46080, .inr (.inl F)))]) hD hS hA [2, 3] rfl
        have hkc : 0 ≤ 0 := by decide
        have hks : 0 ≤ 0 := by decide
        refine va_calli (va_runV (C := "DiscMakerModel") (As := [.int v31]) (rest := []) ⟨hx, hb, hml, hown, hts⟩ (m_at l D cB cI cJ cZ cN cF H.size h0 ma sv_thrown sv_length sv_nodes sv_many sv_directories sv_runsFrom sv_runs sv_read sv_wrong sv_isNamed sv_goes sv_goesSize sv_goesAt sv_targetParts sv_isRoot F v31 (by (try dsimp only); first | assumption | omega | trivial) (by (try dsimp only); first | assumption | omega | trivial)) (cwV 1 hts (lg_goodV k1809 k1811 k95 k125 kc_DiscMakerModel_at) rfl rfl rfl (by decide +kernel) ⟨Nat.le_of_ble_eq_true rfl, Nat.le_of_ble_eq_true rfl⟩) ⟨fun a U g mk q => by obtain ⟨q0, q1, qP, qK, qN, qD⟩ := q; exact ⟨q0, q1, qP, va_K.moved (u := U) (U := U.calling g mk a) (Vm.Alike.refl U.vm) qK, qN.calling, qD⟩, va_recv hK hP (ci := 11) (q0 := 2) rfl rfl, fun U hU hW => ⟨rfl, by rw [hU], by rw [hU]; exact hPc, va_K.moved hW.alike hK, NN.warm hW hN, hDc.weaken (fun _ _ _ _ => trivial)⟩⟩ rfl rfl hl.1 rfl (lv_room (Nat.le_of_ble_eq_true rfl)) d_DiscMakerModel_plainName_150 ⟨hkc, hks⟩) hS (fun q _ h => hFc q h) hFc (fun r32 u t H1 locs ht hvm hp_r32 hB hz1 hk1 hS => ?_)
        obtain ⟨hP1, hD1⟩ := hB
        rw [ht] at hP1
        obtain ⟨hP, hD⟩ := va_join (wr := [((ma 28), .inl (cB, 6000, .inl fN)), ((ma 29), .inl (cI, 100, .inl fNS))]) (w1 := [(h0, .inr (11, MO ma sv_thrown sv_length sv_nodes sv_many sv_directories sv_runsFrom sv_runs sv_read sv_wrong sv_isNamed sv_goes sv_goesSize sv_goesAt sv_targetParts sv_isRoot)), ((ma 16), .inl (cJ, 46080, .inr (.inl F)))]) hP hD [2, 3] [0, 1] rfl rfl (by decide +kernel) (by decide +kernel) hk1 hFc hP1 hD1
        clear hPc hDc hFc hP1 hD1 hk1 hz1 hkc hks
        generalize H1 = H at hP hS ⊢
        have hP : va_P D CL [((ma 28), .inl (cB, 6000, .inl fN)), ((ma 29), .inl (cI, 100, .inl fNS)), (h0, .inr (11, MO ma sv_thrown sv_length sv_nodes sv_many sv_directories sv_runsFrom sv_runs sv_read sv_wrong sv_isNamed sv_goes sv_goesSize sv_goesAt sv_targetParts sv_isRoot)), ((ma 16), .inl (cJ, 46080, .inr (.inl F)))] H := hP
        have hD : va_D A [((ma 28), .inl (cB, 6000, .inl fN)), ((ma 29), .inl (cI, 100, .inl fNS)), (h0, .inr (11, MO ma sv_thrown sv_length sv_nodes sv_many sv_directories sv_runsFrom sv_runs sv_read sv_wrong sv_isNamed sv_goes sv_goesSize sv_goesAt sv_targetParts sv_isRoot)), ((ma 16), .inl (cJ, 46080, .inr (.inl F)))] := hD
        try dsimp only at hp_r32
        obtain ⟨hr_33, hv_34, hw_35⟩ := hp_r32
        refine lv_bipush (v := 59) hx hb d_DiscMakerModel_plainName_153 (by decide) ?_
        refine lv_icmp_ne (tgt := 179) hx hb d_DiscMakerModel_plainName_155 (by decide) (fun h_9 => ?_) (fun h_9 => ?_)
        · skip
          have g155_78 : ¬ r32.toInt = 59 := fun h8 => h_9 ((i_eq rfl (by decide)).mpr h8)
          refine lv_iload hx hb d_DiscMakerModel_plainName_179 (lv_at hl 0 rfl) ?_
          refine lv_if_le (tgt := 205) hx hb d_DiscMakerModel_plainName_181 (by decide) (fun h_9 => ?_) (fun h_9 => ?_)
          · skip
            have g181_80 : r2.toInt ≤ 0 := (i_le rfl (by decide)).mp h_9
            have hP := hP.sub (ws' := [((ma 28), .inl (cB, 6000, .inl fN)), ((ma 29), .inl (cI, 100, .inl fNS)), (h0, .inr (11, MO ma sv_thrown sv_length sv_nodes sv_many sv_directories sv_runsFrom sv_runs sv_read sv_wrong sv_isNamed sv_goes sv_goesSize sv_goesAt sv_targetParts sv_isRoot)), ((ma 16), .inl (cJ, 46080, .inr (.inl F)))]) [0, 1, 2, 3] rfl
            have hD := hD.sub (ws' := [((ma 28), .inl (cB, 6000, .inl fN)), ((ma 29), .inl (cI, 100, .inl fNS)), (h0, .inr (11, MO ma sv_thrown sv_length sv_nodes sv_many sv_directories sv_runsFrom sv_runs sv_read sv_wrong sv_isNamed sv_goes sv_goesSize sv_goesAt sv_targetParts sv_isRoot)), ((ma 16), .inl (cJ, 46080, .inr (.inl F)))]) [0, 1, 2, 3] (by decide +kernel) rfl
            have hl := lv_sub hl [1, 2, 3, 4, 0] rfl
            exact kk205 _ r2 _ _ _ rfl ((by (try dsimp only); first | assumption | omega | trivial)) hP hD hS hl
          · skip
            have g181_80 : ¬ r2.toInt ≤ 0 := fun h8 => h_9 ((i_le rfl (by decide)).mpr h8)
            refine lv_aload_n hx hb d_DiscMakerModel_plainName_184 rfl (lv_at hl 1 rfl) ?_
            refine lv_iload_n hx hb d_DiscMakerModel_plainName_185 rfl (lv_at hl 3 rfl) ?_
            refine lv_bipush (v := 33) hx hb d_DiscMakerModel_plainName_186 (by decide) ?_
            refine lv_iadd hx hb d_DiscMakerModel_plainName_188 ?_
            refine lv_topi (fun v36 e_v36 => ?_)
            have t_v36 : v36.toInt = y.toInt + 33 := by rw [e_v36]; exact i_add rfl (by decide) (by omega) (by omega)
            refine lv_iload hx hb d_DiscMakerModel_plainName_189 (lv_at hl 0 rfl) ?_
            refine lv_iadd hx hb d_DiscMakerModel_plainName_191 ?_
            refine lv_topi (fun v37 e_v37 => ?_)
            have t_v37 : v37.toInt = v36.toInt + r2.toInt := by rw [e_v37]; exact i_add rfl rfl (by omega) (by omega)
            refine lv_iconst (v := 1) hx hb d_DiscMakerModel_plainName_192 (by decide) ?_
            refine lv_isub hx hb d_DiscMakerModel_plainName_193 ?_
            refine lv_topi (fun v38 e_v38 => ?_)
            have t_v38 : v38.toInt = v37.toInt - 1 := by rw [e_v38]; exact i_sub rfl (by decide) (by omega) (by omega)
            have hPc := hP.sub (ws' := [(h0, .inr (11, MO ma sv_thrown sv_length sv_nodes sv_many sv_directories sv_runsFrom sv_runs sv_read sv_wrong sv_isNamed sv_goes sv_goesSize sv_goesAt sv_targetParts sv_isRoot)), ((ma 16), .inl (cJ, 46080, .inr (.inl F)))]) [2, 3] rfl
            have hDc := hD.sub (ws' := [(h0, .inr (11, MO ma sv_thrown sv_length sv_nodes sv_many sv_directories sv_runsFrom sv_runs sv_read sv_wrong sv_isNamed sv_goes sv_goesSize sv_goesAt sv_targetParts sv_isRoot)), ((ma 16), .inl (cJ, 46080, .inr (.inl F)))]) [2, 3] (by decide +kernel) rfl
            have hFc := va_free (wc := [(h0, .inr (11, MO ma sv_thrown sv_length sv_nodes sv_many sv_directories sv_runsFrom sv_runs sv_read sv_wrong sv_isNamed sv_goes sv_goesSize sv_goesAt sv_targetParts sv_isRoot)), ((ma 16), .inl (cJ, 46080, .inr (.inl F)))]) hD hS hA [2, 3] rfl
            have hkc : 0 ≤ 0 := by decide
            have hks : 0 ≤ 0 := by decide
            refine va_calli (va_runV (C := "DiscMakerModel") (As := [.int v38]) (rest := []) ⟨hx, hb, hml, hown, hts⟩ (m_at l D cB cI cJ cZ cN cF H.size h0 ma sv_thrown sv_length sv_nodes sv_many sv_directories sv_runsFrom sv_runs sv_read sv_wrong sv_isNamed sv_goes sv_goesSize sv_goesAt sv_targetParts sv_isRoot F v38 (by (try dsimp only); first | assumption | omega | trivial) (by (try dsimp only); first | assumption | omega | trivial)) (cwV 1 hts (lg_goodV k1809 k1811 k95 k125 kc_DiscMakerModel_at) rfl rfl rfl (by decide +kernel) ⟨Nat.le_of_ble_eq_true rfl, Nat.le_of_ble_eq_true rfl⟩) ⟨fun a U g mk q => by obtain ⟨q0, q1, qP, qK, qN, qD⟩ := q; exact ⟨q0, q1, qP, va_K.moved (u := U) (U := U.calling g mk a) (Vm.Alike.refl U.vm) qK, qN.calling, qD⟩, va_recv hK hP (ci := 11) (q0 := 2) rfl rfl, fun U hU hW => ⟨rfl, by rw [hU], by rw [hU]; exact hPc, va_K.moved hW.alike hK, NN.warm hW hN, hDc.weaken (fun _ _ _ _ => trivial)⟩⟩ rfl rfl hl.1 rfl (lv_room (Nat.le_of_ble_eq_true rfl)) d_DiscMakerModel_plainName_194 ⟨hkc, hks⟩) hS (fun q _ h => hFc q h) hFc (fun r39 u t H1 locs ht hvm hp_r39 hB hz1 hk1 hS => ?_)
            obtain ⟨hP1, hD1⟩ := hB
            rw [ht] at hP1
            obtain ⟨hP, hD⟩ := va_join (wr := [((ma 28), .inl (cB, 6000, .inl fN)), ((ma 29), .inl (cI, 100, .inl fNS))]) (w1 := [(h0, .inr (11, MO ma sv_thrown sv_length sv_nodes sv_many sv_directories sv_runsFrom sv_runs sv_read sv_wrong sv_isNamed sv_goes sv_goesSize sv_goesAt sv_targetParts sv_isRoot)), ((ma 16), .inl (cJ, 46080, .inr (.inl F)))]) hP hD [2, 3] [0, 1] rfl rfl (by decide +kernel) (by decide +kernel) hk1 hFc hP1 hD1
            clear hPc hDc hFc hP1 hD1 hk1 hz1 hkc hks
            generalize H1 = H at hP hS ⊢
            have hP : va_P D CL [((ma 28), .inl (cB, 6000, .inl fN)), ((ma 29), .inl (cI, 100, .inl fNS)), (h0, .inr (11, MO ma sv_thrown sv_length sv_nodes sv_many sv_directories sv_runsFrom sv_runs sv_read sv_wrong sv_isNamed sv_goes sv_goesSize sv_goesAt sv_targetParts sv_isRoot)), ((ma 16), .inl (cJ, 46080, .inr (.inl F)))] H := hP
            have hD : va_D A [((ma 28), .inl (cB, 6000, .inl fN)), ((ma 29), .inl (cI, 100, .inl fNS)), (h0, .inr (11, MO ma sv_thrown sv_length sv_nodes sv_many sv_directories sv_runsFrom sv_runs sv_read sv_wrong sv_isNamed sv_goes sv_goesSize sv_goesAt sv_targetParts sv_isRoot)), ((ma 16), .inl (cJ, 46080, .inr (.inl F)))] := hD
            try dsimp only at hp_r39
            obtain ⟨hr_40, hv_41, hw_42⟩ := hp_r39
            refine lv_bipush (v := 46) hx hb d_DiscMakerModel_plainName_197 (by decide) ?_
            refine lv_icmp_ne (tgt := 205) hx hb d_DiscMakerModel_plainName_199 (by decide) (fun h_9 => ?_) (fun h_9 => ?_)
            · skip
              have g199_92 : ¬ r39.toInt = 46 := fun h8 => h_9 ((i_eq rfl (by decide)).mpr h8)
              have hP := hP.sub (ws' := [((ma 28), .inl (cB, 6000, .inl fN)), ((ma 29), .inl (cI, 100, .inl fNS)), (h0, .inr (11, MO ma sv_thrown sv_length sv_nodes sv_many sv_directories sv_runsFrom sv_runs sv_read sv_wrong sv_isNamed sv_goes sv_goesSize sv_goesAt sv_targetParts sv_isRoot)), ((ma 16), .inl (cJ, 46080, .inr (.inl F)))]) [0, 1, 2, 3] rfl
              have hD := hD.sub (ws' := [((ma 28), .inl (cB, 6000, .inl fN)), ((ma 29), .inl (cI, 100, .inl fNS)), (h0, .inr (11, MO ma sv_thrown sv_length sv_nodes sv_many sv_directories sv_runsFrom sv_runs sv_read sv_wrong sv_isNamed sv_goes sv_goesSize sv_goesAt sv_targetParts sv_isRoot)), ((ma 16), .inl (cJ, 46080, .inr (.inl F)))]) [0, 1, 2, 3] (by decide +kernel) rfl
              have hl := lv_sub hl [1, 2, 3, 4, 0] rfl
              exact kk205 _ r2 _ _ _ rfl ((by (try dsimp only); first | assumption | omega | trivial)) hP hD hS hl
            · skip
              have g199_92 : r39.toInt = 46 := (i_eq rfl (by decide)).mp h_9
              obtain ⟨v43, e_v43⟩ : ∃ z : Int32, z = r2 + (-1) := ⟨_, rfl⟩
              refine lv_iinc (v := v43) hx hb d_DiscMakerModel_plainName_202 hl (k := 0) rfl e_v43.symm (by decide +kernel) rfl (fun ls hl => ?_)
              have t_v43 : v43.toInt = r2.toInt + (-1) := by rw [e_v43]; exact i_add rfl (by decide) (by omega) (by omega)
              have hl : lv_has ls 7 [(4, .int v43), (0, .ref h0), (1, .int x), (2, .int y), (3, .int z)] := hl
              have hP := hP.sub (ws' := [((ma 28), .inl (cB, 6000, .inl fN)), ((ma 29), .inl (cI, 100, .inl fNS)), (h0, .inr (11, MO ma sv_thrown sv_length sv_nodes sv_many sv_directories sv_runsFrom sv_runs sv_read sv_wrong sv_isNamed sv_goes sv_goesSize sv_goesAt sv_targetParts sv_isRoot)), ((ma 16), .inl (cJ, 46080, .inr (.inl F)))]) [0, 1, 2, 3] rfl
              have hD := hD.sub (ws' := [((ma 28), .inl (cB, 6000, .inl fN)), ((ma 29), .inl (cI, 100, .inl fNS)), (h0, .inr (11, MO ma sv_thrown sv_length sv_nodes sv_many sv_directories sv_runsFrom sv_runs sv_read sv_wrong sv_isNamed sv_goes sv_goesSize sv_goesAt sv_targetParts sv_isRoot)), ((ma 16), .inl (cJ, 46080, .inr (.inl F)))]) [0, 1, 2, 3] (by decide +kernel) rfl
              have hl := lv_sub hl [1, 2, 3, 4, 0] rfl
              exact kk205 _ v43 _ _ _ rfl ((by (try dsimp only); first | assumption | omega | trivial)) hP hD hS hl
        · skip
          have g155_78 : r32.toInt = 59 := (i_eq rfl (by decide)).mp h_9
          refine lv_aload_n hx hb d_DiscMakerModel_plainName_158 rfl (lv_at hl 1 rfl) ?_
          refine lv_iload_n hx hb d_DiscMakerModel_plainName_159 rfl (lv_at hl 3 rfl) ?_
          refine lv_bipush (v := 33) hx hb d_DiscMakerModel_plainName_160 (by decide) ?_
          refine lv_iadd hx hb d_DiscMakerModel_plainName_162 ?_
          refine lv_topi (fun v44 e_v44 => ?_)
          have t_v44 : v44.toInt = y.toInt + 33 := by rw [e_v44]; exact i_add rfl (by decide) (by omega) (by omega)
          refine lv_iload hx hb d_DiscMakerModel_plainName_163 (lv_at hl 0 rfl) ?_
          refine lv_iadd hx hb d_DiscMakerModel_plainName_165 ?_
          refine lv_topi (fun v45 e_v45 => ?_)
          have t_v45 : v45.toInt = v44.toInt + r2.toInt := by rw [e_v45]; exact i_add rfl rfl (by omega) (by omega)
          refine lv_iconst (v := 1) hx hb d_DiscMakerModel_plainName_166 (by decide) ?_
          refine lv_isub hx hb d_DiscMakerModel_plainName_167 ?_
          refine lv_topi (fun v46 e_v46 => ?_)
          have t_v46 : v46.toInt = v45.toInt - 1 := by rw [e_v46]; exact i_sub rfl (by decide) (by omega) (by omega)
          have hPc := hP.sub (ws' := [(h0, .inr (11, MO ma sv_thrown sv_length sv_nodes sv_many sv_directories sv_runsFrom sv_runs sv_read sv_wrong sv_isNamed sv_goes sv_goesSize sv_goesAt sv_targetParts sv_isRoot)), ((ma 16), .inl (cJ, 46080, .inr (.inl F)))]) [2, 3] rfl
          have hDc := hD.sub (ws' := [(h0, .inr (11, MO ma sv_thrown sv_length sv_nodes sv_many sv_directories sv_runsFrom sv_runs sv_read sv_wrong sv_isNamed sv_goes sv_goesSize sv_goesAt sv_targetParts sv_isRoot)), ((ma 16), .inl (cJ, 46080, .inr (.inl F)))]) [2, 3] (by decide +kernel) rfl
          have hFc := va_free (wc := [(h0, .inr (11, MO ma sv_thrown sv_length sv_nodes sv_many sv_directories sv_runsFrom sv_runs sv_read sv_wrong sv_isNamed sv_goes sv_goesSize sv_goesAt sv_targetParts sv_isRoot)), ((ma 16), .inl (cJ, 46080, .inr (.inl F)))]) hD hS hA [2, 3] rfl
          have hkc : 0 ≤ 0 := by decide
          have hks : 0 ≤ 0 := by decide
          refine va_calli (va_runV (C := "DiscMakerModel") (As := [.int v46]) (rest := []) ⟨hx, hb, hml, hown, hts⟩ (m_at l D cB cI cJ cZ cN cF H.size h0 ma sv_thrown sv_length sv_nodes sv_many sv_directories sv_runsFrom sv_runs sv_read sv_wrong sv_isNamed sv_goes sv_goesSize sv_goesAt sv_targetParts sv_isRoot F v46 (by (try dsimp only); first | assumption | omega | trivial) (by (try dsimp only); first | assumption | omega | trivial)) (cwV 1 hts (lg_goodV k1809 k1811 k95 k125 kc_DiscMakerModel_at) rfl rfl rfl (by decide +kernel) ⟨Nat.le_of_ble_eq_true rfl, Nat.le_of_ble_eq_true rfl⟩) ⟨fun a U g mk q => by obtain ⟨q0, q1, qP, qK, qN, qD⟩ := q; exact ⟨q0, q1, qP, va_K.moved (u := U) (U := U.calling g mk a) (Vm.Alike.refl U.vm) qK, qN.calling, qD⟩, va_recv hK hP (ci := 11) (q0 := 2) rfl rfl, fun U hU hW => ⟨rfl, by rw [hU], by rw [hU]; exact hPc, va_K.moved hW.alike hK, NN.warm hW hN, hDc.weaken (fun _ _ _ _ => trivial)⟩⟩ rfl rfl hl.1 rfl (lv_room (Nat.le_of_ble_eq_true rfl)) d_DiscMakerModel_plainName_168 ⟨hkc, hks⟩) hS (fun q _ h => hFc q h) hFc (fun r47 u t H1 locs ht hvm hp_r47 hB hz1 hk1 hS => ?_)
          obtain ⟨hP1, hD1⟩ := hB
          rw [ht] at hP1
          obtain ⟨hP, hD⟩ := va_join (wr := [((ma 28), .inl (cB, 6000, .inl fN)), ((ma 29), .inl (cI, 100, .inl fNS))]) (w1 := [(h0, .inr (11, MO ma sv_thrown sv_length sv_nodes sv_many sv_directories sv_runsFrom sv_runs sv_read sv_wrong sv_isNamed sv_goes sv_goesSize sv_goesAt sv_targetParts sv_isRoot)), ((ma 16), .inl (cJ, 46080, .inr (.inl F)))]) hP hD [2, 3] [0, 1] rfl rfl (by decide +kernel) (by decide +kernel) hk1 hFc hP1 hD1
          clear hPc hDc hFc hP1 hD1 hk1 hz1 hkc hks
          generalize H1 = H at hP hS ⊢
          have hP : va_P D CL [((ma 28), .inl (cB, 6000, .inl fN)), ((ma 29), .inl (cI, 100, .inl fNS)), (h0, .inr (11, MO ma sv_thrown sv_length sv_nodes sv_many sv_directories sv_runsFrom sv_runs sv_read sv_wrong sv_isNamed sv_goes sv_goesSize sv_goesAt sv_targetParts sv_isRoot)), ((ma 16), .inl (cJ, 46080, .inr (.inl F)))] H := hP
          have hD : va_D A [((ma 28), .inl (cB, 6000, .inl fN)), ((ma 29), .inl (cI, 100, .inl fNS)), (h0, .inr (11, MO ma sv_thrown sv_length sv_nodes sv_many sv_directories sv_runsFrom sv_runs sv_read sv_wrong sv_isNamed sv_goes sv_goesSize sv_goesAt sv_targetParts sv_isRoot)), ((ma 16), .inl (cJ, 46080, .inr (.inl F)))] := hD
          try dsimp only at hp_r47
          obtain ⟨hr_48, hv_49, hw_50⟩ := hp_r47
          refine lv_bipush (v := 49) hx hb d_DiscMakerModel_plainName_171 (by decide) ?_
          refine lv_icmp_ne (tgt := 179) hx hb d_DiscMakerModel_plainName_173 (by decide) (fun h_9 => ?_) (fun h_9 => ?_)
          · skip
            have g173_106 : ¬ r47.toInt = 49 := fun h8 => h_9 ((i_eq rfl (by decide)).mpr h8)
            refine lv_iload hx hb d_DiscMakerModel_plainName_179 (lv_at hl 0 rfl) ?_
            refine lv_if_le (tgt := 205) hx hb d_DiscMakerModel_plainName_181 (by decide) (fun h_9 => ?_) (fun h_9 => ?_)
            · skip
              have g181_108 : r2.toInt ≤ 0 := (i_le rfl (by decide)).mp h_9
              have hP := hP.sub (ws' := [((ma 28), .inl (cB, 6000, .inl fN)), ((ma 29), .inl (cI, 100, .inl fNS)), (h0, .inr (11, MO ma sv_thrown sv_length sv_nodes sv_many sv_directories sv_runsFrom sv_runs sv_read sv_wrong sv_isNamed sv_goes sv_goesSize sv_goesAt sv_targetParts sv_isRoot)), ((ma 16), .inl (cJ, 46080, .inr (.inl F)))]) [0, 1, 2, 3] rfl
              have hD := hD.sub (ws' := [((ma 28), .inl (cB, 6000, .inl fN)), ((ma 29), .inl (cI, 100, .inl fNS)), (h0, .inr (11, MO ma sv_thrown sv_length sv_nodes sv_many sv_directories sv_runsFrom sv_runs sv_read sv_wrong sv_isNamed sv_goes sv_goesSize sv_goesAt sv_targetParts sv_isRoot)), ((ma 16), .inl (cJ, 46080, .inr (.inl F)))]) [0, 1, 2, 3] (by decide +kernel) rfl
              have hl := lv_sub hl [1, 2, 3, 4, 0] rfl
              exact kk205 _ r2 _ _ _ rfl ((by (try dsimp only); first | assumption | omega | trivial)) hP hD hS hl
            · skip
              have g181_108 : ¬ r2.toInt ≤ 0 := fun h8 => h_9 ((i_le rfl (by decide)).mpr h8)
              refine lv_aload_n hx hb d_DiscMakerModel_plainName_184 rfl (lv_at hl 1 rfl) ?_
              refine lv_iload_n hx hb d_DiscMakerModel_plainName_185 rfl (lv_at hl 3 rfl) ?_
              refine lv_bipush (v := 33) hx hb d_DiscMakerModel_plainName_186 (by decide) ?_
              refine lv_iadd hx hb d_DiscMakerModel_plainName_188 ?_
              refine lv_topi (fun v51 e_v51 => ?_)
              have t_v51 : v51.toInt = y.toInt + 33 := by rw [e_v51]; exact i_add rfl (by decide) (by omega) (by omega)
              refine lv_iload hx hb d_DiscMakerModel_plainName_189 (lv_at hl 0 rfl) ?_
              refine lv_iadd hx hb d_DiscMakerModel_plainName_191 ?_
              refine lv_topi (fun v52 e_v52 => ?_)
              have t_v52 : v52.toInt = v51.toInt + r2.toInt := by rw [e_v52]; exact i_add rfl rfl (by omega) (by omega)
              refine lv_iconst (v := 1) hx hb d_DiscMakerModel_plainName_192 (by decide) ?_
              refine lv_isub hx hb d_DiscMakerModel_plainName_193 ?_
              refine lv_topi (fun v53 e_v53 => ?_)
              have t_v53 : v53.toInt = v52.toInt - 1 := by rw [e_v53]; exact i_sub rfl (by decide) (by omega) (by omega)
              have hPc := hP.sub (ws' := [(h0, .inr (11, MO ma sv_thrown sv_length sv_nodes sv_many sv_directories sv_runsFrom sv_runs sv_read sv_wrong sv_isNamed sv_goes sv_goesSize sv_goesAt sv_targetParts sv_isRoot)), ((ma 16), .inl (cJ, 46080, .inr (.inl F)))]) [2, 3] rfl
              have hDc := hD.sub (ws' := [(h0, .inr (11, MO ma sv_thrown sv_length sv_nodes sv_many sv_directories sv_runsFrom sv_runs sv_read sv_wrong sv_isNamed sv_goes sv_goesSize sv_goesAt sv_targetParts sv_isRoot)), ((ma 16), .inl (cJ, 46080, .inr (.inl F)))]) [2, 3] (by decide +kernel) rfl
              have hFc := va_free (wc := [(h0, .inr (11, MO ma sv_thrown sv_length sv_nodes sv_many sv_directories sv_runsFrom sv_runs sv_read sv_wrong sv_isNamed sv_goes sv_goesSize sv_goesAt sv_targetParts sv_isRoot)), ((ma 16), .inl (cJ, 46080, .inr (.inl F)))]) hD hS hA [2, 3] rfl
              have hkc : 0 ≤ 0 := by decide
              have hks : 0 ≤ 0 := by decide
              refine va_calli (va_runV (C := "DiscMakerModel") (As := [.int v53]) (rest := []) ⟨hx, hb, hml, hown, hts⟩ (m_at l D cB cI cJ cZ cN cF H.size h0 ma sv_thrown sv_length sv_nodes sv_many sv_directories sv_runsFrom sv_runs sv_read sv_wrong sv_isNamed sv_goes sv_goesSize sv_goesAt sv_targetParts sv_isRoot F v53 (by (try dsimp only); first | assumption | omega | trivial) (by (try dsimp only); first | assumption | omega | trivial)) (cwV 1 hts (lg_goodV k1809 k1811 k95 k125 kc_DiscMakerModel_at) rfl rfl rfl (by decide +kernel) ⟨Nat.le_of_ble_eq_true rfl, Nat.le_of_ble_eq_true rfl⟩) ⟨fun a U g mk q => by obtain ⟨q0, q1, qP, qK, qN, qD⟩ := q; exact ⟨q0, q1, qP, va_K.moved (u := U) (U := U.calling g mk a) (Vm.Alike.refl U.vm) qK, qN.calling, qD⟩, va_recv hK hP (ci := 11) (q0 := 2) rfl rfl, fun U hU hW => ⟨rfl, by rw [hU], by rw [hU]; exact hPc, va_K.moved hW.alike hK, NN.warm hW hN, hDc.weaken (fun _ _ _ _ => trivial)⟩⟩ rfl rfl hl.1 rfl (lv_room (Nat.le_of_ble_eq_true rfl)) d_DiscMakerModel_plainName_194 ⟨hkc, hks⟩) hS (fun q _ h => hFc q h) hFc (fun r54 u t H1 locs ht hvm hp_r54 hB hz1 hk1 hS => ?_)
              obtain ⟨hP1, hD1⟩ := hB
              rw [ht] at hP1
              obtain ⟨hP, hD⟩ := va_join (wr := [((ma 28), .inl (cB, 6000, .inl fN)), ((ma 29), .inl (cI, 100, .inl fNS))]) (w1 := [(h0, .inr (11, MO ma sv_thrown sv_length sv_nodes sv_many sv_directories sv_runsFrom sv_runs sv_read sv_wrong sv_isNamed sv_goes sv_goesSize sv_goesAt sv_targetParts sv_isRoot)), ((ma 16), .inl (cJ, 46080, .inr (.inl F)))]) hP hD [2, 3] [0, 1] rfl rfl (by decide +kernel) (by decide +kernel) hk1 hFc hP1 hD1
              clear hPc hDc hFc hP1 hD1 hk1 hz1 hkc hks
              generalize H1 = H at hP hS ⊢
              have hP : va_P D CL [((ma 28), .inl (cB, 6000, .inl fN)), ((ma 29), .inl (cI, 100, .inl fNS)), (h0, .inr (11, MO ma sv_thrown sv_length sv_nodes sv_many sv_directories sv_runsFrom sv_runs sv_read sv_wrong sv_isNamed sv_goes sv_goesSize sv_goesAt sv_targetParts sv_isRoot)), ((ma 16), .inl (cJ, 46080, .inr (.inl F)))] H := hP
              have hD : va_D A [((ma 28), .inl (cB, 6000, .inl fN)), ((ma 29), .inl (cI, 100, .inl fNS)), (h0, .inr (11, MO ma sv_thrown sv_length sv_nodes sv_many sv_directories sv_runsFrom sv_runs sv_read sv_wrong sv_isNamed sv_goes sv_goesSize sv_goesAt sv_targetParts sv_isRoot)), ((ma 16), .inl (cJ, 46080, .inr (.inl F)))] := hD
              try dsimp only at hp_r54
              obtain ⟨hr_55, hv_56, hw_57⟩ := hp_r54
              refine lv_bipush (v := 46) hx hb d_DiscMakerModel_plainName_197 (by decide) ?_
              refine lv_icmp_ne (tgt := 205) hx hb d_DiscMakerModel_plainName_199 (by decide) (fun h_9 => ?_) (fun h_9 => ?_)
              · skip
                have g199_120 : ¬ r54.toInt = 46 := fun h8 => h_9 ((i_eq rfl (by decide)).mpr h8)
                have hP := hP.sub (ws' := [((ma 28), .inl (cB, 6000, .inl fN)), ((ma 29), .inl (cI, 100, .inl fNS)), (h0, .inr (11, MO ma sv_thrown sv_length sv_nodes sv_many sv_directories sv_runsFrom sv_runs sv_read sv_wrong sv_isNamed sv_goes sv_goesSize sv_goesAt sv_targetParts sv_isRoot)), ((ma 16), .inl (cJ, 46080, .inr (.inl F)))]) [0, 1, 2, 3] rfl
                have hD := hD.sub (ws' := [((ma 28), .inl (cB, 6000, .inl fN)), ((ma 29), .inl (cI, 100, .inl fNS)), (h0, .inr (11, MO ma sv_thrown sv_length sv_nodes sv_many sv_directories sv_runsFrom sv_runs sv_read sv_wrong sv_isNamed sv_goes sv_goesSize sv_goesAt sv_targetParts sv_isRoot)), ((ma 16), .inl (cJ, 46080, .inr (.inl F)))]) [0, 1, 2, 3] (by decide +kernel) rfl
                have hl := lv_sub hl [1, 2, 3, 4, 0] rfl
                exact kk205 _ r2 _ _ _ rfl ((by (try dsimp only); first | assumption | omega | trivial)) hP hD hS hl
              · skip
                have g199_120 : r54.toInt = 46 := (i_eq rfl (by decide)).mp h_9
                obtain ⟨v58, e_v58⟩ : ∃ z : Int32, z = r2 + (-1) := ⟨_, rfl⟩
                refine lv_iinc (v := v58) hx hb d_DiscMakerModel_plainName_202 hl (k := 0) rfl e_v58.symm (by decide +kernel) rfl (fun ls hl => ?_)
                have t_v58 : v58.toInt = r2.toInt + (-1) := by rw [e_v58]; exact i_add rfl (by decide) (by omega) (by omega)
                have hl : lv_has ls 7 [(4, .int v58), (0, .ref h0), (1, .int x), (2, .int y), (3, .int z)] := hl
                have hP := hP.sub (ws' := [((ma 28), .inl (cB, 6000, .inl fN)), ((ma 29), .inl (cI, 100, .inl fNS)), (h0, .inr (11, MO ma sv_thrown sv_length sv_nodes sv_many sv_directories sv_runsFrom sv_runs sv_read sv_wrong sv_isNamed sv_goes sv_goesSize sv_goesAt sv_targetParts sv_isRoot)), ((ma 16), .inl (cJ, 46080, .inr (.inl F)))]) [0, 1, 2, 3] rfl
                have hD := hD.sub (ws' := [((ma 28), .inl (cB, 6000, .inl fN)), ((ma 29), .inl (cI, 100, .inl fNS)), (h0, .inr (11, MO ma sv_thrown sv_length sv_nodes sv_many sv_directories sv_runsFrom sv_runs sv_read sv_wrong sv_isNamed sv_goes sv_goesSize sv_goesAt sv_targetParts sv_isRoot)), ((ma 16), .inl (cJ, 46080, .inr (.inl F)))]) [0, 1, 2, 3] (by decide +kernel) rfl
                have hl := lv_sub hl [1, 2, 3, 4, 0] rfl
                exact kk205 _ v58 _ _ _ rfl ((by (try dsimp only); first | assumption | omega | trivial)) hP hD hS hl
          · skip
            have g173_106 : r47.toInt = 49 := (i_eq rfl (by decide)).mp h_9
            obtain ⟨v59, e_v59⟩ : ∃ z : Int32, z = r2 + (-2) := ⟨_, rfl⟩
            refine lv_iinc (v := v59) hx hb d_DiscMakerModel_plainName_176 hl (k := 0) rfl e_v59.symm (by decide +kernel) rfl (fun ls hl => ?_)
            have t_v59 : v59.toInt = r2.toInt + (-2) := by rw [e_v59]; exact i_add rfl (by decide) (by omega) (by omega)
            have hl : lv_has ls 7 [(4, .int v59), (0, .ref h0), (1, .int x), (2, .int y), (3, .int z)] := hl
            refine lv_iload hx hb d_DiscMakerModel_plainName_179 (lv_at hl 0 rfl) ?_
            refine lv_if_le (tgt := 205) hx hb d_DiscMakerModel_plainName_181 (by decide) (fun h_9 => ?_) (fun h_9 => ?_)
            · skip
              have g181_126 : v59.toInt ≤ 0 := (i_le rfl (by decide)).mp h_9
              have hP := hP.sub (ws' := [((ma 28), .inl (cB, 6000, .inl fN)), ((ma 29), .inl (cI, 100, .inl fNS)), (h0, .inr (11, MO ma sv_thrown sv_length sv_nodes sv_many sv_directories sv_runsFrom sv_runs sv_read sv_wrong sv_isNamed sv_goes sv_goesSize sv_goesAt sv_targetParts sv_isRoot)), ((ma 16), .inl (cJ, 46080, .inr (.inl F)))]) [0, 1, 2, 3] rfl
              have hD := hD.sub (ws' := [((ma 28), .inl (cB, 6000, .inl fN)), ((ma 29), .inl (cI, 100, .inl fNS)), (h0, .inr (11, MO ma sv_thrown sv_length sv_nodes sv_many sv_directories sv_runsFrom sv_runs sv_read sv_wrong sv_isNamed sv_goes sv_goesSize sv_goesAt sv_targetParts sv_isRoot)), ((ma 16), .inl (cJ, 46080, .inr (.inl F)))]) [0, 1, 2, 3] (by decide +kernel) rfl
              have hl := lv_sub hl [1, 2, 3, 4, 0] rfl
              exact kk205 _ v59 _ _ _ rfl ((by (try dsimp only); first | assumption | omega | trivial)) hP hD hS hl
            · skip
              have g181_126 : ¬ v59.toInt ≤ 0 := fun h8 => h_9 ((i_le rfl (by decide)).mpr h8)
              refine lv_aload_n hx hb d_DiscMakerModel_plainName_184 rfl (lv_at hl 1 rfl) ?_
              refine lv_iload_n hx hb d_DiscMakerModel_plainName_185 rfl (lv_at hl 3 rfl) ?_
              refine lv_bipush (v := 33) hx hb d_DiscMakerModel_plainName_186 (by decide) ?_
              refine lv_iadd hx hb d_DiscMakerModel_plainName_188 ?_
              refine lv_topi (fun v60 e_v60 => ?_)
              have t_v60 : v60.toInt = y.toInt + 33 := by rw [e_v60]; exact i_add rfl (by decide) (by omega) (by omega)
              refine lv_iload hx hb d_DiscMakerModel_plainName_189 (lv_at hl 0 rfl) ?_
              refine lv_iadd hx hb d_DiscMakerModel_plainName_191 ?_
              refine lv_topi (fun v61 e_v61 => ?_)
              have t_v61 : v61.toInt = v60.toInt + v59.toInt := by rw [e_v61]; exact i_add rfl rfl (by omega) (by omega)
              refine lv_iconst (v := 1) hx hb d_DiscMakerModel_plainName_192 (by decide) ?_
              refine lv_isub hx hb d_DiscMakerModel_plainName_193 ?_
              refine lv_topi (fun v62 e_v62 => ?_)
              have t_v62 : v62.toInt = v61.toInt - 1 := by rw [e_v62]; exact i_sub rfl (by decide) (by omega) (by omega)
              have hPc := hP.sub (ws' := [(h0, .inr (11, MO ma sv_thrown sv_length sv_nodes sv_many sv_directories sv_runsFrom sv_runs sv_read sv_wrong sv_isNamed sv_goes sv_goesSize sv_goesAt sv_targetParts sv_isRoot)), ((ma 16), .inl (cJ, 46080, .inr (.inl F)))]) [2, 3] rfl
              have hDc := hD.sub (ws' := [(h0, .inr (11, MO ma sv_thrown sv_length sv_nodes sv_many sv_directories sv_runsFrom sv_runs sv_read sv_wrong sv_isNamed sv_goes sv_goesSize sv_goesAt sv_targetParts sv_isRoot)), ((ma 16), .inl (cJ, 46080, .inr (.inl F)))]) [2, 3] (by decide +kernel) rfl
              have hFc := va_free (wc := [(h0, .inr (11, MO ma sv_thrown sv_length sv_nodes sv_many sv_directories sv_runsFrom sv_runs sv_read sv_wrong sv_isNamed sv_goes sv_goesSize sv_goesAt sv_targetParts sv_isRoot)), ((ma 16), .inl (cJ, 46080, .inr (.inl F)))]) hD hS hA [2, 3] rfl
              have hkc : 0 ≤ 0 := by decide
              have hks : 0 ≤ 0 := by decide
              refine va_calli (va_runV (C := "DiscMakerModel") (As := [.int v62]) (rest := []) ⟨hx, hb, hml, hown, hts⟩ (m_at l D cB cI cJ cZ cN cF H.size h0 ma sv_thrown sv_length sv_nodes sv_many sv_directories sv_runsFrom sv_runs sv_read sv_wrong sv_isNamed sv_goes sv_goesSize sv_goesAt sv_targetParts sv_isRoot F v62 (by (try dsimp only); first | assumption | omega | trivial) (by (try dsimp only); first | assumption | omega | trivial)) (cwV 1 hts (lg_goodV k1809 k1811 k95 k125 kc_DiscMakerModel_at) rfl rfl rfl (by decide +kernel) ⟨Nat.le_of_ble_eq_true rfl, Nat.le_of_ble_eq_true rfl⟩) ⟨fun a U g mk q => by obtain ⟨q0, q1, qP, qK, qN, qD⟩ := q; exact ⟨q0, q1, qP, va_K.moved (u := U) (U := U.calling g mk a) (Vm.Alike.refl U.vm) qK, qN.calling, qD⟩, va_recv hK hP (ci := 11) (q0 := 2) rfl rfl, fun U hU hW => ⟨rfl, by rw [hU], by rw [hU]; exact hPc, va_K.moved hW.alike hK, NN.warm hW hN, hDc.weaken (fun _ _ _ _ => trivial)⟩⟩ rfl rfl hl.1 rfl (lv_room (Nat.le_of_ble_eq_true rfl)) d_DiscMakerModel_plainName_194 ⟨hkc, hks⟩) hS (fun q _ h => hFc q h) hFc (fun r63 u t H1 locs ht hvm hp_r63 hB hz1 hk1 hS => ?_)
              obtain ⟨hP1, hD1⟩ := hB
              rw [ht] at hP1
              obtain ⟨hP, hD⟩ := va_join (wr := [((ma 28), .inl (cB, 6000, .inl fN)), ((ma 29), .inl (cI, 100, .inl fNS))]) (w1 := [(h0, .inr (11, MO ma sv_thrown sv_length sv_nodes sv_many sv_directories sv_runsFrom sv_runs sv_read sv_wrong sv_isNamed sv_goes sv_goesSize sv_goesAt sv_targetParts sv_isRoot)), ((ma 16), .inl (cJ, 46080, .inr (.inl F)))]) hP hD [2, 3] [0, 1] rfl rfl (by decide +kernel) (by decide +kernel) hk1 hFc hP1 hD1
              clear hPc hDc hFc hP1 hD1 hk1 hz1 hkc hks
              generalize H1 = H at hP hS ⊢
              have hP : va_P D CL [((ma 28), .inl (cB, 6000, .inl fN)), ((ma 29), .inl (cI, 100, .inl fNS)), (h0, .inr (11, MO ma sv_thrown sv_length sv_nodes sv_many sv_directories sv_runsFrom sv_runs sv_read sv_wrong sv_isNamed sv_goes sv_goesSize sv_goesAt sv_targetParts sv_isRoot)), ((ma 16), .inl (cJ, 46080, .inr (.inl F)))] H := hP
              have hD : va_D A [((ma 28), .inl (cB, 6000, .inl fN)), ((ma 29), .inl (cI, 100, .inl fNS)), (h0, .inr (11, MO ma sv_thrown sv_length sv_nodes sv_many sv_directories sv_runsFrom sv_runs sv_read sv_wrong sv_isNamed sv_goes sv_goesSize sv_goesAt sv_targetParts sv_isRoot)), ((ma 16), .inl (cJ, 46080, .inr (.inl F)))] := hD
              try dsimp only at hp_r63
              obtain ⟨hr_64, hv_65, hw_66⟩ := hp_r63
              refine lv_bipush (v := 46) hx hb d_DiscMakerModel_plainName_197 (by decide) ?_
              refine lv_icmp_ne (tgt := 205) hx hb d_DiscMakerModel_plainName_199 (by decide) (fun h_9 => ?_) (fun h_9 => ?_)
              · skip
                have g199_138 : ¬ r63.toInt = 46 := fun h8 => h_9 ((i_eq rfl (by decide)).mpr h8)
                have hP := hP.sub (ws' := [((ma 28), .inl (cB, 6000, .inl fN)), ((ma 29), .inl (cI, 100, .inl fNS)), (h0, .inr (11, MO ma sv_thrown sv_length sv_nodes sv_many sv_directories sv_runsFrom sv_runs sv_read sv_wrong sv_isNamed sv_goes sv_goesSize sv_goesAt sv_targetParts sv_isRoot)), ((ma 16), .inl (cJ, 46080, .inr (.inl F)))]) [0, 1, 2, 3] rfl
                have hD := hD.sub (ws' := [((ma 28), .inl (cB, 6000, .inl fN)), ((ma 29), .inl (cI, 100, .inl fNS)), (h0, .inr (11, MO ma sv_thrown sv_length sv_nodes sv_many sv_directories sv_runsFrom sv_runs sv_read sv_wrong sv_isNamed sv_goes sv_goesSize sv_goesAt sv_targetParts sv_isRoot)), ((ma 16), .inl (cJ, 46080, .inr (.inl F)))]) [0, 1, 2, 3] (by decide +kernel) rfl
                have hl := lv_sub hl [1, 2, 3, 4, 0] rfl
                exact kk205 _ v59 _ _ _ rfl ((by (try dsimp only); first | assumption | omega | trivial)) hP hD hS hl
              · skip
                have g199_138 : r63.toInt = 46 := (i_eq rfl (by decide)).mp h_9
                obtain ⟨v67, e_v67⟩ : ∃ z : Int32, z = v59 + (-1) := ⟨_, rfl⟩
                refine lv_iinc (v := v67) hx hb d_DiscMakerModel_plainName_202 hl (k := 0) rfl e_v67.symm (by decide +kernel) rfl (fun ls hl => ?_)
                have t_v67 : v67.toInt = v59.toInt + (-1) := by rw [e_v67]; exact i_add rfl (by decide) (by omega) (by omega)
                have hl : lv_has ls 7 [(4, .int v67), (0, .ref h0), (1, .int x), (2, .int y), (3, .int z)] := hl
                have hP := hP.sub (ws' := [((ma 28), .inl (cB, 6000, .inl fN)), ((ma 29), .inl (cI, 100, .inl fNS)), (h0, .inr (11, MO ma sv_thrown sv_length sv_nodes sv_many sv_directories sv_runsFrom sv_runs sv_read sv_wrong sv_isNamed sv_goes sv_goesSize sv_goesAt sv_targetParts sv_isRoot)), ((ma 16), .inl (cJ, 46080, .inr (.inl F)))]) [0, 1, 2, 3] rfl
                have hD := hD.sub (ws' := [((ma 28), .inl (cB, 6000, .inl fN)), ((ma 29), .inl (cI, 100, .inl fNS)), (h0, .inr (11, MO ma sv_thrown sv_length sv_nodes sv_many sv_directories sv_runsFrom sv_runs sv_read sv_wrong sv_isNamed sv_goes sv_goesSize sv_goesAt sv_targetParts sv_isRoot)), ((ma 16), .inl (cJ, 46080, .inr (.inl F)))]) [0, 1, 2, 3] (by decide +kernel) rfl
                have hl := lv_sub hl [1, 2, 3, 4, 0] rfl
                exact kk205 _ v67 _ _ _ rfl ((by (try dsimp only); first | assumption | omega | trivial)) hP hD hS hl
  · skip
    have g12_9 : z.toInt = 1 := (i_eq rfl (by decide)).mp h_9
    refine lv_iload hx hb d_DiscMakerModel_plainName_15 (lv_at hl 0 rfl) ?_
    refine lv_iconst (v := 2) hx hb d_DiscMakerModel_plainName_17 (by decide) ?_
    refine lv_irem hx hb d_DiscMakerModel_plainName_18 (by decide) ?_
    refine lv_topi (fun v68 e_v68 => ?_)
    have t_v68 : v68.toInt = r2.toInt % 2 := by rw [e_v68]; exact i_rem rfl (by decide) (by omega) (by omega)
    refine lv_iconst (v := 1) hx hb d_DiscMakerModel_plainName_19 (by decide) ?_
    refine lv_icmp_ne (tgt := 29) hx hb d_DiscMakerModel_plainName_20 (by decide) (fun h_9 => ?_) (fun h_9 => ?_)
    · skip
      have g20_146 : ¬ v68.toInt = 1 := fun h8 => h_9 ((i_eq rfl (by decide)).mpr h8)
      refine lv_iconst (v := 0) hx hb d_DiscMakerModel_plainName_29 (by decide) ?_
      refine lv_istore hx hb d_DiscMakerModel_plainName_30 hl (by decide) rfl (fun ls hl => ?_)
      have hl : lv_has ls 7 [(5, .int 0), (4, .int r2), (0, .ref h0), (1, .int x), (2, .int y), (3, .int z)] := hl
      refine zz_labM (B := fun (lk : Nat) (K : Heap → List Loc → Array Slot → List Value → Prop) => ∀ (kx : Int32) (lN : Nat → Int32) (H : Heap) (locs : List Loc) (ls : Array Slot), lk = (61 - kx.toInt).toNat → (0 ≤ kx.toInt ∧ kx.toInt ≤ 60) → va_P D CL [((ma 28), .inl (cB, 6000, .inl lN)), ((ma 29), .inl (cI, 100, .inl fNS)), (h0, .inr (11, MO ma sv_thrown sv_length sv_nodes sv_many sv_directories sv_runsFrom sv_runs sv_read sv_wrong sv_isNamed sv_goes sv_goesSize sv_goesAt sv_targetParts sv_isRoot)), ((ma 16), .inl (cJ, 46080, .inr (.inl F)))] H → va_D A [((ma 28), .inl (cB, 6000, .inl lN)), ((ma 29), .inl (cI, 100, .inl fNS)), (h0, .inr (11, MO ma sv_thrown sv_length sv_nodes sv_many sv_directories sv_runsFrom sv_runs sv_read sv_wrong sv_isNamed sv_goes sv_goesSize sv_goesAt sv_targetParts sv_isRoot)), ((ma 16), .inl (cJ, 46080, .inr (.inl F)))] → va_S A s.heap H locs → lv_has ls 7 [(0, .ref h0), (1, .int x), (2, .int y), (3, .int z), (4, .int r2), (5, .int kx)] → K H locs ls []) 32 ?_ ?_
      · skip
        intro lk ih32 kx lN H locs ls hm32 f1 hP hD hS hl
        refine lv_iload hx hb d_DiscMakerModel_plainName_32 (lv_at hl 5 rfl) ?_
        refine lv_iload hx hb d_DiscMakerModel_plainName_34 (lv_at hl 4 rfl) ?_
        refine lv_iconst (v := 2) hx hb d_DiscMakerModel_plainName_36 (by decide) ?_
        refine lv_idiv hx hb d_DiscMakerModel_plainName_37 (by decide) ?_
        refine lv_topi (fun v69 e_v69 => ?_)
        have t_v69 : v69.toInt = r2.toInt / 2 := by rw [e_v69]; exact i_div rfl (by decide) (by omega) (by omega)
        refine lv_icmp_ge (tgt := 122) hx hb d_DiscMakerModel_plainName_38 (by decide) (fun h_9 => ?_) (fun h_9 => ?_)
        · skip
          have g38_153 : v69.toInt ≤ kx.toInt := (i_le rfl rfl).mp h_9
          refine lv_aload_n hx hb d_DiscMakerModel_plainName_122 rfl (lv_at hl 0 rfl) ?_
          refine va_get (D := D) (ci := 11) (v := .ref (ma 29)) (C := "DiscMakerModel") (T := F_DiscMakerModel) (N := 48) hx hb ht9 in_DiscMakerModel hown hK hP 2 rfl rfl 37 (by decide) (ht9 _ k1468) (fun _ h9 => h9) rfl d_DiscMakerModel_plainName_123 ?_
          refine lv_iload_n hx hb d_DiscMakerModel_plainName_126 rfl (lv_at hl 1 rfl) ?_
          refine lv_iload hx hb d_DiscMakerModel_plainName_127 (lv_at hl 4 rfl) ?_
          refine lv_iconst (v := 2) hx hb d_DiscMakerModel_plainName_129 (by decide) ?_
          refine lv_idiv hx hb d_DiscMakerModel_plainName_130 (by decide) ?_
          refine lv_topi (fun v70 e_v70 => ?_)
          have t_v70 : v70.toInt = r2.toInt / 2 := by rw [e_v70]; exact i_div rfl (by decide) (by omega) (by omega)
          refine zq_iast hx hb hK hP hD hS 1 1 rfl rfl (vp_in_iff.mpr ⟨by omega, by omega⟩) d_DiscMakerModel_plainName_131 (fun f71 e_f71 H locs hP hD hS => ?_)
          have hP : va_P D CL [((ma 28), .inl (cB, 6000, .inl lN)), ((ma 29), .inl (cI, 100, .inl f71)), (h0, .inr (11, MO ma sv_thrown sv_length sv_nodes sv_many sv_directories sv_runsFrom sv_runs sv_read sv_wrong sv_isNamed sv_goes sv_goesSize sv_goesAt sv_targetParts sv_isRoot)), ((ma 16), .inl (cJ, 46080, .inr (.inl F)))] H := hP
          have hD : va_D A [((ma 28), .inl (cB, 6000, .inl lN)), ((ma 29), .inl (cI, 100, .inl f71)), (h0, .inr (11, MO ma sv_thrown sv_length sv_nodes sv_many sv_directories sv_runsFrom sv_runs sv_read sv_wrong sv_isNamed sv_goes sv_goesSize sv_goesAt sv_targetParts sv_isRoot)), ((ma 16), .inl (cJ, 46080, .inr (.inl F)))] := hD
          have R_f71 : Rg 0 60 100 f71 := Rg_upd e_f71 hfNS (by omega) (by omega)
          have s_f71 : f71 x.toNatClampNeg = v70 := by rw [e_f71]; unfold upd; rw [if_pos (by first | rfl | decide)]
          refine lv_iconst (v := 1) hx hb d_DiscMakerModel_plainName_132 (by decide) ?_
          have hP9 := hP.sub (ws' := [(h0, .inr (11, MO ma sv_thrown sv_length sv_nodes sv_many sv_directories sv_runsFrom sv_runs sv_read sv_wrong sv_isNamed sv_goes sv_goesSize sv_goesAt sv_targetParts sv_isRoot)), ((ma 16), .inl (cJ, 46080, .inr (.inl F))), ((ma 28), .inl (cB, 6000, .inl lN)), ((ma 29), .inl (cI, 100, .inl f71))]) [2, 3, 0, 1] rfl
          have hD9 := hD.sub (ws' := [(h0, .inr (11, MO ma sv_thrown sv_length sv_nodes sv_many sv_directories sv_runsFrom sv_runs sv_read sv_wrong sv_isNamed sv_goes sv_goesSize sv_goesAt sv_targetParts sv_isRoot)), ((ma 16), .inl (cJ, 46080, .inr (.inl F))), ((ma 28), .inl (cB, 6000, .inl lN)), ((ma 29), .inl (cI, 100, .inl f71))]) [2, 3, 0, 1] (by decide +kernel) rfl
          exact W.zret (v := 1) hx hb hr (by first | rfl | decide | exact i_narZ (by omega)) (fun t ht hW => ⟨⟨1, (sv_wrong, lN, f71), rfl, ⟨(by (try dsimp only); first | assumption | omega | trivial), (by (try dsimp only); first | assumption | omega | trivial)⟩, by rw [ht]; exact hP9, hD9⟩, hS.F ht⟩) hS.2.2 d_DiscMakerModel_plainName_133
        · skip
          have g38_153 : ¬ v69.toInt ≤ kx.toInt := fun h8 => h_9 ((i_le rfl rfl).mpr h8)
          refine lv_sipush (v := 256) hx hb d_DiscMakerModel_plainName_41 (by decide) ?_
          refine lv_aload_n hx hb d_DiscMakerModel_plainName_44 rfl (lv_at hl 0 rfl) ?_
          refine lv_iload_n hx hb d_DiscMakerModel_plainName_45 rfl (lv_at hl 2 rfl) ?_
          refine lv_bipush (v := 33) hx hb d_DiscMakerModel_plainName_46 (by decide) ?_
          refine lv_iadd hx hb d_DiscMakerModel_plainName_48 ?_
          refine lv_topi (fun v72 e_v72 => ?_)
          have t_v72 : v72.toInt = y.toInt + 33 := by rw [e_v72]; exact i_add rfl (by decide) (by omega) (by omega)
          refine lv_iconst (v := 2) hx hb d_DiscMakerModel_plainName_49 (by decide) ?_
          refine lv_iload hx hb d_DiscMakerModel_plainName_50 (lv_at hl 5 rfl) ?_
          refine lv_imul hx hb d_DiscMakerModel_plainName_52 ?_
          refine lv_topi (fun v73 e_v73 => ?_)
          have t_v73 : v73.toInt = 2 * kx.toInt := by rw [e_v73]; exact i_mul (by decide) rfl (by omega) (by omega)
          refine lv_iadd hx hb d_DiscMakerModel_plainName_53 ?_
          refine lv_topi (fun v74 e_v74 => ?_)
          have t_v74 : v74.toInt = v72.toInt + v73.toInt := by rw [e_v74]; exact i_add rfl rfl (by omega) (by omega)
          have hPc := hP.sub (ws' := [(h0, .inr (11, MO ma sv_thrown sv_length sv_nodes sv_many sv_directories sv_runsFrom sv_runs sv_read sv_wrong sv_isNamed sv_goes sv_goesSize sv_goesAt sv_targetParts sv_isRoot)), ((ma 16), .inl (cJ, 46080, .inr (.inl F)))]) [2, 3] rfl
          have hDc := hD.sub (ws' := [(h0, .inr (11, MO ma sv_thrown sv_length sv_nodes sv_many sv_directories sv_runsFrom sv_runs sv_read sv_wrong sv_isNamed sv_goes sv_goesSize sv_goesAt sv_targetParts sv_isRoot)), ((ma 16), .inl (cJ, 46080, .inr (.inl F)))]) [2, 3] (by decide +kernel) rfl
          have hFc := va_free (wc := [(h0, .inr (11, MO ma sv_thrown sv_length sv_nodes sv_many sv_directories sv_runsFrom sv_runs sv_read sv_wrong sv_isNamed sv_goes sv_goesSize sv_goesAt sv_targetParts sv_isRoot)), ((ma 16), .inl (cJ, 46080, .inr (.inl F)))]) hD hS hA [2, 3] rfl
          have hkc : 0 ≤ 0 := by decide
          have hks : 0 ≤ 0 := by decide
          refine va_calli (va_runV (C := "DiscMakerModel") (As := [.int v74]) (rest := [.int 256]) ⟨hx, hb, hml, hown, hts⟩ (m_at l D cB cI cJ cZ cN cF H.size h0 ma sv_thrown sv_length sv_nodes sv_many sv_directories sv_runsFrom sv_runs sv_read sv_wrong sv_isNamed sv_goes sv_goesSize sv_goesAt sv_targetParts sv_isRoot F v74 (by (try dsimp only); first | assumption | omega | trivial) (by (try dsimp only); first | assumption | omega | trivial)) (cwV 1 hts (lg_goodV k1809 k1811 k95 k125 kc_DiscMakerModel_at) rfl rfl rfl (by decide +kernel) ⟨Nat.le_of_ble_eq_true rfl, Nat.le_of_ble_eq_true rfl⟩) ⟨fun a U g mk q => by obtain ⟨q0, q1, qP, qK, qN, qD⟩ := q; exact ⟨q0, q1, qP, va_K.moved (u := U) (U := U.calling g mk a) (Vm.Alike.refl U.vm) qK, qN.calling, qD⟩, va_recv hK hP (ci := 11) (q0 := 2) rfl rfl, fun U hU hW => ⟨rfl, by rw [hU], by rw [hU]; exact hPc, va_K.moved hW.alike hK, NN.warm hW hN, hDc.weaken (fun _ _ _ _ => trivial)⟩⟩ rfl rfl hl.1 rfl (lv_room (Nat.le_of_ble_eq_true rfl)) d_DiscMakerModel_plainName_54 ⟨hkc, hks⟩) hS (fun q _ h => hFc q h) hFc (fun r75 u t H1 locs ht hvm hp_r75 hB hz1 hk1 hS => ?_)
          obtain ⟨hP1, hD1⟩ := hB
          rw [ht] at hP1
          obtain ⟨hP, hD⟩ := va_join (wr := [((ma 28), .inl (cB, 6000, .inl lN)), ((ma 29), .inl (cI, 100, .inl fNS))]) (w1 := [(h0, .inr (11, MO ma sv_thrown sv_length sv_nodes sv_many sv_directories sv_runsFrom sv_runs sv_read sv_wrong sv_isNamed sv_goes sv_goesSize sv_goesAt sv_targetParts sv_isRoot)), ((ma 16), .inl (cJ, 46080, .inr (.inl F)))]) hP hD [2, 3] [0, 1] rfl rfl (by decide +kernel) (by decide +kernel) hk1 hFc hP1 hD1
          clear hPc hDc hFc hP1 hD1 hk1 hz1 hkc hks
          generalize H1 = H at hP hS ⊢
          have hP : va_P D CL [((ma 28), .inl (cB, 6000, .inl lN)), ((ma 29), .inl (cI, 100, .inl fNS)), (h0, .inr (11, MO ma sv_thrown sv_length sv_nodes sv_many sv_directories sv_runsFrom sv_runs sv_read sv_wrong sv_isNamed sv_goes sv_goesSize sv_goesAt sv_targetParts sv_isRoot)), ((ma 16), .inl (cJ, 46080, .inr (.inl F)))] H := hP
          have hD : va_D A [((ma 28), .inl (cB, 6000, .inl lN)), ((ma 29), .inl (cI, 100, .inl fNS)), (h0, .inr (11, MO ma sv_thrown sv_length sv_nodes sv_many sv_directories sv_runsFrom sv_runs sv_read sv_wrong sv_isNamed sv_goes sv_goesSize sv_goesAt sv_targetParts sv_isRoot)), ((ma 16), .inl (cJ, 46080, .inr (.inl F)))] := hD
          try dsimp only at hp_r75
          obtain ⟨hr_76, hv_77, hw_78⟩ := hp_r75
          refine lv_imul hx hb d_DiscMakerModel_plainName_57 ?_
          refine lv_topi (fun v79 e_v79 => ?_)
          have t_v79 : v79.toInt = 256 * r75.toInt := by rw [e_v79]; exact i_mul (by decide) rfl (by omega) (by omega)
          refine lv_aload_n hx hb d_DiscMakerModel_plainName_58 rfl (lv_at hl 0 rfl) ?_
          refine lv_iload_n hx hb d_DiscMakerModel_plainName_59 rfl (lv_at hl 2 rfl) ?_
          refine lv_bipush (v := 34) hx hb d_DiscMakerModel_plainName_60 (by decide) ?_
          refine lv_iadd hx hb d_DiscMakerModel_plainName_62 ?_
          refine lv_topi (fun v80 e_v80 => ?_)
          have t_v80 : v80.toInt = y.toInt + 34 := by rw [e_v80]; exact i_add rfl (by decide) (by omega) (by omega)
          refine lv_iconst (v := 2) hx hb d_DiscMakerModel_plainName_63 (by decide) ?_
          refine lv_iload hx hb d_DiscMakerModel_plainName_64 (lv_at hl 5 rfl) ?_
          refine lv_imul hx hb d_DiscMakerModel_plainName_66 ?_
          refine lv_topi (fun v81 e_v81 => ?_)
          have t_v81 : v81.toInt = 2 * kx.toInt := by rw [e_v81]; exact i_mul (by decide) rfl (by omega) (by omega)
          refine lv_iadd hx hb d_DiscMakerModel_plainName_67 ?_
          refine lv_topi (fun v82 e_v82 => ?_)
          have t_v82 : v82.toInt = v80.toInt + v81.toInt := by rw [e_v82]; exact i_add rfl rfl (by omega) (by omega)
          have hPc := hP.sub (ws' := [(h0, .inr (11, MO ma sv_thrown sv_length sv_nodes sv_many sv_directories sv_runsFrom sv_runs sv_read sv_wrong sv_isNamed sv_goes sv_goesSize sv_goesAt sv_targetParts sv_isRoot)), ((ma 16), .inl (cJ, 46080, .inr (.inl F)))]) [2, 3] rfl
          have hDc := hD.sub (ws' := [(h0, .inr (11, MO ma sv_thrown sv_length sv_nodes sv_many sv_directories sv_runsFrom sv_runs sv_read sv_wrong sv_isNamed sv_goes sv_goesSize sv_goesAt sv_targetParts sv_isRoot)), ((ma 16), .inl (cJ, 46080, .inr (.inl F)))]) [2, 3] (by decide +kernel) rfl
          have hFc := va_free (wc := [(h0, .inr (11, MO ma sv_thrown sv_length sv_nodes sv_many sv_directories sv_runsFrom sv_runs sv_read sv_wrong sv_isNamed sv_goes sv_goesSize sv_goesAt sv_targetParts sv_isRoot)), ((ma 16), .inl (cJ, 46080, .inr (.inl F)))]) hD hS hA [2, 3] rfl
          have hkc : 0 ≤ 0 := by decide
          have hks : 0 ≤ 0 := by decide
          refine va_calli (va_runV (C := "DiscMakerModel") (As := [.int v82]) (rest := [.int v79]) ⟨hx, hb, hml, hown, hts⟩ (m_at l D cB cI cJ cZ cN cF H.size h0 ma sv_thrown sv_length sv_nodes sv_many sv_directories sv_runsFrom sv_runs sv_read sv_wrong sv_isNamed sv_goes sv_goesSize sv_goesAt sv_targetParts sv_isRoot F v82 (by (try dsimp only); first | assumption | omega | trivial) (by (try dsimp only); first | assumption | omega | trivial)) (cwV 1 hts (lg_goodV k1809 k1811 k95 k125 kc_DiscMakerModel_at) rfl rfl rfl (by decide +kernel) ⟨Nat.le_of_ble_eq_true rfl, Nat.le_of_ble_eq_true rfl⟩) ⟨fun a U g mk q => by obtain ⟨q0, q1, qP, qK, qN, qD⟩ := q; exact ⟨q0, q1, qP, va_K.moved (u := U) (U := U.calling g mk a) (Vm.Alike.refl U.vm) qK, qN.calling, qD⟩, va_recv hK hP (ci := 11) (q0 := 2) rfl rfl, fun U hU hW => ⟨rfl, by rw [hU], by rw [hU]; exact hPc, va_K.moved hW.alike hK, NN.warm hW hN, hDc.weaken (fun _ _ _ _ => trivial)⟩⟩ rfl rfl hl.1 rfl (lv_room (Nat.le_of_ble_eq_true rfl)) d_DiscMakerModel_plainName_68 ⟨hkc, hks⟩) hS (fun q _ h => hFc q h) hFc (fun r83 u t H1 locs ht hvm hp_r83 hB hz1 hk1 hS => ?_)
          obtain ⟨hP1, hD1⟩ := hB
          rw [ht] at hP1
          obtain ⟨hP, hD⟩ := va_join (wr := [((ma 28), .inl (cB, 6000, .inl lN)), ((ma 29), .inl (cI, 100, .inl fNS))]) (w1 := [(h0, .inr (11, MO ma sv_thrown sv_length sv_nodes sv_many sv_directories sv_runsFrom sv_runs sv_read sv_wrong sv_isNamed sv_goes sv_goesSize sv_goesAt sv_targetParts sv_isRoot)), ((ma 16), .inl (cJ, 46080, .inr (.inl F)))]) hP hD [2, 3] [0, 1] rfl rfl (by decide +kernel) (by decide +kernel) hk1 hFc hP1 hD1
          clear hPc hDc hFc hP1 hD1 hk1 hz1 hkc hks
          generalize H1 = H at hP hS ⊢
          have hP : va_P D CL [((ma 28), .inl (cB, 6000, .inl lN)), ((ma 29), .inl (cI, 100, .inl fNS)), (h0, .inr (11, MO ma sv_thrown sv_length sv_nodes sv_many sv_directories sv_runsFrom sv_runs sv_read sv_wrong sv_isNamed sv_goes sv_goesSize sv_goesAt sv_targetParts sv_isRoot)), ((ma 16), .inl (cJ, 46080, .inr (.inl F)))] H := hP
          have hD : va_D A [((ma 28), .inl (cB, 6000, .inl lN)), ((ma 29), .inl (cI, 100, .inl fNS)), (h0, .inr (11, MO ma sv_thrown sv_length sv_nodes sv_many sv_directories sv_runsFrom sv_runs sv_read sv_wrong sv_isNamed sv_goes sv_goesSize sv_goesAt sv_targetParts sv_isRoot)), ((ma 16), .inl (cJ, 46080, .inr (.inl F)))] := hD
          try dsimp only at hp_r83
          obtain ⟨hr_84, hv_85, hw_86⟩ := hp_r83
          refine lv_iadd hx hb d_DiscMakerModel_plainName_71 ?_
          refine lv_topi (fun v87 e_v87 => ?_)
          have t_v87 : v87.toInt = v79.toInt + r83.toInt := by rw [e_v87]; exact i_add rfl rfl (by omega) (by omega)
          refine lv_istore hx hb d_DiscMakerModel_plainName_72 hl (by decide) rfl (fun ls hl => ?_)
          have hl : lv_has ls 7 [(6, .int v87), (0, .ref h0), (1, .int x), (2, .int y), (3, .int z), (4, .int r2), (5, .int kx)] := hl
          refine lv_iload hx hb d_DiscMakerModel_plainName_74 (lv_at hl 0 rfl) ?_
          refine lv_bipush (v := 33) hx hb d_DiscMakerModel_plainName_76 (by decide) ?_
          refine lv_icmp_lt (tgt := 95) hx hb d_DiscMakerModel_plainName_78 (by decide) (fun h_9 => ?_) (fun h_9 => ?_)
          · skip
            have g78_187 : v87.toInt < 33 := (i_lt rfl (by decide)).mp h_9
            refine lv_aload_n hx hb d_DiscMakerModel_plainName_95 rfl (lv_at hl 1 rfl) ?_
            refine lv_iload_n hx hb d_DiscMakerModel_plainName_96 rfl (lv_at hl 3 rfl) ?_
            have hPc := hP.sub (ws' := [(h0, .inr (11, MO ma sv_thrown sv_length sv_nodes sv_many sv_directories sv_runsFrom sv_runs sv_read sv_wrong sv_isNamed sv_goes sv_goesSize sv_goesAt sv_targetParts sv_isRoot))]) [2] rfl
            have hDc := hD.sub (ws' := [(h0, .inr (11, MO ma sv_thrown sv_length sv_nodes sv_many sv_directories sv_runsFrom sv_runs sv_read sv_wrong sv_isNamed sv_goes sv_goesSize sv_goesAt sv_targetParts sv_isRoot))]) [2] (by decide +kernel) rfl
            have hFc := va_free (wc := [(h0, .inr (11, MO ma sv_thrown sv_length sv_nodes sv_many sv_directories sv_runsFrom sv_runs sv_read sv_wrong sv_isNamed sv_goes sv_goesSize sv_goesAt sv_targetParts sv_isRoot))]) hD hS hA [2] rfl
            have hkc : 0 ≤ 0 := by decide
            have hks : 0 ≤ 0 := by decide
            refine va_calli (va_runV (C := "DiscMakerModel") (As := [.int y]) (rest := []) ⟨hx, hb, hml, hown, hts⟩ (m_isWrong l D cB cI cJ cZ cN cF H.size h0 ma sv_thrown sv_length sv_nodes sv_many sv_directories sv_runsFrom sv_runs sv_read sv_wrong sv_isNamed sv_goes sv_goesSize sv_goesAt sv_targetParts sv_isRoot y) (cwV 1 hts (lg_goodV k1833 k1835 k98 k125 kc_DiscMakerModel_isWrong) rfl rfl rfl (by decide +kernel) ⟨Nat.le_of_ble_eq_true rfl, Nat.le_of_ble_eq_true rfl⟩) ⟨fun a U g mk q => by obtain ⟨q0, q1, qP, qK, qN, qD⟩ := q; exact ⟨q0, q1, qP, va_K.moved (u := U) (U := U.calling g mk a) (Vm.Alike.refl U.vm) qK, qN.calling, qD⟩, va_recv hK hP (ci := 11) (q0 := 2) rfl rfl, fun U hU hW => ⟨rfl, by rw [hU], by rw [hU]; exact hPc, va_K.moved hW.alike hK, NN.warm hW hN, hDc.weaken (fun _ _ _ _ => trivial)⟩⟩ rfl rfl hl.1 rfl (lv_room (Nat.le_of_ble_eq_true rfl)) d_DiscMakerModel_plainName_97 ⟨hkc, hks⟩) hS (fun q _ h => hFc q h) hFc (fun r88 u t H1 locs ht hvm hp_r88 hB hz1 hk1 hS => ?_)
            obtain ⟨wr_89, rfl⟩ : ∃ z, z = u := ⟨_, rfl⟩
            obtain ⟨hP1, hD1⟩ := hB
            rw [ht] at hP1
            obtain ⟨hP, hD⟩ := va_join (wr := [((ma 28), .inl (cB, 6000, .inl lN)), ((ma 29), .inl (cI, 100, .inl fNS)), ((ma 16), .inl (cJ, 46080, .inr (.inl F)))]) (w1 := [(h0, .inr (11, MO ma sv_thrown sv_length sv_nodes sv_many sv_directories sv_runsFrom sv_runs sv_read wr_89 sv_isNamed sv_goes sv_goesSize sv_goesAt sv_targetParts sv_isRoot))]) hP hD [2] [0, 1, 3] rfl rfl (by decide +kernel) (by decide +kernel) hk1 hFc hP1 hD1
            clear hPc hDc hFc hP1 hD1 hk1 hz1 hkc hks
            generalize H1 = H at hP hS ⊢
            have hP : va_P D CL [((ma 28), .inl (cB, 6000, .inl lN)), ((ma 29), .inl (cI, 100, .inl fNS)), ((ma 16), .inl (cJ, 46080, .inr (.inl F))), (h0, .inr (11, MO ma sv_thrown sv_length sv_nodes sv_many sv_directories sv_runsFrom sv_runs sv_read wr_89 sv_isNamed sv_goes sv_goesSize sv_goesAt sv_targetParts sv_isRoot))] H := hP
            have hD : va_D A [((ma 28), .inl (cB, 6000, .inl lN)), ((ma 29), .inl (cI, 100, .inl fNS)), ((ma 16), .inl (cJ, 46080, .inr (.inl F))), (h0, .inr (11, MO ma sv_thrown sv_length sv_nodes sv_many sv_directories sv_runsFrom sv_runs sv_read wr_89 sv_isNamed sv_goes sv_goesSize sv_goesAt sv_targetParts sv_isRoot))] := hD
            try dsimp only at hp_r88
            have hr_90 := hp_r88
            have hP9 := hP.sub (ws' := [(h0, .inr (11, MO ma sv_thrown sv_length sv_nodes sv_many sv_directories sv_runsFrom sv_runs sv_read wr_89 sv_isNamed sv_goes sv_goesSize sv_goesAt sv_targetParts sv_isRoot)), ((ma 16), .inl (cJ, 46080, .inr (.inl F))), ((ma 28), .inl (cB, 6000, .inl lN)), ((ma 29), .inl (cI, 100, .inl fNS))]) [3, 2, 0, 1] rfl
            have hD9 := hD.sub (ws' := [(h0, .inr (11, MO ma sv_thrown sv_length sv_nodes sv_many sv_directories sv_runsFrom sv_runs sv_read wr_89 sv_isNamed sv_goes sv_goesSize sv_goesAt sv_targetParts sv_isRoot)), ((ma 16), .inl (cJ, 46080, .inr (.inl F))), ((ma 28), .inl (cB, 6000, .inl lN)), ((ma 29), .inl (cI, 100, .inl fNS))]) [3, 2, 0, 1] (by decide +kernel) rfl
            exact W.zret (v := r88) hx hb hr (by first | rfl | decide | exact i_narZ (by omega)) (fun t ht hW => ⟨⟨r88, (wr_89, lN, fNS), rfl, ⟨(by (try dsimp only); first | assumption | omega | trivial), (by (try dsimp only); first | assumption | omega | trivial)⟩, by rw [ht]; exact hP9, hD9⟩, hS.F ht⟩) hS.2.2 d_DiscMakerModel_plainName_100
          · skip
            have g78_187 : ¬ v87.toInt < 33 := fun h8 => h_9 ((i_lt rfl (by decide)).mpr h8)
            refine lv_iload hx hb d_DiscMakerModel_plainName_81 (lv_at hl 0 rfl) ?_
            refine lv_bipush (v := 126) hx hb d_DiscMakerModel_plainName_83 (by decide) ?_
            refine lv_icmp_gt (tgt := 95) hx hb d_DiscMakerModel_plainName_85 (by decide) (fun h_9 => ?_) (fun h_9 => ?_)
            · skip
              have g85_194 : 126 < v87.toInt := (i_lt (by decide) rfl).mp h_9
              refine lv_aload_n hx hb d_DiscMakerModel_plainName_95 rfl (lv_at hl 1 rfl) ?_
              refine lv_iload_n hx hb d_DiscMakerModel_plainName_96 rfl (lv_at hl 3 rfl) ?_
              have hPc := hP.sub (ws' := [(h0, .inr (11, MO ma sv_thrown sv_length sv_nodes sv_many sv_directories sv_runsFrom sv_runs sv_read sv_wrong sv_isNamed sv_goes sv_goesSize sv_goesAt sv_targetParts sv_isRoot))]) [2] rfl
              have hDc := hD.sub (ws' := [(h0, .inr (11, MO ma sv_thrown sv_length sv_nodes sv_many sv_directories sv_runsFrom sv_runs sv_read sv_wrong sv_isNamed sv_goes sv_goesSize sv_goesAt sv_targetParts sv_isRoot))]) [2] (by decide +kernel) rfl
              have hFc := va_free (wc := [(h0, .inr (11, MO ma sv_thrown sv_length sv_nodes sv_many sv_directories sv_runsFrom sv_runs sv_read sv_wrong sv_isNamed sv_goes sv_goesSize sv_goesAt sv_targetParts sv_isRoot))]) hD hS hA [2] rfl
              have hkc : 0 ≤ 0 := by decide
              have hks : 0 ≤ 0 := by decide
              refine va_calli (va_runV (C := "DiscMakerModel") (As := [.int y]) (rest := []) ⟨hx, hb, hml, hown, hts⟩ (m_isWrong l D cB cI cJ cZ cN cF H.size h0 ma sv_thrown sv_length sv_nodes sv_many sv_directories sv_runsFrom sv_runs sv_read sv_wrong sv_isNamed sv_goes sv_goesSize sv_goesAt sv_targetParts sv_isRoot y) (cwV 1 hts (lg_goodV k1833 k1835 k98 k125 kc_DiscMakerModel_isWrong) rfl rfl rfl (by decide +kernel) ⟨Nat.le_of_ble_eq_true rfl, Nat.le_of_ble_eq_true rfl⟩) ⟨fun a U g mk q => by obtain ⟨q0, q1, qP, qK, qN, qD⟩ := q; exact ⟨q0, q1, qP, va_K.moved (u := U) (U := U.calling g mk a) (Vm.Alike.refl U.vm) qK, qN.calling, qD⟩, va_recv hK hP (ci := 11) (q0 := 2) rfl rfl, fun U hU hW => ⟨rfl, by rw [hU], by rw [hU]; exact hPc, va_K.moved hW.alike hK, NN.warm hW hN, hDc.weaken (fun _ _ _ _ => trivial)⟩⟩ rfl rfl hl.1 rfl (lv_room (Nat.le_of_ble_eq_true rfl)) d_DiscMakerModel_plainName_97 ⟨hkc, hks⟩) hS (fun q _ h => hFc q h) hFc (fun r91 u t H1 locs ht hvm hp_r91 hB hz1 hk1 hS => ?_)
              obtain ⟨wr_92, rfl⟩ : ∃ z, z = u := ⟨_, rfl⟩
              obtain ⟨hP1, hD1⟩ := hB
              rw [ht] at hP1
              obtain ⟨hP, hD⟩ := va_join (wr := [((ma 28), .inl (cB, 6000, .inl lN)), ((ma 29), .inl (cI, 100, .inl fNS)), ((ma 16), .inl (cJ, 46080, .inr (.inl F)))]) (w1 := [(h0, .inr (11, MO ma sv_thrown sv_length sv_nodes sv_many sv_directories sv_runsFrom sv_runs sv_read wr_92 sv_isNamed sv_goes sv_goesSize sv_goesAt sv_targetParts sv_isRoot))]) hP hD [2] [0, 1, 3] rfl rfl (by decide +kernel) (by decide +kernel) hk1 hFc hP1 hD1
              clear hPc hDc hFc hP1 hD1 hk1 hz1 hkc hks
              generalize H1 = H at hP hS ⊢
              have hP : va_P D CL [((ma 28), .inl (cB, 6000, .inl lN)), ((ma 29), .inl (cI, 100, .inl fNS)), ((ma 16), .inl (cJ, 46080, .inr (.inl F))), (h0, .inr (11, MO ma sv_thrown sv_length sv_nodes sv_many sv_directories sv_runsFrom sv_runs sv_read wr_92 sv_isNamed sv_goes sv_goesSize sv_goesAt sv_targetParts sv_isRoot))] H := hP
              have hD : va_D A [((ma 28), .inl (cB, 6000, .inl lN)), ((ma 29), .inl (cI, 100, .inl fNS)), ((ma 16), .inl (cJ, 46080, .inr (.inl F))), (h0, .inr (11, MO ma sv_thrown sv_length sv_nodes sv_many sv_directories sv_runsFrom sv_runs sv_read wr_92 sv_isNamed sv_goes sv_goesSize sv_goesAt sv_targetParts sv_isRoot))] := hD
              try dsimp only at hp_r91
              have hr_93 := hp_r91
              have hP9 := hP.sub (ws' := [(h0, .inr (11, MO ma sv_thrown sv_length sv_nodes sv_many sv_directories sv_runsFrom sv_runs sv_read wr_92 sv_isNamed sv_goes sv_goesSize sv_goesAt sv_targetParts sv_isRoot)), ((ma 16), .inl (cJ, 46080, .inr (.inl F))), ((ma 28), .inl (cB, 6000, .inl lN)), ((ma 29), .inl (cI, 100, .inl fNS))]) [3, 2, 0, 1] rfl
              have hD9 := hD.sub (ws' := [(h0, .inr (11, MO ma sv_thrown sv_length sv_nodes sv_many sv_directories sv_runsFrom sv_runs sv_read wr_92 sv_isNamed sv_goes sv_goesSize sv_goesAt sv_targetParts sv_isRoot)), ((ma 16), .inl (cJ, 46080, .inr (.inl F))), ((ma 28), .inl (cB, 6000, .inl lN)), ((ma 29), .inl (cI, 100, .inl fNS))]) [3, 2, 0, 1] (by decide +kernel) rfl
              exact W.zret (v := r91) hx hb hr (by first | rfl | decide | exact i_narZ (by omega)) (fun t ht hW => ⟨⟨r91, (wr_92, lN, fNS), rfl, ⟨(by (try dsimp only); first | assumption | omega | trivial), (by (try dsimp only); first | assumption | omega | trivial)⟩, by rw [ht]; exact hP9, hD9⟩, hS.F ht⟩) hS.2.2 d_DiscMakerModel_plainName_100
            · skip
              have g85_194 : ¬ 126 < v87.toInt := fun h8 => h_9 ((i_lt (by decide) rfl).mpr h8)
              refine lv_iload hx hb d_DiscMakerModel_plainName_88 (lv_at hl 6 rfl) ?_
              refine lv_bipush (v := 60) hx hb d_DiscMakerModel_plainName_90 (by decide) ?_
              refine lv_icmp_ne (tgt := 101) hx hb d_DiscMakerModel_plainName_92 (by decide) (fun h_9 => ?_) (fun h_9 => ?_)
              · skip
                have g92_201 : ¬ kx.toInt = 60 := fun h8 => h_9 ((i_eq rfl (by decide)).mpr h8)
                refine lv_aload_n hx hb d_DiscMakerModel_plainName_101 rfl (lv_at hl 1 rfl) ?_
                refine va_get (D := D) (ci := 11) (v := .ref (ma 28)) (C := "DiscMakerModel") (T := F_DiscMakerModel) (N := 48) hx hb ht9 in_DiscMakerModel hown hK hP 2 rfl rfl 36 (by decide) (ht9 _ k1467) (fun _ h9 => h9) rfl d_DiscMakerModel_plainName_102 ?_
                refine lv_bipush (v := 60) hx hb d_DiscMakerModel_plainName_105 (by decide) ?_
                refine lv_iload_n hx hb d_DiscMakerModel_plainName_107 rfl (lv_at hl 2 rfl) ?_
                refine lv_imul hx hb d_DiscMakerModel_plainName_108 ?_
                refine lv_topi (fun v94 e_v94 => ?_)
                have t_v94 : v94.toInt = 60 * x.toInt := by rw [e_v94]; exact i_mul (by decide) rfl (by omega) (by omega)
                refine lv_iload hx hb d_DiscMakerModel_plainName_109 (lv_at hl 6 rfl) ?_
                refine lv_iadd hx hb d_DiscMakerModel_plainName_111 ?_
                refine lv_topi (fun v95 e_v95 => ?_)
                have t_v95 : v95.toInt = v94.toInt + kx.toInt := by rw [e_v95]; exact i_add rfl rfl (by omega) (by omega)
                refine lv_iload hx hb d_DiscMakerModel_plainName_112 (lv_at hl 0 rfl) ?_
                refine lv_i2b hx hb d_DiscMakerModel_plainName_114 rfl ?_
                refine lv_topi (fun v96 e_v96 => ?_)
                have t_v96 : (-128) ≤ v96.toInt ∧ v96.toInt ≤ 127 := by rw [e_v96]; exact i_b _
                refine zq_bast hx hb hK hP hD hS 0 0 rfl rfl (vp_in_iff.mpr ⟨by omega, by omega⟩) d_DiscMakerModel_plainName_115 (fun f97 e_f97 H locs hP hD hS => ?_)
                have hP : va_P D CL [((ma 28), .inl (cB, 6000, .inl f97)), ((ma 29), .inl (cI, 100, .inl fNS)), (h0, .inr (11, MO ma sv_thrown sv_length sv_nodes sv_many sv_directories sv_runsFrom sv_runs sv_read sv_wrong sv_isNamed sv_goes sv_goesSize sv_goesAt sv_targetParts sv_isRoot)), ((ma 16), .inl (cJ, 46080, .inr (.inl F)))] H := hP
                have hD : va_D A [((ma 28), .inl (cB, 6000, .inl f97)), ((ma 29), .inl (cI, 100, .inl fNS)), (h0, .inr (11, MO ma sv_thrown sv_length sv_nodes sv_many sv_directories sv_runsFrom sv_runs sv_read sv_wrong sv_isNamed sv_goes sv_goesSize sv_goesAt sv_targetParts sv_isRoot)), ((ma 16), .inl (cJ, 46080, .inr (.inl F)))] := hD
                obtain ⟨v98, e_v98⟩ : ∃ z : Int32, z = kx + 1 := ⟨_, rfl⟩
                refine lv_iinc (v := v98) hx hb d_DiscMakerModel_plainName_116 hl (k := 6) rfl e_v98.symm (by decide +kernel) rfl (fun ls hl => ?_)
                have t_v98 : v98.toInt = kx.toInt + 1 := by rw [e_v98]; exact i_add rfl (by decide) (by omega) (by omega)
                have hl : lv_has ls 7 [(5, .int v98), (6, .int v87), (0, .ref h0), (1, .int x), (2, .int y), (3, .int z), (4, .int r2)] := hl
                refine lv_goto (tgt := 32) hx hb d_DiscMakerModel_plainName_119 (by decide) ?_
                have hP := hP.sub (ws' := [((ma 28), .inl (cB, 6000, .inl f97)), ((ma 29), .inl (cI, 100, .inl fNS)), (h0, .inr (11, MO ma sv_thrown sv_length sv_nodes sv_many sv_directories sv_runsFrom sv_runs sv_read sv_wrong sv_isNamed sv_goes sv_goesSize sv_goesAt sv_targetParts sv_isRoot)), ((ma 16), .inl (cJ, 46080, .inr (.inl F)))]) [0, 1, 2, 3] rfl
                have hD := hD.sub (ws' := [((ma 28), .inl (cB, 6000, .inl f97)), ((ma 29), .inl (cI, 100, .inl fNS)), (h0, .inr (11, MO ma sv_thrown sv_length sv_nodes sv_many sv_directories sv_runsFrom sv_runs sv_read sv_wrong sv_isNamed sv_goes sv_goesSize sv_goesAt sv_targetParts sv_isRoot)), ((ma 16), .inl (cJ, 46080, .inr (.inl F)))]) [0, 1, 2, 3] (by decide +kernel) rfl
                have hl := lv_sub hl [2, 3, 4, 5, 6, 0] rfl
                exact ih32 _ (by first | omega | (dsimp only; omega)) v98 f97 _ _ _ rfl ((by (try dsimp only); first | assumption | omega | trivial)) hP hD hS hl
              · skip
                have g92_201 : kx.toInt = 60 := (i_eq rfl (by decide)).mp h_9
                refine lv_aload_n hx hb d_DiscMakerModel_plainName_95 rfl (lv_at hl 1 rfl) ?_
                refine lv_iload_n hx hb d_DiscMakerModel_plainName_96 rfl (lv_at hl 3 rfl) ?_
                have hPc := hP.sub (ws' := [(h0, .inr (11, MO ma sv_thrown sv_length sv_nodes sv_many sv_directories sv_runsFrom sv_runs sv_read sv_wrong sv_isNamed sv_goes sv_goesSize sv_goesAt sv_targetParts sv_isRoot))]) [2] rfl
                have hDc := hD.sub (ws' := [(h0, .inr (11, MO ma sv_thrown sv_length sv_nodes sv_many sv_directories sv_runsFrom sv_runs sv_read sv_wrong sv_isNamed sv_goes sv_goesSize sv_goesAt sv_targetParts sv_isRoot))]) [2] (by decide +kernel) rfl
                have hFc := va_free (wc := [(h0, .inr (11, MO ma sv_thrown sv_length sv_nodes sv_many sv_directories sv_runsFrom sv_runs sv_read sv_wrong sv_isNamed sv_goes sv_goesSize sv_goesAt sv_targetParts sv_isRoot))]) hD hS hA [2] rfl
                have hkc : 0 ≤ 0 := by decide
                have hks : 0 ≤ 0 := by decide
                refine va_calli (va_runV (C := "DiscMakerModel") (As := [.int y]) (rest := []) ⟨hx, hb, hml, hown, hts⟩ (m_isWrong l D cB cI cJ cZ cN cF H.size h0 ma sv_thrown sv_length sv_nodes sv_many sv_directories sv_runsFrom sv_runs sv_read sv_wrong sv_isNamed sv_goes sv_goesSize sv_goesAt sv_targetParts sv_isRoot y) (cwV 1 hts (lg_goodV k1833 k1835 k98 k125 kc_DiscMakerModel_isWrong) rfl rfl rfl (by decide +kernel) ⟨Nat.le_of_ble_eq_true rfl, Nat.le_of_ble_eq_true rfl⟩) ⟨fun a U g mk q => by obtain ⟨q0, q1, qP, qK, qN, qD⟩ := q; exact ⟨q0, q1, qP, va_K.moved (u := U) (U := U.calling g mk a) (Vm.Alike.refl U.vm) qK, qN.calling, qD⟩, va_recv hK hP (ci := 11) (q0 := 2) rfl rfl, fun U hU hW => ⟨rfl, by rw [hU], by rw [hU]; exact hPc, va_K.moved hW.alike hK, NN.warm hW hN, hDc.weaken (fun _ _ _ _ => trivial)⟩⟩ rfl rfl hl.1 rfl (lv_room (Nat.le_of_ble_eq_true rfl)) d_DiscMakerModel_plainName_97 ⟨hkc, hks⟩) hS (fun q _ h => hFc q h) hFc (fun r99 u t H1 locs ht hvm hp_r99 hB hz1 hk1 hS => ?_)
                obtain ⟨wr_100, rfl⟩ : ∃ z, z = u := ⟨_, rfl⟩
                obtain ⟨hP1, hD1⟩ := hB
                rw [ht] at hP1
                obtain ⟨hP, hD⟩ := va_join (wr := [((ma 28), .inl (cB, 6000, .inl lN)), ((ma 29), .inl (cI, 100, .inl fNS)), ((ma 16), .inl (cJ, 46080, .inr (.inl F)))]) (w1 := [(h0, .inr (11, MO ma sv_thrown sv_length sv_nodes sv_many sv_directories sv_runsFrom sv_runs sv_read wr_100 sv_isNamed sv_goes sv_goesSize sv_goesAt sv_targetParts sv_isRoot))]) hP hD [2] [0, 1, 3] rfl rfl (by decide +kernel) (by decide +kernel) hk1 hFc hP1 hD1
                clear hPc hDc hFc hP1 hD1 hk1 hz1 hkc hks
                generalize H1 = H at hP hS ⊢
                have hP : va_P D CL [((ma 28), .inl (cB, 6000, .inl lN)), ((ma 29), .inl (cI, 100, .inl fNS)), ((ma 16), .inl (cJ, 46080, .inr (.inl F))), (h0, .inr (11, MO ma sv_thrown sv_length sv_nodes sv_many sv_directories sv_runsFrom sv_runs sv_read wr_100 sv_isNamed sv_goes sv_goesSize sv_goesAt sv_targetParts sv_isRoot))] H := hP
                have hD : va_D A [((ma 28), .inl (cB, 6000, .inl lN)), ((ma 29), .inl (cI, 100, .inl fNS)), ((ma 16), .inl (cJ, 46080, .inr (.inl F))), (h0, .inr (11, MO ma sv_thrown sv_length sv_nodes sv_many sv_directories sv_runsFrom sv_runs sv_read wr_100 sv_isNamed sv_goes sv_goesSize sv_goesAt sv_targetParts sv_isRoot))] := hD
                try dsimp only at hp_r99
                have hr_101 := hp_r99
                have hP9 := hP.sub (ws' := [(h0, .inr (11, MO ma sv_thrown sv_length sv_nodes sv_many sv_directories sv_runsFrom sv_runs sv_read wr_100 sv_isNamed sv_goes sv_goesSize sv_goesAt sv_targetParts sv_isRoot)), ((ma 16), .inl (cJ, 46080, .inr (.inl F))), ((ma 28), .inl (cB, 6000, .inl lN)), ((ma 29), .inl (cI, 100, .inl fNS))]) [3, 2, 0, 1] rfl
                have hD9 := hD.sub (ws' := [(h0, .inr (11, MO ma sv_thrown sv_length sv_nodes sv_many sv_directories sv_runsFrom sv_runs sv_read wr_100 sv_isNamed sv_goes sv_goesSize sv_goesAt sv_targetParts sv_isRoot)), ((ma 16), .inl (cJ, 46080, .inr (.inl F))), ((ma 28), .inl (cB, 6000, .inl lN)), ((ma 29), .inl (cI, 100, .inl fNS))]) [3, 2, 0, 1] (by decide +kernel) rfl
                exact W.zret (v := r99) hx hb hr (by first | rfl | decide | exact i_narZ (by omega)) (fun t ht hW => ⟨⟨r99, (wr_100, lN, fNS), rfl, ⟨(by (try dsimp only); first | assumption | omega | trivial), (by (try dsimp only); first | assumption | omega | trivial)⟩, by rw [ht]; exact hP9, hD9⟩, hS.F ht⟩) hS.2.2 d_DiscMakerModel_plainName_100
      · skip
        intro kk32
        have hP := hP.sub (ws' := [((ma 28), .inl (cB, 6000, .inl fN)), ((ma 29), .inl (cI, 100, .inl fNS)), (h0, .inr (11, MO ma sv_thrown sv_length sv_nodes sv_many sv_directories sv_runsFrom sv_runs sv_read sv_wrong sv_isNamed sv_goes sv_goesSize sv_goesAt sv_targetParts sv_isRoot)), ((ma 16), .inl (cJ, 46080, .inr (.inl F)))]) [0, 1, 2, 3] rfl
        have hD := hD.sub (ws' := [((ma 28), .inl (cB, 6000, .inl fN)), ((ma 29), .inl (cI, 100, .inl fNS)), (h0, .inr (11, MO ma sv_thrown sv_length sv_nodes sv_many sv_directories sv_runsFrom sv_runs sv_read sv_wrong sv_isNamed sv_goes sv_goesSize sv_goesAt sv_targetParts sv_isRoot)), ((ma 16), .inl (cJ, 46080, .inr (.inl F)))]) [0, 1, 2, 3] (by decide +kernel) rfl
        have hl := lv_sub hl [2, 3, 4, 5, 1, 0] rfl
        exact kk32 _ 0 fN _ _ _ rfl ((by (try dsimp only); first | assumption | omega | trivial)) hP hD hS hl
    · skip
      have g20_146 : v68.toInt = 1 := (i_eq rfl (by decide)).mp h_9
      refine lv_aload_n hx hb d_DiscMakerModel_plainName_23 rfl (lv_at hl 1 rfl) ?_
      refine lv_iload_n hx hb d_DiscMakerModel_plainName_24 rfl (lv_at hl 3 rfl) ?_
      have hPc := hP.sub (ws' := [(h0, .inr (11, MO ma sv_thrown sv_length sv_nodes sv_many sv_directories sv_runsFrom sv_runs sv_read sv_wrong sv_isNamed sv_goes sv_goesSize sv_goesAt sv_targetParts sv_isRoot))]) [2] rfl
      have hDc := hD.sub (ws' := [(h0, .inr (11, MO ma sv_thrown sv_length sv_nodes sv_many sv_directories sv_runsFrom sv_runs sv_read sv_wrong sv_isNamed sv_goes sv_goesSize sv_goesAt sv_targetParts sv_isRoot))]) [2] (by decide +kernel) rfl
      have hFc := va_free (wc := [(h0, .inr (11, MO ma sv_thrown sv_length sv_nodes sv_many sv_directories sv_runsFrom sv_runs sv_read sv_wrong sv_isNamed sv_goes sv_goesSize sv_goesAt sv_targetParts sv_isRoot))]) hD hS hA [2] rfl
      have hkc : 0 ≤ 0 := by decide
      have hks : 0 ≤ 0 := by decide
      refine va_calli (va_runV (C := "DiscMakerModel") (As := [.int y]) (rest := []) ⟨hx, hb, hml, hown, hts⟩ (m_isWrong l D cB cI cJ cZ cN cF H.size h0 ma sv_thrown sv_length sv_nodes sv_many sv_directories sv_runsFrom sv_runs sv_read sv_wrong sv_isNamed sv_goes sv_goesSize sv_goesAt sv_targetParts sv_isRoot y) (cwV 1 hts (lg_goodV k1833 k1835 k98 k125 kc_DiscMakerModel_isWrong) rfl rfl rfl (by decide +kernel) ⟨Nat.le_of_ble_eq_true rfl, Nat.le_of_ble_eq_true rfl⟩) ⟨fun a U g mk q => by obtain ⟨q0, q1, qP, qK, qN, qD⟩ := q; exact ⟨q0, q1, qP, va_K.moved (u := U) (U := U.calling g mk a) (Vm.Alike.refl U.vm) qK, qN.calling, qD⟩, va_recv hK hP (ci := 11) (q0 := 2) rfl rfl, fun U hU hW => ⟨rfl, by rw [hU], by rw [hU]; exact hPc, va_K.moved hW.alike hK, NN.warm hW hN, hDc.weaken (fun _ _ _ _ => trivial)⟩⟩ rfl rfl hl.1 rfl (lv_room (Nat.le_of_ble_eq_true rfl)) d_DiscMakerModel_plainName_25 ⟨hkc, hks⟩) hS (fun q _ h => hFc q h) hFc (fun r102 u t H1 locs ht hvm hp_r102 hB hz1 hk1 hS => ?_)
      obtain ⟨wr_103, rfl⟩ : ∃ z, z = u := ⟨_, rfl⟩
      obtain ⟨hP1, hD1⟩ := hB
      rw [ht] at hP1
      obtain ⟨hP, hD⟩ := va_join (wr := [((ma 28), .inl (cB, 6000, .inl fN)), ((ma 29), .inl (cI, 100, .inl fNS)), ((ma 16), .inl (cJ, 46080, .inr (.inl F)))]) (w1 := [(h0, .inr (11, MO ma sv_thrown sv_length sv_nodes sv_many sv_directories sv_runsFrom sv_runs sv_read wr_103 sv_isNamed sv_goes sv_goesSize sv_goesAt sv_targetParts sv_isRoot))]) hP hD [2] [0, 1, 3] rfl rfl (by decide +kernel) (by decide +kernel) hk1 hFc hP1 hD1
      clear hPc hDc hFc hP1 hD1 hk1 hz1 hkc hks
      generalize H1 = H at hP hS ⊢
      have hP : va_P D CL [((ma 28), .inl (cB, 6000, .inl fN)), ((ma 29), .inl (cI, 100, .inl fNS)), ((ma 16), .inl (cJ, 46080, .inr (.inl F))), (h0, .inr (11, MO ma sv_thrown sv_length sv_nodes sv_many sv_directories sv_runsFrom sv_runs sv_read wr_103 sv_isNamed sv_goes sv_goesSize sv_goesAt sv_targetParts sv_isRoot))] H := hP
      have hD : va_D A [((ma 28), .inl (cB, 6000, .inl fN)), ((ma 29), .inl (cI, 100, .inl fNS)), ((ma 16), .inl (cJ, 46080, .inr (.inl F))), (h0, .inr (11, MO ma sv_thrown sv_length sv_nodes sv_many sv_directories sv_runsFrom sv_runs sv_read wr_103 sv_isNamed sv_goes sv_goesSize sv_goesAt sv_targetParts sv_isRoot))] := hD
      try dsimp only at hp_r102
      have hr_104 := hp_r102
      have hP9 := hP.sub (ws' := [(h0, .inr (11, MO ma sv_thrown sv_length sv_nodes sv_many sv_directories sv_runsFrom sv_runs sv_read wr_103 sv_isNamed sv_goes sv_goesSize sv_goesAt sv_targetParts sv_isRoot)), ((ma 16), .inl (cJ, 46080, .inr (.inl F))), ((ma 28), .inl (cB, 6000, .inl fN)), ((ma 29), .inl (cI, 100, .inl fNS))]) [3, 2, 0, 1] rfl
      have hD9 := hD.sub (ws' := [(h0, .inr (11, MO ma sv_thrown sv_length sv_nodes sv_many sv_directories sv_runsFrom sv_runs sv_read wr_103 sv_isNamed sv_goes sv_goesSize sv_goesAt sv_targetParts sv_isRoot)), ((ma 16), .inl (cJ, 46080, .inr (.inl F))), ((ma 28), .inl (cB, 6000, .inl fN)), ((ma 29), .inl (cI, 100, .inl fNS))]) [3, 2, 0, 1] (by decide +kernel) rfl
      exact W.zret (v := r102) hx hb hr (by first | rfl | decide | exact i_narZ (by omega)) (fun t ht hW => ⟨⟨r102, (wr_103, fN, fNS), rfl, ⟨(by (try dsimp only); first | assumption | omega | trivial), (by (try dsimp only); first | assumption | omega | trivial)⟩, by rw [ht]; exact hP9, hD9⟩, hS.F ht⟩) hS.2.2 d_DiscMakerModel_plainName_28
