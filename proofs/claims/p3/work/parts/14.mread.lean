theorem d_DiscMakerModel_at_0 : decode b_DiscMakerModel_at 0 = .ok (.aload_n 0, 1) := by decide +kernel
theorem d_DiscMakerModel_at_1 : decode b_DiscMakerModel_at 1 = .ok (.getfield 60, 3) := by decide +kernel
theorem d_DiscMakerModel_at_4 : decode b_DiscMakerModel_at 4 = .ok (.iload_n 1, 1) := by decide +kernel
theorem d_DiscMakerModel_at_5 : decode b_DiscMakerModel_at 5 = .ok (.iconst 3, 1) := by decide +kernel
theorem d_DiscMakerModel_at_6 : decode b_DiscMakerModel_at 6 = .ok (.ishr, 1) := by decide +kernel
theorem d_DiscMakerModel_at_7 : decode b_DiscMakerModel_at 7 = .ok (.laload, 1) := by decide +kernel
theorem d_DiscMakerModel_at_8 : decode b_DiscMakerModel_at 8 = .ok (.bipush 8, 2) := by decide +kernel
theorem d_DiscMakerModel_at_10 : decode b_DiscMakerModel_at 10 = .ok (.iload_n 1, 1) := by decide +kernel
theorem d_DiscMakerModel_at_11 : decode b_DiscMakerModel_at 11 = .ok (.bipush 7, 2) := by decide +kernel
theorem d_DiscMakerModel_at_13 : decode b_DiscMakerModel_at 13 = .ok (.iand, 1) := by decide +kernel
theorem d_DiscMakerModel_at_14 : decode b_DiscMakerModel_at 14 = .ok (.imul, 1) := by decide +kernel
theorem d_DiscMakerModel_at_15 : decode b_DiscMakerModel_at 15 = .ok (.lshr, 1) := by decide +kernel
theorem d_DiscMakerModel_at_16 : decode b_DiscMakerModel_at 16 = .ok (.ldc2_w 188, 3) := by decide +kernel
theorem d_DiscMakerModel_at_19 : decode b_DiscMakerModel_at 19 = .ok (.land, 1) := by decide +kernel
theorem d_DiscMakerModel_at_20 : decode b_DiscMakerModel_at 20 = .ok (.l2i, 1) := by decide +kernel
theorem d_DiscMakerModel_at_21 : decode b_DiscMakerModel_at 21 = .ok (.ireturn, 1) := by decide +kernel
set_option maxHeartbeats 4000000 in
set_option maxRecDepth 100000 in
theorem m_at (l : Launch) (D : va_G) (cB cI cJ cZ cN cF : ClassId) (sz : Nat) (h0 : Nat) (ma : Nat → Nat) (sv_thrown sv_length sv_nodes sv_many sv_directories sv_runsFrom sv_runs sv_read sv_wrong sv_isNamed sv_goes sv_goesSize sv_goesAt sv_targetParts sv_isRoot : Int32) (F : Nat → Int64) (x : Int32) (hx0 : 0 ≤ x.toInt) (hx1 : x.toInt < 368640) : Met l y_DiscMakerModel_at w_DiscMakerModel_at ({ frames := 0, cells := 0, slots := 0, locals := 0 }) (va_Pc [.ref h0, .int x] (fun U => U.heap.size = sz ∧ va_P D CL [(h0, .inr (11, MO ma sv_thrown sv_length sv_nodes sv_many sv_directories sv_runsFrom sv_runs sv_read sv_wrong sv_isNamed sv_goes sv_goesSize sv_goesAt sv_targetParts sv_isRoot)), ((ma 16), .inl (cJ, 46080, .inr (.inl F)))] U.heap ∧ va_K D CL (TY cB cI cJ cZ cN cF) U ∧ NN U ∧ va_D (fun _ => True) [(h0, .inr (11, MO ma sv_thrown sv_length sv_nodes sv_many sv_directories sv_runsFrom sv_runs sv_read sv_wrong sv_isNamed sv_goes sv_goesSize sv_goesAt sv_targetParts sv_isRoot)), ((ma 16), .inl (cJ, 46080, .inr (.inl F)))])) (va_Qi (fun (r : Int32) (u : Unit) => (0 ≤ r.toInt ∧ r.toInt ≤ 255) ∧ (r = atF F x) ∧ (r.toInt = (atF F x).toInt)) (fun (u : Unit) (t : State) => match u with | () => va_P D CL [(h0, .inr (11, MO ma sv_thrown sv_length sv_nodes sv_many sv_directories sv_runsFrom sv_runs sv_read sv_wrong sv_isNamed sv_goes sv_goesSize sv_goesAt sv_targetParts sv_isRoot)), ((ma 16), .inl (cJ, 46080, .inr (.inl F)))] t.heap ∧ va_D (va_A [(h0, .inr (11, MO ma sv_thrown sv_length sv_nodes sv_many sv_directories sv_runsFrom sv_runs sv_read sv_wrong sv_isNamed sv_goes sv_goesSize sv_goesAt sv_targetParts sv_isRoot)), ((ma 16), .inl (cJ, 46080, .inr (.inl F)))] sz) [(h0, .inr (11, MO ma sv_thrown sv_length sv_nodes sv_many sv_directories sv_runsFrom sv_runs sv_read sv_wrong sv_isNamed sv_goes sv_goesSize sv_goesAt sv_targetParts sv_isRoot)), ((ma 16), .inl (cJ, 46080, .inr (.inl F)))]) (va_A [(h0, .inr (11, MO ma sv_thrown sv_length sv_nodes sv_many sv_directories sv_runsFrom sv_runs sv_read sv_wrong sv_isNamed sv_goes sv_goesSize sv_goesAt sv_targetParts sv_isRoot)), ((ma 16), .inl (cJ, 46080, .inr (.inl F)))] sz)) 0 0 (va_A [(h0, .inr (11, MO ma sv_thrown sv_length sv_nodes sv_many sv_directories sv_runsFrom sv_runs sv_read sv_wrong sv_isNamed sv_goes sv_goesSize sv_goesAt sv_targetParts sv_isRoot)), ((ma 16), .inl (cJ, 46080, .inr (.inl F)))] sz) := by
  refine Met.ofW (cc := b_DiscMakerModel_at) (maxL := 2) (ret := some .int) (by decide) rfl ?_
  intro p e s m args below meth c s₁ B hml hv
  obtain ⟨rfl, hsz, hP, hK, hN, hD0⟩ := hv
  have hx := B.exec
  have hb := B.bytes
  have hr := B.returns
  have hts := atoms_spec (ws := w_DiscMakerModel_at) B.pre
  have ht9 := fun (w : Cond) (h : w ∈ lw_g) => hts w (List.mem_cons_of_mem _ h)
  have hown : s.vm.findClass "DiscMakerModel" = some m.cls := findClass_of_methodNamed B.named
  have hlocks := B.notSynchronized
  subst hsz
  have hD := hD0.self (sz := s.heap.size)
  generalize hAe : va_A [(h0, .inr (11, MO ma sv_thrown sv_length sv_nodes sv_many sv_directories sv_runsFrom sv_runs sv_read sv_wrong sv_isNamed sv_goes sv_goesSize sv_goesAt sv_targetParts sv_isRoot)), ((ma 16), .inl (cJ, 46080, .inr (.inl F)))] s.heap.size = A at hD ⊢
  have hA : ∀ q : Nat, s.heap.size ≤ q → A q := fun q h => by rw [← hAe]; exact Or.inr h
  have hS : va_S A s.heap s.heap [] := va_S.rf
  have hP : va_P D CL [(h0, .inr (11, MO ma sv_thrown sv_length sv_nodes sv_many sv_directories sv_runsFrom sv_runs sv_read sv_wrong sv_isNamed sv_goes sv_goesSize sv_goesAt sv_targetParts sv_isRoot)), ((ma 16), .inl (cJ, 46080, .inr (.inl F)))] s.heap := hP
  have hl := lv_entry [.ref h0, .int x] (n := 2) (Nat.le_of_ble_eq_true rfl)
  rw [lg_entry_eq]
  generalize (lg_sl [.ref h0, .int x] ++ List.replicate (2 - (lg_sl [.ref h0, .int x]).length) Slot.unset).toArray = ls at hl ⊢
  have hl : lv_has ls 2 [(0, .ref h0), (1, .int x)] := hl
  have L_m1 : ((-1) : Int32).toInt = (-1) := by decide
  have L_0 : (0 : Int32).toInt = 0 := by decide
  have L_1 : (1 : Int32).toInt = 1 := by decide
  have L_3 : (3 : Int32).toInt = 3 := by decide
  have L_7 : (7 : Int32).toInt = 7 := by decide
  have L_8 : (8 : Int32).toInt = 8 := by decide
  refine lv_aload_n hx hb d_DiscMakerModel_at_0 rfl (lv_at hl 0 rfl) ?_
  refine va_get (D := D) (ci := 11) (v := .ref (ma 16)) (C := "DiscMakerModel") (T := F_DiscMakerModel) (N := 48) hx hb ht9 in_DiscMakerModel hown hK hP 0 rfl rfl 19 (by decide) (ht9 _ k1450) (fun _ h9 => h9) rfl d_DiscMakerModel_at_1 ?_
  refine lv_iload_n hx hb d_DiscMakerModel_at_4 rfl (lv_at hl 1 rfl) ?_
  refine lv_iconst (v := 3) hx hb d_DiscMakerModel_at_5 (by decide) ?_
  refine lv_ishr hx hb d_DiscMakerModel_at_6 ?_
  refine lv_topi (fun v1 e_v1 => ?_)
  have t_v1 : v1.toInt = x.toInt / 8 := by rw [e_v1]; exact i_shr (k := 3) rfl (by decide) (by decide)
  refine va_lald hx hb hK hP 1 2 rfl rfl (vp_in_iff.mpr ⟨by omega, by omega⟩) d_DiscMakerModel_at_7 ?_
  refine lv_bipush (v := 8) hx hb d_DiscMakerModel_at_8 (by decide) ?_
  refine lv_iload_n hx hb d_DiscMakerModel_at_10 rfl (lv_at hl 1 rfl) ?_
  refine lv_bipush (v := 7) hx hb d_DiscMakerModel_at_11 (by decide) ?_
  refine lv_iand hx hb d_DiscMakerModel_at_13 ?_
  refine lv_topi (fun v2 e_v2 => ?_)
  have t_v2 : 0 ≤ v2.toInt ∧ v2.toInt ≤ 7 := by rw [e_v2]; exact i_and (by decide) (by decide)
  refine lv_imul hx hb d_DiscMakerModel_at_14 ?_
  refine lv_topi (fun v3 e_v3 => ?_)
  have t_v3 : v3.toInt = 8 * v2.toInt := by rw [e_v3]; exact i_mul (by decide) rfl (by omega) (by omega)
  refine lv_lshr hx hb d_DiscMakerModel_at_15 rfl ?_
  refine lv_ldc2 (v := 255) hx hb hown (ht9 _ k1731) d_DiscMakerModel_at_16 ?_
  refine lv_land hx hb d_DiscMakerModel_at_19 ?_
  refine lv_l2i hx hb d_DiscMakerModel_at_20 rfl ?_
  refine lv_topi (fun v4 e_v4 => ?_)
  have t_v4 : 0 ≤ v4.toInt ∧ v4.toInt ≤ 255 := by rw [e_v4]; exact i_and255 _
  have hP9 := hP.sub (ws' := [(h0, .inr (11, MO ma sv_thrown sv_length sv_nodes sv_many sv_directories sv_runsFrom sv_runs sv_read sv_wrong sv_isNamed sv_goes sv_goesSize sv_goesAt sv_targetParts sv_isRoot)), ((ma 16), .inl (cJ, 46080, .inr (.inl F)))]) [0, 1] rfl
  have hD9 := hD.sub (ws' := [(h0, .inr (11, MO ma sv_thrown sv_length sv_nodes sv_many sv_directories sv_runsFrom sv_runs sv_read sv_wrong sv_isNamed sv_goes sv_goesSize sv_goesAt sv_targetParts sv_isRoot)), ((ma 16), .inl (cJ, 46080, .inr (.inl F)))]) [0, 1] (by decide +kernel) rfl
  exact W.iret (v := v4) hx hb hr (fun t ht hW => ⟨⟨v4, (), rfl, ⟨(by (try dsimp only); first | assumption | omega | trivial), (by subst_vars; rfl), (by subst_vars; rfl)⟩, by rw [ht]; exact hP9, hD9⟩, hS.F ht⟩) hS.2.2 d_DiscMakerModel_at_21

theorem d_DiscMakerModel_lowAt_0 : decode b_DiscMakerModel_lowAt 0 = .ok (.iconst 0, 1) := by decide +kernel
theorem d_DiscMakerModel_lowAt_1 : decode b_DiscMakerModel_lowAt 1 = .ok (.istore_n 3, 1) := by decide +kernel
theorem d_DiscMakerModel_lowAt_2 : decode b_DiscMakerModel_lowAt 2 = .ok (.iload_n 2, 1) := by decide +kernel
theorem d_DiscMakerModel_lowAt_3 : decode b_DiscMakerModel_lowAt 3 = .ok (.iconst 1, 1) := by decide +kernel
theorem d_DiscMakerModel_lowAt_4 : decode b_DiscMakerModel_lowAt 4 = .ok (.isub, 1) := by decide +kernel
theorem d_DiscMakerModel_lowAt_5 : decode b_DiscMakerModel_lowAt 5 = .ok (.istore 4, 2) := by decide +kernel
theorem d_DiscMakerModel_lowAt_7 : decode b_DiscMakerModel_lowAt 7 = .ok (.iload 4, 2) := by decide +kernel
theorem d_DiscMakerModel_lowAt_9 : decode b_DiscMakerModel_lowAt 9 = .ok (.ifCond .lt 23, 3) := by decide +kernel
theorem d_DiscMakerModel_lowAt_12 : decode b_DiscMakerModel_lowAt 12 = .ok (.iload_n 3, 1) := by decide +kernel
theorem d_DiscMakerModel_lowAt_13 : decode b_DiscMakerModel_lowAt 13 = .ok (.bipush 8, 2) := by decide +kernel
theorem d_DiscMakerModel_lowAt_15 : decode b_DiscMakerModel_lowAt 15 = .ok (.ishl, 1) := by decide +kernel
theorem d_DiscMakerModel_lowAt_16 : decode b_DiscMakerModel_lowAt 16 = .ok (.aload_n 0, 1) := by decide +kernel
theorem d_DiscMakerModel_lowAt_17 : decode b_DiscMakerModel_lowAt 17 = .ok (.iload_n 1, 1) := by decide +kernel
theorem d_DiscMakerModel_lowAt_18 : decode b_DiscMakerModel_lowAt 18 = .ok (.iload 4, 2) := by decide +kernel
theorem d_DiscMakerModel_lowAt_20 : decode b_DiscMakerModel_lowAt 20 = .ok (.iadd, 1) := by decide +kernel
theorem d_DiscMakerModel_lowAt_21 : decode b_DiscMakerModel_lowAt 21 = .ok (.invokevirtual 303, 3) := by decide +kernel
theorem d_DiscMakerModel_lowAt_24 : decode b_DiscMakerModel_lowAt 24 = .ok (.ior, 1) := by decide +kernel
theorem d_DiscMakerModel_lowAt_25 : decode b_DiscMakerModel_lowAt 25 = .ok (.istore_n 3, 1) := by decide +kernel
theorem d_DiscMakerModel_lowAt_26 : decode b_DiscMakerModel_lowAt 26 = .ok (.iinc 4 (-1), 3) := by decide +kernel
theorem d_DiscMakerModel_lowAt_29 : decode b_DiscMakerModel_lowAt 29 = .ok (.goto (-22), 3) := by decide +kernel
theorem d_DiscMakerModel_lowAt_32 : decode b_DiscMakerModel_lowAt 32 = .ok (.iload_n 3, 1) := by decide +kernel
theorem d_DiscMakerModel_lowAt_33 : decode b_DiscMakerModel_lowAt 33 = .ok (.ireturn, 1) := by decide +kernel
set_option maxHeartbeats 4000000 in
set_option maxRecDepth 100000 in
theorem m_lowAt2 (l : Launch) (D : va_G) (cB cI cJ cZ cN cF : ClassId) (sz : Nat) (h0 : Nat) (ma : Nat → Nat) (sv_thrown sv_length sv_nodes sv_many sv_directories sv_runsFrom sv_runs sv_read sv_wrong sv_isNamed sv_goes sv_goesSize sv_goesAt sv_targetParts sv_isRoot : Int32) (F : Nat → Int64) (x : Int32) (hx0 : 0 ≤ x.toInt) (hx1 : x.toInt + 2 ≤ 368640) : Met l y_DiscMakerModel_lowAt w_DiscMakerModel_lowAt ({ frames := 1, cells := 0, slots := 0, locals := 21 }) (va_Pc [.ref h0, .int x, .int 2] (fun U => U.heap.size = sz ∧ va_P D CL [(h0, .inr (11, MO ma sv_thrown sv_length sv_nodes sv_many sv_directories sv_runsFrom sv_runs sv_read sv_wrong sv_isNamed sv_goes sv_goesSize sv_goesAt sv_targetParts sv_isRoot)), ((ma 16), .inl (cJ, 46080, .inr (.inl F)))] U.heap ∧ va_K D CL (TY cB cI cJ cZ cN cF) U ∧ NN U ∧ va_D (fun _ => True) [(h0, .inr (11, MO ma sv_thrown sv_length sv_nodes sv_many sv_directories sv_runsFrom sv_runs sv_read sv_wrong sv_isNamed sv_goes sv_goesSize sv_goesAt sv_targetParts sv_isRoot)), ((ma 16), .inl (cJ, 46080, .inr (.inl F)))])) (va_Qi (fun (r : Int32) (u : Unit) => (r = low2F F x)) (fun (u : Unit) (t : State) => match u with | () => va_P D CL [(h0, .inr (11, MO ma sv_thrown sv_length sv_nodes sv_many sv_directories sv_runsFrom sv_runs sv_read sv_wrong sv_isNamed sv_goes sv_goesSize sv_goesAt sv_targetParts sv_isRoot)), ((ma 16), .inl (cJ, 46080, .inr (.inl F)))] t.heap ∧ va_D (va_A [(h0, .inr (11, MO ma sv_thrown sv_length sv_nodes sv_many sv_directories sv_runsFrom sv_runs sv_read sv_wrong sv_isNamed sv_goes sv_goesSize sv_goesAt sv_targetParts sv_isRoot)), ((ma 16), .inl (cJ, 46080, .inr (.inl F)))] sz) [(h0, .inr (11, MO ma sv_thrown sv_length sv_nodes sv_many sv_directories sv_runsFrom sv_runs sv_read sv_wrong sv_isNamed sv_goes sv_goesSize sv_goesAt sv_targetParts sv_isRoot)), ((ma 16), .inl (cJ, 46080, .inr (.inl F)))]) (va_A [(h0, .inr (11, MO ma sv_thrown sv_length sv_nodes sv_many sv_directories sv_runsFrom sv_runs sv_read sv_wrong sv_isNamed sv_goes sv_goesSize sv_goesAt sv_targetParts sv_isRoot)), ((ma 16), .inl (cJ, 46080, .inr (.inl F)))] sz)) 0 0 (va_A [(h0, .inr (11, MO ma sv_thrown sv_length sv_nodes sv_many sv_directories sv_runsFrom sv_runs sv_read sv_wrong sv_isNamed sv_goes sv_goesSize sv_goesAt sv_targetParts sv_isRoot)), ((ma 16), .inl (cJ, 46080, .inr (.inl F)))] sz) := by
  refine Met.ofW (cc := b_DiscMakerModel_lowAt) (maxL := 5) (ret := some .int) (by decide) rfl ?_
  intro p e s m args below meth c s₁ B hml hv
  obtain ⟨rfl, hsz, hP, hK, hN, hD0⟩ := hv
  have hx := B.exec
  have hb := B.bytes
  have hr := B.returns
  have hts := atoms_spec (ws := w_DiscMakerModel_lowAt) B.pre
  have ht9 := fun (w : Cond) (h : w ∈ lw_g) => hts w (List.mem_cons_of_mem _ h)
  have hown : s.vm.findClass "DiscMakerModel" = some m.cls := findClass_of_methodNamed B.named
  have hlocks := B.notSynchronized
  subst hsz
  have hD := hD0.self (sz := s.heap.size)
  generalize hAe : va_A [(h0, .inr (11, MO ma sv_thrown sv_length sv_nodes sv_many sv_directories sv_runsFrom sv_runs sv_read sv_wrong sv_isNamed sv_goes sv_goesSize sv_goesAt sv_targetParts sv_isRoot)), ((ma 16), .inl (cJ, 46080, .inr (.inl F)))] s.heap.size = A at hD ⊢
  have hA : ∀ q : Nat, s.heap.size ≤ q → A q := fun q h => by rw [← hAe]; exact Or.inr h
  have hS : va_S A s.heap s.heap [] := va_S.rf
  have hP : va_P D CL [(h0, .inr (11, MO ma sv_thrown sv_length sv_nodes sv_many sv_directories sv_runsFrom sv_runs sv_read sv_wrong sv_isNamed sv_goes sv_goesSize sv_goesAt sv_targetParts sv_isRoot)), ((ma 16), .inl (cJ, 46080, .inr (.inl F)))] s.heap := hP
  have hl := lv_entry [.ref h0, .int x, .int 2] (n := 5) (Nat.le_of_ble_eq_true rfl)
  rw [lg_entry_eq]
  generalize (lg_sl [.ref h0, .int x, .int 2] ++ List.replicate (5 - (lg_sl [.ref h0, .int x, .int 2]).length) Slot.unset).toArray = ls at hl ⊢
  have hl : lv_has ls 5 [(0, .ref h0), (1, .int x), (2, .int 2)] := hl
  have L_m1 : ((-1) : Int32).toInt = (-1) := by decide
  have L_0 : (0 : Int32).toInt = 0 := by decide
  have L_1 : (1 : Int32).toInt = 1 := by decide
  have L_8 : (8 : Int32).toInt = 8 := by decide
  refine lv_iconst (v := 0) hx hb d_DiscMakerModel_lowAt_0 (by decide) ?_
  refine lv_istore_n hx hb d_DiscMakerModel_lowAt_1 rfl hl (by decide) rfl (fun ls hl => ?_)
  have hl : lv_has ls 5 [(3, .int 0), (0, .ref h0), (1, .int x), (2, .int 2)] := hl
  refine lv_iload_n hx hb d_DiscMakerModel_lowAt_2 rfl (lv_at hl 3 rfl) ?_
  refine lv_iconst (v := 1) hx hb d_DiscMakerModel_lowAt_3 (by decide) ?_
  refine lv_isub hx hb d_DiscMakerModel_lowAt_4 ?_
  refine W.eq (g2 := F0 m 5 ls [.int 1]) (by rw [show ((2 : Int32) - 1) = 1 from by decide]) ?_
  refine lv_istore hx hb d_DiscMakerModel_lowAt_5 hl (by decide) rfl (fun ls hl => ?_)
  have hl : lv_has ls 5 [(4, .int 1), (3, .int 0), (0, .ref h0), (1, .int x), (2, .int 2)] := hl
  refine lv_iload hx hb d_DiscMakerModel_lowAt_7 (lv_at hl 0 rfl) ?_
  refine lv_if_lt (tgt := 32) hx hb d_DiscMakerModel_lowAt_9 (by decide) (fun h_9 => absurd h_9 (by decide)) (fun _ => ?_)
  refine lv_iload_n hx hb d_DiscMakerModel_lowAt_12 rfl (lv_at hl 1 rfl) ?_
  refine lv_bipush (v := 8) hx hb d_DiscMakerModel_lowAt_13 (by decide) ?_
  refine lv_ishl hx hb d_DiscMakerModel_lowAt_15 ?_
  refine lv_topi (fun v1 e_v1 => ?_)
  refine lv_aload_n hx hb d_DiscMakerModel_lowAt_16 rfl (lv_at hl 2 rfl) ?_
  refine lv_iload_n hx hb d_DiscMakerModel_lowAt_17 rfl (lv_at hl 3 rfl) ?_
  refine lv_iload hx hb d_DiscMakerModel_lowAt_18 (lv_at hl 0 rfl) ?_
  refine lv_iadd hx hb d_DiscMakerModel_lowAt_20 ?_
  refine lv_topi (fun v2 e_v2 => ?_)
  have t_v2 : v2.toInt = x.toInt + 1 := by rw [e_v2]; exact i_add rfl (by decide) (by omega) (by omega)
  have hPc := hP.sub (ws' := [(h0, .inr (11, MO ma sv_thrown sv_length sv_nodes sv_many sv_directories sv_runsFrom sv_runs sv_read sv_wrong sv_isNamed sv_goes sv_goesSize sv_goesAt sv_targetParts sv_isRoot)), ((ma 16), .inl (cJ, 46080, .inr (.inl F)))]) [0, 1] rfl
  have hDc := hD.sub (ws' := [(h0, .inr (11, MO ma sv_thrown sv_length sv_nodes sv_many sv_directories sv_runsFrom sv_runs sv_read sv_wrong sv_isNamed sv_goes sv_goesSize sv_goesAt sv_targetParts sv_isRoot)), ((ma 16), .inl (cJ, 46080, .inr (.inl F)))]) [0, 1] (by decide +kernel) rfl
  have hFc := va_free (wc := [(h0, .inr (11, MO ma sv_thrown sv_length sv_nodes sv_many sv_directories sv_runsFrom sv_runs sv_read sv_wrong sv_isNamed sv_goes sv_goesSize sv_goesAt sv_targetParts sv_isRoot)), ((ma 16), .inl (cJ, 46080, .inr (.inl F)))]) hD hS hA [0, 1] rfl
  have hkc : 0 ≤ 0 := by decide
  have hks : 0 ≤ 0 := by decide
  refine va_calli (va_runV (C := "DiscMakerModel") (As := [.int v2]) (rest := [.int v1]) ⟨hx, hb, hml, hown, hts⟩ (m_at l D cB cI cJ cZ cN cF s.heap.size h0 ma sv_thrown sv_length sv_nodes sv_many sv_directories sv_runsFrom sv_runs sv_read sv_wrong sv_isNamed sv_goes sv_goesSize sv_goesAt sv_targetParts sv_isRoot F v2 (by (try dsimp only); first | assumption | omega | trivial) (by (try dsimp only); first | assumption | omega | trivial)) (cwV 1 hts (lg_goodV k1809 k1811 k95 k125 kc_DiscMakerModel_at) rfl rfl rfl (by decide +kernel) ⟨Nat.le_of_ble_eq_true rfl, Nat.le_of_ble_eq_true rfl⟩) ⟨fun a U g mk q => by obtain ⟨q0, q1, qP, qK, qN, qD⟩ := q; exact ⟨q0, q1, qP, va_K.moved (u := U) (U := U.calling g mk a) (Vm.Alike.refl U.vm) qK, qN.calling, qD⟩, va_recv hK hP (ci := 11) (q0 := 0) rfl rfl, fun U hU hW => ⟨rfl, by rw [hU], by rw [hU]; exact hPc, va_K.moved hW.alike hK, NN.warm hW hN, hDc.weaken (fun _ _ _ _ => trivial)⟩⟩ rfl rfl hl.1 rfl (lv_room (Nat.le_of_ble_eq_true rfl)) d_DiscMakerModel_lowAt_21 ⟨hkc, hks⟩) hS (fun q _ h => hFc q h) hFc (fun r3 u t H1 locs ht hvm hp_r3 hB hz1 hk1 hS => ?_)
  obtain ⟨hP1, hD1⟩ := hB
  rw [ht] at hP1
  obtain ⟨hP, hD⟩ := va_join (wr := []) (w1 := [(h0, .inr (11, MO ma sv_thrown sv_length sv_nodes sv_many sv_directories sv_runsFrom sv_runs sv_read sv_wrong sv_isNamed sv_goes sv_goesSize sv_goesAt sv_targetParts sv_isRoot)), ((ma 16), .inl (cJ, 46080, .inr (.inl F)))]) hP hD [0, 1] [] rfl rfl (by decide +kernel) (by decide +kernel) hk1 hFc hP1 hD1
  clear hPc hDc hFc hP1 hD1 hk1 hz1 hkc hks
  generalize H1 = H at hP hS ⊢
  have hP : va_P D CL [(h0, .inr (11, MO ma sv_thrown sv_length sv_nodes sv_many sv_directories sv_runsFrom sv_runs sv_read sv_wrong sv_isNamed sv_goes sv_goesSize sv_goesAt sv_targetParts sv_isRoot)), ((ma 16), .inl (cJ, 46080, .inr (.inl F)))] H := hP
  have hD : va_D A [(h0, .inr (11, MO ma sv_thrown sv_length sv_nodes sv_many sv_directories sv_runsFrom sv_runs sv_read sv_wrong sv_isNamed sv_goes sv_goesSize sv_goesAt sv_targetParts sv_isRoot)), ((ma 16), .inl (cJ, 46080, .inr (.inl F)))] := hD
  try dsimp only at hp_r3
  obtain ⟨hr_4, hv_5, hw_6⟩ := hp_r3
  refine lv_ior hx hb d_DiscMakerModel_lowAt_24 ?_
  refine lv_topi (fun v7 e_v7 => ?_)
  refine lv_istore_n hx hb d_DiscMakerModel_lowAt_25 rfl hl (by decide) rfl (fun ls hl => ?_)
  have hl : lv_has ls 5 [(3, .int v7), (4, .int 1), (0, .ref h0), (1, .int x), (2, .int 2)] := hl
  refine lv_iinc (v := 0) hx hb d_DiscMakerModel_lowAt_26 hl (k := 1) rfl (by decide) (by decide +kernel) rfl (fun ls hl => ?_)
  have hl : lv_has ls 5 [(4, .int 0), (3, .int v7), (0, .ref h0), (1, .int x), (2, .int 2)] := hl
  refine lv_goto (tgt := 7) hx hb d_DiscMakerModel_lowAt_29 (by decide) ?_
  refine lv_iload hx hb d_DiscMakerModel_lowAt_7 (lv_at hl 0 rfl) ?_
  refine lv_if_lt (tgt := 32) hx hb d_DiscMakerModel_lowAt_9 (by decide) (fun h_9 => absurd h_9 (by decide)) (fun _ => ?_)
  refine lv_iload_n hx hb d_DiscMakerModel_lowAt_12 rfl (lv_at hl 1 rfl) ?_
  refine lv_bipush (v := 8) hx hb d_DiscMakerModel_lowAt_13 (by decide) ?_
  refine lv_ishl hx hb d_DiscMakerModel_lowAt_15 ?_
  refine lv_topi (fun v8 e_v8 => ?_)
  refine lv_aload_n hx hb d_DiscMakerModel_lowAt_16 rfl (lv_at hl 2 rfl) ?_
  refine lv_iload_n hx hb d_DiscMakerModel_lowAt_17 rfl (lv_at hl 3 rfl) ?_
  refine lv_iload hx hb d_DiscMakerModel_lowAt_18 (lv_at hl 0 rfl) ?_
  refine lv_iadd hx hb d_DiscMakerModel_lowAt_20 ?_
  refine lv_topi (fun v9 e_v9 => ?_)
  have t_v9 : v9.toInt = x.toInt + 0 := by rw [e_v9]; exact i_add rfl (by decide) (by omega) (by omega)
  have hPc := hP.sub (ws' := [(h0, .inr (11, MO ma sv_thrown sv_length sv_nodes sv_many sv_directories sv_runsFrom sv_runs sv_read sv_wrong sv_isNamed sv_goes sv_goesSize sv_goesAt sv_targetParts sv_isRoot)), ((ma 16), .inl (cJ, 46080, .inr (.inl F)))]) [0, 1] rfl
  have hDc := hD.sub (ws' := [(h0, .inr (11, MO ma sv_thrown sv_length sv_nodes sv_many sv_directories sv_runsFrom sv_runs sv_read sv_wrong sv_isNamed sv_goes sv_goesSize sv_goesAt sv_targetParts sv_isRoot)), ((ma 16), .inl (cJ, 46080, .inr (.inl F)))]) [0, 1] (by decide +kernel) rfl
  have hFc := va_free (wc := [(h0, .inr (11, MO ma sv_thrown sv_length sv_nodes sv_many sv_directories sv_runsFrom sv_runs sv_read sv_wrong sv_isNamed sv_goes sv_goesSize sv_goesAt sv_targetParts sv_isRoot)), ((ma 16), .inl (cJ, 46080, .inr (.inl F)))]) hD hS hA [0, 1] rfl
  have hkc : 0 ≤ 0 := by decide
  have hks : 0 ≤ 0 := by decide
  refine va_calli (va_runV (C := "DiscMakerModel") (As := [.int v9]) (rest := [.int v8]) ⟨hx, hb, hml, hown, hts⟩ (m_at l D cB cI cJ cZ cN cF H.size h0 ma sv_thrown sv_length sv_nodes sv_many sv_directories sv_runsFrom sv_runs sv_read sv_wrong sv_isNamed sv_goes sv_goesSize sv_goesAt sv_targetParts sv_isRoot F v9 (by (try dsimp only); first | assumption | omega | trivial) (by (try dsimp only); first | assumption | omega | trivial)) (cwV 1 hts (lg_goodV k1809 k1811 k95 k125 kc_DiscMakerModel_at) rfl rfl rfl (by decide +kernel) ⟨Nat.le_of_ble_eq_true rfl, Nat.le_of_ble_eq_true rfl⟩) ⟨fun a U g mk q => by obtain ⟨q0, q1, qP, qK, qN, qD⟩ := q; exact ⟨q0, q1, qP, va_K.moved (u := U) (U := U.calling g mk a) (Vm.Alike.refl U.vm) qK, qN.calling, qD⟩, va_recv hK hP (ci := 11) (q0 := 0) rfl rfl, fun U hU hW => ⟨rfl, by rw [hU], by rw [hU]; exact hPc, va_K.moved hW.alike hK, NN.warm hW hN, hDc.weaken (fun _ _ _ _ => trivial)⟩⟩ rfl rfl hl.1 rfl (lv_room (Nat.le_of_ble_eq_true rfl)) d_DiscMakerModel_lowAt_21 ⟨hkc, hks⟩) hS (fun q _ h => hFc q h) hFc (fun r10 u t H1 locs ht hvm hp_r10 hB hz1 hk1 hS => ?_)
  obtain ⟨hP1, hD1⟩ := hB
  rw [ht] at hP1
  obtain ⟨hP, hD⟩ := va_join (wr := []) (w1 := [(h0, .inr (11, MO ma sv_thrown sv_length sv_nodes sv_many sv_directories sv_runsFrom sv_runs sv_read sv_wrong sv_isNamed sv_goes sv_goesSize sv_goesAt sv_targetParts sv_isRoot)), ((ma 16), .inl (cJ, 46080, .inr (.inl F)))]) hP hD [0, 1] [] rfl rfl (by decide +kernel) (by decide +kernel) hk1 hFc hP1 hD1
  clear hPc hDc hFc hP1 hD1 hk1 hz1 hkc hks
  generalize H1 = H at hP hS ⊢
  have hP : va_P D CL [(h0, .inr (11, MO ma sv_thrown sv_length sv_nodes sv_many sv_directories sv_runsFrom sv_runs sv_read sv_wrong sv_isNamed sv_goes sv_goesSize sv_goesAt sv_targetParts sv_isRoot)), ((ma 16), .inl (cJ, 46080, .inr (.inl F)))] H := hP
  have hD : va_D A [(h0, .inr (11, MO ma sv_thrown sv_length sv_nodes sv_many sv_directories sv_runsFrom sv_runs sv_read sv_wrong sv_isNamed sv_goes sv_goesSize sv_goesAt sv_targetParts sv_isRoot)), ((ma 16), .inl (cJ, 46080, .inr (.inl F)))] := hD
  try dsimp only at hp_r10
  obtain ⟨hr_11, hv_12, hw_13⟩ := hp_r10
  refine lv_ior hx hb d_DiscMakerModel_lowAt_24 ?_
  refine lv_topi (fun v14 e_v14 => ?_)
  refine lv_istore_n hx hb d_DiscMakerModel_lowAt_25 rfl hl (by decide) rfl (fun ls hl => ?_)
  have hl : lv_has ls 5 [(3, .int v14), (4, .int 0), (0, .ref h0), (1, .int x), (2, .int 2)] := hl
  refine lv_iinc (v := (-1)) hx hb d_DiscMakerModel_lowAt_26 hl (k := 1) rfl (by decide) (by decide +kernel) rfl (fun ls hl => ?_)
  have hl : lv_has ls 5 [(4, .int (-1)), (3, .int v14), (0, .ref h0), (1, .int x), (2, .int 2)] := hl
  refine lv_goto (tgt := 7) hx hb d_DiscMakerModel_lowAt_29 (by decide) ?_
  refine lv_iload hx hb d_DiscMakerModel_lowAt_7 (lv_at hl 0 rfl) ?_
  refine lv_if_lt (tgt := 32) hx hb d_DiscMakerModel_lowAt_9 (by decide) (fun _ => ?_) (fun h_9 => absurd (by decide) h_9)
  refine lv_iload_n hx hb d_DiscMakerModel_lowAt_32 rfl (lv_at hl 1 rfl) ?_
  have hP9 := hP.sub (ws' := [(h0, .inr (11, MO ma sv_thrown sv_length sv_nodes sv_many sv_directories sv_runsFrom sv_runs sv_read sv_wrong sv_isNamed sv_goes sv_goesSize sv_goesAt sv_targetParts sv_isRoot)), ((ma 16), .inl (cJ, 46080, .inr (.inl F)))]) [0, 1] rfl
  have hD9 := hD.sub (ws' := [(h0, .inr (11, MO ma sv_thrown sv_length sv_nodes sv_many sv_directories sv_runsFrom sv_runs sv_read sv_wrong sv_isNamed sv_goes sv_goesSize sv_goesAt sv_targetParts sv_isRoot)), ((ma 16), .inl (cJ, 46080, .inr (.inl F)))]) [0, 1] (by decide +kernel) rfl
  exact W.iret (v := v14) hx hb hr (fun t ht hW => ⟨⟨v14, (), rfl, (by subst_vars; rfl), by rw [ht]; exact hP9, hD9⟩, hS.F ht⟩) hS.2.2 d_DiscMakerModel_lowAt_33

set_option maxHeartbeats 4000000 in
set_option maxRecDepth 100000 in
theorem m_lowAt4 (l : Launch) (D : va_G) (cB cI cJ cZ cN cF : ClassId) (sz : Nat) (h0 : Nat) (ma : Nat → Nat) (sv_thrown sv_length sv_nodes sv_many sv_directories sv_runsFrom sv_runs sv_read sv_wrong sv_isNamed sv_goes sv_goesSize sv_goesAt sv_targetParts sv_isRoot : Int32) (F : Nat → Int64) (x : Int32) (hx0 : 0 ≤ x.toInt) (hx1 : x.toInt + 4 ≤ 368640) : Met l y_DiscMakerModel_lowAt w_DiscMakerModel_lowAt ({ frames := 1, cells := 0, slots := 0, locals := 21 }) (va_Pc [.ref h0, .int x, .int 4] (fun U => U.heap.size = sz ∧ va_P D CL [(h0, .inr (11, MO ma sv_thrown sv_length sv_nodes sv_many sv_directories sv_runsFrom sv_runs sv_read sv_wrong sv_isNamed sv_goes sv_goesSize sv_goesAt sv_targetParts sv_isRoot)), ((ma 16), .inl (cJ, 46080, .inr (.inl F)))] U.heap ∧ va_K D CL (TY cB cI cJ cZ cN cF) U ∧ NN U ∧ va_D (fun _ => True) [(h0, .inr (11, MO ma sv_thrown sv_length sv_nodes sv_many sv_directories sv_runsFrom sv_runs sv_read sv_wrong sv_isNamed sv_goes sv_goesSize sv_goesAt sv_targetParts sv_isRoot)), ((ma 16), .inl (cJ, 46080, .inr (.inl F)))])) (va_Qi (fun (r : Int32) (u : Unit) => (r = low4F F x)) (fun (u : Unit) (t : State) => match u with | () => va_P D CL [(h0, .inr (11, MO ma sv_thrown sv_length sv_nodes sv_many sv_directories sv_runsFrom sv_runs sv_read sv_wrong sv_isNamed sv_goes sv_goesSize sv_goesAt sv_targetParts sv_isRoot)), ((ma 16), .inl (cJ, 46080, .inr (.inl F)))] t.heap ∧ va_D (va_A [(h0, .inr (11, MO ma sv_thrown sv_length sv_nodes sv_many sv_directories sv_runsFrom sv_runs sv_read sv_wrong sv_isNamed sv_goes sv_goesSize sv_goesAt sv_targetParts sv_isRoot)), ((ma 16), .inl (cJ, 46080, .inr (.inl F)))] sz) [(h0, .inr (11, MO ma sv_thrown sv_length sv_nodes sv_many sv_directories sv_runsFrom sv_runs sv_read sv_wrong sv_isNamed sv_goes sv_goesSize sv_goesAt sv_targetParts sv_isRoot)), ((ma 16), .inl (cJ, 46080, .inr (.inl F)))]) (va_A [(h0, .inr (11, MO ma sv_thrown sv_length sv_nodes sv_many sv_directories sv_runsFrom sv_runs sv_read sv_wrong sv_isNamed sv_goes sv_goesSize sv_goesAt sv_targetParts sv_isRoot)), ((ma 16), .inl (cJ, 46080, .inr (.inl F)))] sz)) 0 0 (va_A [(h0, .inr (11, MO ma sv_thrown sv_length sv_nodes sv_many sv_directories sv_runsFrom sv_runs sv_read sv_wrong sv_isNamed sv_goes sv_goesSize sv_goesAt sv_targetParts sv_isRoot)), ((ma 16), .inl (cJ, 46080, .inr (.inl F)))] sz) := by
  refine Met.ofW (cc := b_DiscMakerModel_lowAt) (maxL := 5) (ret := some .int) (by decide) rfl ?_
  intro p e s m args below meth c s₁ B hml hv
  obtain ⟨rfl, hsz, hP, hK, hN, hD0⟩ := hv
  have hx := B.exec
  have hb := B.bytes
  have hr := B.returns
  have hts := atoms_spec (ws := w_DiscMakerModel_lowAt) B.pre
  have ht9 := fun (w : Cond) (h : w ∈ lw_g) => hts w (List.mem_cons_of_mem _ h)
  have hown : s.vm.findClass "DiscMakerModel" = some m.cls := findClass_of_methodNamed B.named
  have hlocks := B.notSynchronized
  subst hsz
  have hD := hD0.self (sz := s.heap.size)
  generalize hAe : va_A [(h0, .inr (11, MO ma sv_thrown sv_length sv_nodes sv_many sv_directories sv_runsFrom sv_runs sv_read sv_wrong sv_isNamed sv_goes sv_goesSize sv_goesAt sv_targetParts sv_isRoot)), ((ma 16), .inl (cJ, 46080, .inr (.inl F)))] s.heap.size = A at hD ⊢
  have hA : ∀ q : Nat, s.heap.size ≤ q → A q := fun q h => by rw [← hAe]; exact Or.inr h
  have hS : va_S A s.heap s.heap [] := va_S.rf
  have hP : va_P D CL [(h0, .inr (11, MO ma sv_thrown sv_length sv_nodes sv_many sv_directories sv_runsFrom sv_runs sv_read sv_wrong sv_isNamed sv_goes sv_goesSize sv_goesAt sv_targetParts sv_isRoot)), ((ma 16), .inl (cJ, 46080, .inr (.inl F)))] s.heap := hP
  have hl := lv_entry [.ref h0, .int x, .int 4] (n := 5) (Nat.le_of_ble_eq_true rfl)
  rw [lg_entry_eq]
  generalize (lg_sl [.ref h0, .int x, .int 4] ++ List.replicate (5 - (lg_sl [.ref h0, .int x, .int 4]).length) Slot.unset).toArray = ls at hl ⊢
  have hl : lv_has ls 5 [(0, .ref h0), (1, .int x), (2, .int 4)] := hl
  have L_m1 : ((-1) : Int32).toInt = (-1) := by decide
  have L_0 : (0 : Int32).toInt = 0 := by decide
  have L_1 : (1 : Int32).toInt = 1 := by decide
  have L_8 : (8 : Int32).toInt = 8 := by decide
  refine lv_iconst (v := 0) hx hb d_DiscMakerModel_lowAt_0 (by decide) ?_
  refine lv_istore_n hx hb d_DiscMakerModel_lowAt_1 rfl hl (by decide) rfl (fun ls hl => ?_)
  have hl : lv_has ls 5 [(3, .int 0), (0, .ref h0), (1, .int x), (2, .int 4)] := hl
  refine lv_iload_n hx hb d_DiscMakerModel_lowAt_2 rfl (lv_at hl 3 rfl) ?_
  refine lv_iconst (v := 1) hx hb d_DiscMakerModel_lowAt_3 (by decide) ?_
  refine lv_isub hx hb d_DiscMakerModel_lowAt_4 ?_
  refine W.eq (g2 := F0 m 5 ls [.int 3]) (by rw [show ((4 : Int32) - 1) = 3 from by decide]) ?_
  have L_3 : (3 : Int32).toInt = 3 := by decide
  refine lv_istore hx hb d_DiscMakerModel_lowAt_5 hl (by decide) rfl (fun ls hl => ?_)
  have hl : lv_has ls 5 [(4, .int 3), (3, .int 0), (0, .ref h0), (1, .int x), (2, .int 4)] := hl
  refine lv_iload hx hb d_DiscMakerModel_lowAt_7 (lv_at hl 0 rfl) ?_
  refine lv_if_lt (tgt := 32) hx hb d_DiscMakerModel_lowAt_9 (by decide) (fun h_9 => absurd h_9 (by decide)) (fun _ => ?_)
  refine lv_iload_n hx hb d_DiscMakerModel_lowAt_12 rfl (lv_at hl 1 rfl) ?_
  refine lv_bipush (v := 8) hx hb d_DiscMakerModel_lowAt_13 (by decide) ?_
  refine lv_ishl hx hb d_DiscMakerModel_lowAt_15 ?_
  refine lv_topi (fun v1 e_v1 => ?_)
  refine lv_aload_n hx hb d_DiscMakerModel_lowAt_16 rfl (lv_at hl 2 rfl) ?_
  refine lv_iload_n hx hb d_DiscMakerModel_lowAt_17 rfl (lv_at hl 3 rfl) ?_
  refine lv_iload hx hb d_DiscMakerModel_lowAt_18 (lv_at hl 0 rfl) ?_
  refine lv_iadd hx hb d_DiscMakerModel_lowAt_20 ?_
  refine lv_topi (fun v2 e_v2 => ?_)
  have t_v2 : v2.toInt = x.toInt + 3 := by rw [e_v2]; exact i_add rfl (by decide) (by omega) (by omega)
  have hPc := hP.sub (ws' := [(h0, .inr (11, MO ma sv_thrown sv_length sv_nodes sv_many sv_directories sv_runsFrom sv_runs sv_read sv_wrong sv_isNamed sv_goes sv_goesSize sv_goesAt sv_targetParts sv_isRoot)), ((ma 16), .inl (cJ, 46080, .inr (.inl F)))]) [0, 1] rfl
  have hDc := hD.sub (ws' := [(h0, .inr (11, MO ma sv_thrown sv_length sv_nodes sv_many sv_directories sv_runsFrom sv_runs sv_read sv_wrong sv_isNamed sv_goes sv_goesSize sv_goesAt sv_targetParts sv_isRoot)), ((ma 16), .inl (cJ, 46080, .inr (.inl F)))]) [0, 1] (by decide +kernel) rfl
  have hFc := va_free (wc := [(h0, .inr (11, MO ma sv_thrown sv_length sv_nodes sv_many sv_directories sv_runsFrom sv_runs sv_read sv_wrong sv_isNamed sv_goes sv_goesSize sv_goesAt sv_targetParts sv_isRoot)), ((ma 16), .inl (cJ, 46080, .inr (.inl F)))]) hD hS hA [0, 1] rfl
  have hkc : 0 ≤ 0 := by decide
  have hks : 0 ≤ 0 := by decide
  refine va_calli (va_runV (C := "DiscMakerModel") (As := [.int v2]) (rest := [.int v1]) ⟨hx, hb, hml, hown, hts⟩ (m_at l D cB cI cJ cZ cN cF s.heap.size h0 ma sv_thrown sv_length sv_nodes sv_many sv_directories sv_runsFrom sv_runs sv_read sv_wrong sv_isNamed sv_goes sv_goesSize sv_goesAt sv_targetParts sv_isRoot F v2 (by (try dsimp only); first | assumption | omega | trivial) (by (try dsimp only); first | assumption | omega | trivial)) (cwV 1 hts (lg_goodV k1809 k1811 k95 k125 kc_DiscMakerModel_at) rfl rfl rfl (by decide +kernel) ⟨Nat.le_of_ble_eq_true rfl, Nat.le_of_ble_eq_true rfl⟩) ⟨fun a U g mk q => by obtain ⟨q0, q1, qP, qK, qN, qD⟩ := q; exact ⟨q0, q1, qP, va_K.moved (u := U) (U := U.calling g mk a) (Vm.Alike.refl U.vm) qK, qN.calling, qD⟩, va_recv hK hP (ci := 11) (q0 := 0) rfl rfl, fun U hU hW => ⟨rfl, by rw [hU], by rw [hU]; exact hPc, va_K.moved hW.alike hK, NN.warm hW hN, hDc.weaken (fun _ _ _ _ => trivial)⟩⟩ rfl rfl hl.1 rfl (lv_room (Nat.le_of_ble_eq_true rfl)) d_DiscMakerModel_lowAt_21 ⟨hkc, hks⟩) hS (fun q _ h => hFc q h) hFc (fun r3 u t H1 locs ht hvm hp_r3 hB hz1 hk1 hS => ?_)
  obtain ⟨hP1, hD1⟩ := hB
  rw [ht] at hP1
  obtain ⟨hP, hD⟩ := va_join (wr := []) (w1 := [(h0, .inr (11, MO ma sv_thrown sv_length sv_nodes sv_many sv_directories sv_runsFrom sv_runs sv_read sv_wrong sv_isNamed sv_goes sv_goesSize sv_goesAt sv_targetParts sv_isRoot)), ((ma 16), .inl (cJ, 46080, .inr (.inl F)))]) hP hD [0, 1] [] rfl rfl (by decide +kernel) (by decide +kernel) hk1 hFc hP1 hD1
  clear hPc hDc hFc hP1 hD1 hk1 hz1 hkc hks
  generalize H1 = H at hP hS ⊢
  have hP : va_P D CL [(h0, .inr (11, MO ma sv_thrown sv_length sv_nodes sv_many sv_directories sv_runsFrom sv_runs sv_read sv_wrong sv_isNamed sv_goes sv_goesSize sv_goesAt sv_targetParts sv_isRoot)), ((ma 16), .inl (cJ, 46080, .inr (.inl F)))] H := hP
  have hD : va_D A [(h0, .inr (11, MO ma sv_thrown sv_length sv_nodes sv_many sv_directories sv_runsFrom sv_runs sv_read sv_wrong sv_isNamed sv_goes sv_goesSize sv_goesAt sv_targetParts sv_isRoot)), ((ma 16), .inl (cJ, 46080, .inr (.inl F)))] := hD
  try dsimp only at hp_r3
  obtain ⟨hr_4, hv_5, hw_6⟩ := hp_r3
  refine lv_ior hx hb d_DiscMakerModel_lowAt_24 ?_
  refine lv_topi (fun v7 e_v7 => ?_)
  refine lv_istore_n hx hb d_DiscMakerModel_lowAt_25 rfl hl (by decide) rfl (fun ls hl => ?_)
  have hl : lv_has ls 5 [(3, .int v7), (4, .int 3), (0, .ref h0), (1, .int x), (2, .int 4)] := hl
  refine lv_iinc (v := 2) hx hb d_DiscMakerModel_lowAt_26 hl (k := 1) rfl (by decide) (by decide +kernel) rfl (fun ls hl => ?_)
  have L_2 : (2 : Int32).toInt = 2 := by decide
  have hl : lv_has ls 5 [(4, .int 2), (3, .int v7), (0, .ref h0), (1, .int x), (2, .int 4)] := hl
  refine lv_goto (tgt := 7) hx hb d_DiscMakerModel_lowAt_29 (by decide) ?_
  refine lv_iload hx hb d_DiscMakerModel_lowAt_7 (lv_at hl 0 rfl) ?_
  refine lv_if_lt (tgt := 32) hx hb d_DiscMakerModel_lowAt_9 (by decide) (fun h_9 => absurd h_9 (by decide)) (fun _ => ?_)
  refine lv_iload_n hx hb d_DiscMakerModel_lowAt_12 rfl (lv_at hl 1 rfl) ?_
  refine lv_bipush (v := 8) hx hb d_DiscMakerModel_lowAt_13 (by decide) ?_
  refine lv_ishl hx hb d_DiscMakerModel_lowAt_15 ?_
  refine lv_topi (fun v8 e_v8 => ?_)
  refine lv_aload_n hx hb d_DiscMakerModel_lowAt_16 rfl (lv_at hl 2 rfl) ?_
  refine lv_iload_n hx hb d_DiscMakerModel_lowAt_17 rfl (lv_at hl 3 rfl) ?_
  refine lv_iload hx hb d_DiscMakerModel_lowAt_18 (lv_at hl 0 rfl) ?_
  refine lv_iadd hx hb d_DiscMakerModel_lowAt_20 ?_
  refine lv_topi (fun v9 e_v9 => ?_)
  have t_v9 : v9.toInt = x.toInt + 2 := by rw [e_v9]; exact i_add rfl (by decide) (by omega) (by omega)
  have hPc := hP.sub (ws' := [(h0, .inr (11, MO ma sv_thrown sv_length sv_nodes sv_many sv_directories sv_runsFrom sv_runs sv_read sv_wrong sv_isNamed sv_goes sv_goesSize sv_goesAt sv_targetParts sv_isRoot)), ((ma 16), .inl (cJ, 46080, .inr (.inl F)))]) [0, 1] rfl
  have hDc := hD.sub (ws' := [(h0, .inr (11, MO ma sv_thrown sv_length sv_nodes sv_many sv_directories sv_runsFrom sv_runs sv_read sv_wrong sv_isNamed sv_goes sv_goesSize sv_goesAt sv_targetParts sv_isRoot)), ((ma 16), .inl (cJ, 46080, .inr (.inl F)))]) [0, 1] (by decide +kernel) rfl
  have hFc := va_free (wc := [(h0, .inr (11, MO ma sv_thrown sv_length sv_nodes sv_many sv_directories sv_runsFrom sv_runs sv_read sv_wrong sv_isNamed sv_goes sv_goesSize sv_goesAt sv_targetParts sv_isRoot)), ((ma 16), .inl (cJ, 46080, .inr (.inl F)))]) hD hS hA [0, 1] rfl
  have hkc : 0 ≤ 0 := by decide
  have hks : 0 ≤ 0 := by decide
  refine va_calli (va_runV (C := "DiscMakerModel") (As := [.int v9]) (rest := [.int v8]) ⟨hx, hb, hml, hown, hts⟩ (m_at l D cB cI cJ cZ cN cF H.size h0 ma sv_thrown sv_length sv_nodes sv_many sv_directories sv_runsFrom sv_runs sv_read sv_wrong sv_isNamed sv_goes sv_goesSize sv_goesAt sv_targetParts sv_isRoot F v9 (by (try dsimp only); first | assumption | omega | trivial) (by (try dsimp only); first | assumption | omega | trivial)) (cwV 1 hts (lg_goodV k1809 k1811 k95 k125 kc_DiscMakerModel_at) rfl rfl rfl (by decide +kernel) ⟨Nat.le_of_ble_eq_true rfl, Nat.le_of_ble_eq_true rfl⟩) ⟨fun a U g mk q => by obtain ⟨q0, q1, qP, qK, qN, qD⟩ := q; exact ⟨q0, q1, qP, va_K.moved (u := U) (U := U.calling g mk a) (Vm.Alike.refl U.vm) qK, qN.calling, qD⟩, va_recv hK hP (ci := 11) (q0 := 0) rfl rfl, fun U hU hW => ⟨rfl, by rw [hU], by rw [hU]; exact hPc, va_K.moved hW.alike hK, NN.warm hW hN, hDc.weaken (fun _ _ _ _ => trivial)⟩⟩ rfl rfl hl.1 rfl (lv_room (Nat.le_of_ble_eq_true rfl)) d_DiscMakerModel_lowAt_21 ⟨hkc, hks⟩) hS (fun q _ h => hFc q h) hFc (fun r10 u t H1 locs ht hvm hp_r10 hB hz1 hk1 hS => ?_)
  obtain ⟨hP1, hD1⟩ := hB
  rw [ht] at hP1
  obtain ⟨hP, hD⟩ := va_join (wr := []) (w1 := [(h0, .inr (11, MO ma sv_thrown sv_length sv_nodes sv_many sv_directories sv_runsFrom sv_runs sv_read sv_wrong sv_isNamed sv_goes sv_goesSize sv_goesAt sv_targetParts sv_isRoot)), ((ma 16), .inl (cJ, 46080, .inr (.inl F)))]) hP hD [0, 1] [] rfl rfl (by decide +kernel) (by decide +kernel) hk1 hFc hP1 hD1
  clear hPc hDc hFc hP1 hD1 hk1 hz1 hkc hks
  generalize H1 = H at hP hS ⊢
  have hP : va_P D CL [(h0, .inr (11, MO ma sv_thrown sv_length sv_nodes sv_many sv_directories sv_runsFrom sv_runs sv_read sv_wrong sv_isNamed sv_goes sv_goesSize sv_goesAt sv_targetParts sv_isRoot)), ((ma 16), .inl (cJ, 46080, .inr (.inl F)))] H := hP
  have hD : va_D A [(h0, .inr (11, MO ma sv_thrown sv_length sv_nodes sv_many sv_directories sv_runsFrom sv_runs sv_read sv_wrong sv_isNamed sv_goes sv_goesSize sv_goesAt sv_targetParts sv_isRoot)), ((ma 16), .inl (cJ, 46080, .inr (.inl F)))] := hD
  try dsimp only at hp_r10
  obtain ⟨hr_11, hv_12, hw_13⟩ := hp_r10
  refine lv_ior hx hb d_DiscMakerModel_lowAt_24 ?_
  refine lv_topi (fun v14 e_v14 => ?_)
  refine lv_istore_n hx hb d_DiscMakerModel_lowAt_25 rfl hl (by decide) rfl (fun ls hl => ?_)
  have hl : lv_has ls 5 [(3, .int v14), (4, .int 2), (0, .ref h0), (1, .int x), (2, .int 4)] := hl
  refine lv_iinc (v := 1) hx hb d_DiscMakerModel_lowAt_26 hl (k := 1) rfl (by decide) (by decide +kernel) rfl (fun ls hl => ?_)
  have hl : lv_has ls 5 [(4, .int 1), (3, .int v14), (0, .ref h0), (1, .int x), (2, .int 4)] := hl
  refine lv_goto (tgt := 7) hx hb d_DiscMakerModel_lowAt_29 (by decide) ?_
  refine lv_iload hx hb d_DiscMakerModel_lowAt_7 (lv_at hl 0 rfl) ?_
  refine lv_if_lt (tgt := 32) hx hb d_DiscMakerModel_lowAt_9 (by decide) (fun h_9 => absurd h_9 (by decide)) (fun _ => ?_)
  refine lv_iload_n hx hb d_DiscMakerModel_lowAt_12 rfl (lv_at hl 1 rfl) ?_
  refine lv_bipush (v := 8) hx hb d_DiscMakerModel_lowAt_13 (by decide) ?_
  refine lv_ishl hx hb d_DiscMakerModel_lowAt_15 ?_
  refine lv_topi (fun v15 e_v15 => ?_)
  refine lv_aload_n hx hb d_DiscMakerModel_lowAt_16 rfl (lv_at hl 2 rfl) ?_
  refine lv_iload_n hx hb d_DiscMakerModel_lowAt_17 rfl (lv_at hl 3 rfl) ?_
  refine lv_iload hx hb d_DiscMakerModel_lowAt_18 (lv_at hl 0 rfl) ?_
  refine lv_iadd hx hb d_DiscMakerModel_lowAt_20 ?_
  refine lv_topi (fun v16 e_v16 => ?_)
  have t_v16 : v16.toInt = x.toInt + 1 := by rw [e_v16]; exact i_add rfl (by decide) (by omega) (by omega)
  have hPc := hP.sub (ws' := [(h0, .inr (11, MO ma sv_thrown sv_length sv_nodes sv_many sv_directories sv_runsFrom sv_runs sv_read sv_wrong sv_isNamed sv_goes sv_goesSize sv_goesAt sv_targetParts sv_isRoot)), ((ma 16), .inl (cJ, 46080, .inr (.inl F)))]) [0, 1] rfl
  have hDc := hD.sub (ws' := [(h0, .inr (11, MO ma sv_thrown sv_length sv_nodes sv_many sv_directories sv_runsFrom sv_runs sv_read sv_wrong sv_isNamed sv_goes sv_goesSize sv_goesAt sv_targetParts sv_isRoot)), ((ma 16), .inl (cJ, 46080, .inr (.inl F)))]) [0, 1] (by decide +kernel) rfl
  have hFc := va_free (wc := [(h0, .inr (11, MO ma sv_thrown sv_length sv_nodes sv_many sv_directories sv_runsFrom sv_runs sv_read sv_wrong sv_isNamed sv_goes sv_goesSize sv_goesAt sv_targetParts sv_isRoot)), ((ma 16), .inl (cJ, 46080, .inr (.inl F)))]) hD hS hA [0, 1] rfl
  have hkc : 0 ≤ 0 := by decide
  have hks : 0 ≤ 0 := by decide
  refine va_calli (va_runV (C := "DiscMakerModel") (As := [.int v16]) (rest := [.int v15]) ⟨hx, hb, hml, hown, hts⟩ (m_at l D cB cI cJ cZ cN cF H.size h0 ma sv_thrown sv_length sv_nodes sv_many sv_directories sv_runsFrom sv_runs sv_read sv_wrong sv_isNamed sv_goes sv_goesSize sv_goesAt sv_targetParts sv_isRoot F v16 (by (try dsimp only); first | assumption | omega | trivial) (by (try dsimp only); first | assumption | omega | trivial)) (cwV 1 hts (lg_goodV k1809 k1811 k95 k125 kc_DiscMakerModel_at) rfl rfl rfl (by decide +kernel) ⟨Nat.le_of_ble_eq_true rfl, Nat.le_of_ble_eq_true rfl⟩) ⟨fun a U g mk q => by obtain ⟨q0, q1, qP, qK, qN, qD⟩ := q; exact ⟨q0, q1, qP, va_K.moved (u := U) (U := U.calling g mk a) (Vm.Alike.refl U.vm) qK, qN.calling, qD⟩, va_recv hK hP (ci := 11) (q0 := 0) rfl rfl, fun U hU hW => ⟨rfl, by rw [hU], by rw [hU]; exact hPc, va_K.moved hW.alike hK, NN.warm hW hN, hDc.weaken (fun _ _ _ _ => trivial)⟩⟩ rfl rfl hl.1 rfl (lv_room (Nat.le_of_ble_eq_true rfl)) d_DiscMakerModel_lowAt_21 ⟨hkc, hks⟩) hS (fun q _ h => hFc q h) hFc (fun r17 u t H1 locs ht hvm hp_r17 hB hz1 hk1 hS => ?_)
  obtain ⟨hP1, hD1⟩ := hB
  rw [ht] at hP1
  obtain ⟨hP, hD⟩ := va_join (wr := []) (w1 := [(h0, .inr (11, MO ma sv_thrown sv_length sv_nodes sv_many sv_directories sv_runsFrom sv_runs sv_read sv_wrong sv_isNamed sv_goes sv_goesSize sv_goesAt sv_targetParts sv_isRoot)), ((ma 16), .inl (cJ, 46080, .inr (.inl F)))]) hP hD [0, 1] [] rfl rfl (by decide +kernel) (by decide +kernel) hk1 hFc hP1 hD1
  clear hPc hDc hFc hP1 hD1 hk1 hz1 hkc hks
  generalize H1 = H at hP hS ⊢
  have hP : va_P D CL [(h0, .inr (11, MO ma sv_thrown sv_length sv_nodes sv_many sv_directories sv_runsFrom sv_runs sv_read sv_wrong sv_isNamed sv_goes sv_goesSize sv_goesAt sv_targetParts sv_isRoot)), ((ma 16), .inl (cJ, 46080, .inr (.inl F)))] H := hP
  have hD : va_D A [(h0, .inr (11, MO ma sv_thrown sv_length sv_nodes sv_many sv_directories sv_runsFrom sv_runs sv_read sv_wrong sv_isNamed sv_goes sv_goesSize sv_goesAt sv_targetParts sv_isRoot)), ((ma 16), .inl (cJ, 46080, .inr (.inl F)))] := hD
  try dsimp only at hp_r17
  obtain ⟨hr_18, hv_19, hw_20⟩ := hp_r17
  refine lv_ior hx hb d_DiscMakerModel_lowAt_24 ?_
  refine lv_topi (fun v21 e_v21 => ?_)
  refine lv_istore_n hx hb d_DiscMakerModel_lowAt_25 rfl hl (by decide) rfl (fun ls hl => ?_)
  have hl : lv_has ls 5 [(3, .int v21), (4, .int 1), (0, .ref h0), (1, .int x), (2, .int 4)] := hl
  refine lv_iinc (v := 0) hx hb d_DiscMakerModel_lowAt_26 hl (k := 1) rfl (by decide) (by decide +kernel) rfl (fun ls hl => ?_)
  have hl : lv_has ls 5 [(4, .int 0), (3, .int v21), (0, .ref h0), (1, .int x), (2, .int 4)] := hl
  refine lv_goto (tgt := 7) hx hb d_DiscMakerModel_lowAt_29 (by decide) ?_
  refine lv_iload hx hb d_DiscMakerModel_lowAt_7 (lv_at hl 0 rfl) ?_
  refine lv_if_lt (tgt := 32) hx hb d_DiscMakerModel_lowAt_9 (by decide) (fun h_9 => absurd h_9 (by decide)) (fun _ => ?_)
  refine lv_iload_n hx hb d_DiscMakerModel_lowAt_12 rfl (lv_at hl 1 rfl) ?_
  refine lv_bipush (v := 8) hx hb d_DiscMakerModel_lowAt_13 (by decide) ?_
  refine lv_ishl hx hb d_DiscMakerModel_lowAt_15 ?_
  refine lv_topi (fun v22 e_v22 => ?_)
  refine lv_aload_n hx hb d_DiscMakerModel_lowAt_16 rfl (lv_at hl 2 rfl) ?_
  refine lv_iload_n hx hb d_DiscMakerModel_lowAt_17 rfl (lv_at hl 3 rfl) ?_
  refine lv_iload hx hb d_DiscMakerModel_lowAt_18 (lv_at hl 0 rfl) ?_
  refine lv_iadd hx hb d_DiscMakerModel_lowAt_20 ?_
  refine lv_topi (fun v23 e_v23 => ?_)
  have t_v23 : v23.toInt = x.toInt + 0 := by rw [e_v23]; exact i_add rfl (by decide) (by omega) (by omega)
  have hPc := hP.sub (ws' := [(h0, .inr (11, MO ma sv_thrown sv_length sv_nodes sv_many sv_directories sv_runsFrom sv_runs sv_read sv_wrong sv_isNamed sv_goes sv_goesSize sv_goesAt sv_targetParts sv_isRoot)), ((ma 16), .inl (cJ, 46080, .inr (.inl F)))]) [0, 1] rfl
  have hDc := hD.sub (ws' := [(h0, .inr (11, MO ma sv_thrown sv_length sv_nodes sv_many sv_directories sv_runsFrom sv_runs sv_read sv_wrong sv_isNamed sv_goes sv_goesSize sv_goesAt sv_targetParts sv_isRoot)), ((ma 16), .inl (cJ, 46080, .inr (.inl F)))]) [0, 1] (by decide +kernel) rfl
  have hFc := va_free (wc := [(h0, .inr (11, MO ma sv_thrown sv_length sv_nodes sv_many sv_directories sv_runsFrom sv_runs sv_read sv_wrong sv_isNamed sv_goes sv_goesSize sv_goesAt sv_targetParts sv_isRoot)), ((ma 16), .inl (cJ, 46080, .inr (.inl F)))]) hD hS hA [0, 1] rfl
  have hkc : 0 ≤ 0 := by decide
  have hks : 0 ≤ 0 := by decide
  refine va_calli (va_runV (C := "DiscMakerModel") (As := [.int v23]) (rest := [.int v22]) ⟨hx, hb, hml, hown, hts⟩ (m_at l D cB cI cJ cZ cN cF H.size h0 ma sv_thrown sv_length sv_nodes sv_many sv_directories sv_runsFrom sv_runs sv_read sv_wrong sv_isNamed sv_goes sv_goesSize sv_goesAt sv_targetParts sv_isRoot F v23 (by (try dsimp only); first | assumption | omega | trivial) (by (try dsimp only); first | assumption | omega | trivial)) (cwV 1 hts (lg_goodV k1809 k1811 k95 k125 kc_DiscMakerModel_at) rfl rfl rfl (by decide +kernel) ⟨Nat.le_of_ble_eq_true rfl, Nat.le_of_ble_eq_true rfl⟩) ⟨fun a U g mk q => by obtain ⟨q0, q1, qP, qK, qN, qD⟩ := q; exact ⟨q0, q1, qP, va_K.moved (u := U) (U := U.calling g mk a) (Vm.Alike.refl U.vm) qK, qN.calling, qD⟩, va_recv hK hP (ci := 11) (q0 := 0) rfl rfl, fun U hU hW => ⟨rfl, by rw [hU], by rw [hU]; exact hPc, va_K.moved hW.alike hK, NN.warm hW hN, hDc.weaken (fun _ _ _ _ => trivial)⟩⟩ rfl rfl hl.1 rfl (lv_room (Nat.le_of_ble_eq_true rfl)) d_DiscMakerModel_lowAt_21 ⟨hkc, hks⟩) hS (fun q _ h => hFc q h) hFc (fun r24 u t H1 locs ht hvm hp_r24 hB hz1 hk1 hS => ?_)
  obtain ⟨hP1, hD1⟩ := hB
  rw [ht] at hP1
  obtain ⟨hP, hD⟩ := va_join (wr := []) (w1 := [(h0, .inr (11, MO ma sv_thrown sv_length sv_nodes sv_many sv_directories sv_runsFrom sv_runs sv_read sv_wrong sv_isNamed sv_goes sv_goesSize sv_goesAt sv_targetParts sv_isRoot)), ((ma 16), .inl (cJ, 46080, .inr (.inl F)))]) hP hD [0, 1] [] rfl rfl (by decide +kernel) (by decide +kernel) hk1 hFc hP1 hD1
  clear hPc hDc hFc hP1 hD1 hk1 hz1 hkc hks
  generalize H1 = H at hP hS ⊢
  have hP : va_P D CL [(h0, .inr (11, MO ma sv_thrown sv_length sv_nodes sv_many sv_directories sv_runsFrom sv_runs sv_read sv_wrong sv_isNamed sv_goes sv_goesSize sv_goesAt sv_targetParts sv_isRoot)), ((ma 16), .inl (cJ, 46080, .inr (.inl F)))] H := hP
  have hD : va_D A [(h0, .inr (11, MO ma sv_thrown sv_length sv_nodes sv_many sv_directories sv_runsFrom sv_runs sv_read sv_wrong sv_isNamed sv_goes sv_goesSize sv_goesAt sv_targetParts sv_isRoot)), ((ma 16), .inl (cJ, 46080, .inr (.inl F)))] := hD
  try dsimp only at hp_r24
  obtain ⟨hr_25, hv_26, hw_27⟩ := hp_r24
  refine lv_ior hx hb d_DiscMakerModel_lowAt_24 ?_
  refine lv_topi (fun v28 e_v28 => ?_)
  refine lv_istore_n hx hb d_DiscMakerModel_lowAt_25 rfl hl (by decide) rfl (fun ls hl => ?_)
  have hl : lv_has ls 5 [(3, .int v28), (4, .int 0), (0, .ref h0), (1, .int x), (2, .int 4)] := hl
  refine lv_iinc (v := (-1)) hx hb d_DiscMakerModel_lowAt_26 hl (k := 1) rfl (by decide) (by decide +kernel) rfl (fun ls hl => ?_)
  have hl : lv_has ls 5 [(4, .int (-1)), (3, .int v28), (0, .ref h0), (1, .int x), (2, .int 4)] := hl
  refine lv_goto (tgt := 7) hx hb d_DiscMakerModel_lowAt_29 (by decide) ?_
  refine lv_iload hx hb d_DiscMakerModel_lowAt_7 (lv_at hl 0 rfl) ?_
  refine lv_if_lt (tgt := 32) hx hb d_DiscMakerModel_lowAt_9 (by decide) (fun _ => ?_) (fun h_9 => absurd (by decide) h_9)
  refine lv_iload_n hx hb d_DiscMakerModel_lowAt_32 rfl (lv_at hl 1 rfl) ?_
  have hP9 := hP.sub (ws' := [(h0, .inr (11, MO ma sv_thrown sv_length sv_nodes sv_many sv_directories sv_runsFrom sv_runs sv_read sv_wrong sv_isNamed sv_goes sv_goesSize sv_goesAt sv_targetParts sv_isRoot)), ((ma 16), .inl (cJ, 46080, .inr (.inl F)))]) [0, 1] rfl
  have hD9 := hD.sub (ws' := [(h0, .inr (11, MO ma sv_thrown sv_length sv_nodes sv_many sv_directories sv_runsFrom sv_runs sv_read sv_wrong sv_isNamed sv_goes sv_goesSize sv_goesAt sv_targetParts sv_isRoot)), ((ma 16), .inl (cJ, 46080, .inr (.inl F)))]) [0, 1] (by decide +kernel) rfl
  exact W.iret (v := v28) hx hb hr (fun t ht hW => ⟨⟨v28, (), rfl, (by subst_vars; rfl), by rw [ht]; exact hP9, hD9⟩, hS.F ht⟩) hS.2.2 d_DiscMakerModel_lowAt_33

theorem d_DiscMakerModel_isBoth_0 : decode b_DiscMakerModel_isBoth 0 = .ok (.iconst 1, 1) := by decide +kernel
theorem d_DiscMakerModel_isBoth_1 : decode b_DiscMakerModel_isBoth 1 = .ok (.istore_n 3, 1) := by decide +kernel
theorem d_DiscMakerModel_isBoth_2 : decode b_DiscMakerModel_isBoth 2 = .ok (.iconst 0, 1) := by decide +kernel
theorem d_DiscMakerModel_isBoth_3 : decode b_DiscMakerModel_isBoth 3 = .ok (.istore 4, 2) := by decide +kernel
theorem d_DiscMakerModel_isBoth_5 : decode b_DiscMakerModel_isBoth 5 = .ok (.iload 4, 2) := by decide +kernel
theorem d_DiscMakerModel_isBoth_7 : decode b_DiscMakerModel_isBoth 7 = .ok (.iload_n 2, 1) := by decide +kernel
theorem d_DiscMakerModel_isBoth_8 : decode b_DiscMakerModel_isBoth 8 = .ok (.if_icmp .ge 44, 3) := by decide +kernel
theorem d_DiscMakerModel_isBoth_11 : decode b_DiscMakerModel_isBoth 11 = .ok (.iload_n 3, 1) := by decide +kernel
theorem d_DiscMakerModel_isBoth_12 : decode b_DiscMakerModel_isBoth 12 = .ok (.ifCond .eq 32, 3) := by decide +kernel
theorem d_DiscMakerModel_isBoth_15 : decode b_DiscMakerModel_isBoth 15 = .ok (.aload_n 0, 1) := by decide +kernel
theorem d_DiscMakerModel_isBoth_16 : decode b_DiscMakerModel_isBoth 16 = .ok (.iload_n 1, 1) := by decide +kernel
theorem d_DiscMakerModel_isBoth_17 : decode b_DiscMakerModel_isBoth 17 = .ok (.iload 4, 2) := by decide +kernel
theorem d_DiscMakerModel_isBoth_19 : decode b_DiscMakerModel_isBoth 19 = .ok (.iadd, 1) := by decide +kernel
theorem d_DiscMakerModel_isBoth_20 : decode b_DiscMakerModel_isBoth 20 = .ok (.invokevirtual 303, 3) := by decide +kernel
theorem d_DiscMakerModel_isBoth_23 : decode b_DiscMakerModel_isBoth 23 = .ok (.aload_n 0, 1) := by decide +kernel
theorem d_DiscMakerModel_isBoth_24 : decode b_DiscMakerModel_isBoth 24 = .ok (.iload_n 1, 1) := by decide +kernel
theorem d_DiscMakerModel_isBoth_25 : decode b_DiscMakerModel_isBoth 25 = .ok (.iconst 2, 1) := by decide +kernel
theorem d_DiscMakerModel_isBoth_26 : decode b_DiscMakerModel_isBoth 26 = .ok (.iload_n 2, 1) := by decide +kernel
theorem d_DiscMakerModel_isBoth_27 : decode b_DiscMakerModel_isBoth 27 = .ok (.imul, 1) := by decide +kernel
theorem d_DiscMakerModel_isBoth_28 : decode b_DiscMakerModel_isBoth 28 = .ok (.iadd, 1) := by decide +kernel
theorem d_DiscMakerModel_isBoth_29 : decode b_DiscMakerModel_isBoth 29 = .ok (.iconst 1, 1) := by decide +kernel
theorem d_DiscMakerModel_isBoth_30 : decode b_DiscMakerModel_isBoth 30 = .ok (.isub, 1) := by decide +kernel
theorem d_DiscMakerModel_isBoth_31 : decode b_DiscMakerModel_isBoth 31 = .ok (.iload 4, 2) := by decide +kernel
theorem d_DiscMakerModel_isBoth_33 : decode b_DiscMakerModel_isBoth 33 = .ok (.isub, 1) := by decide +kernel
theorem d_DiscMakerModel_isBoth_34 : decode b_DiscMakerModel_isBoth 34 = .ok (.invokevirtual 303, 3) := by decide +kernel
theorem d_DiscMakerModel_isBoth_37 : decode b_DiscMakerModel_isBoth 37 = .ok (.if_icmp .ne 7, 3) := by decide +kernel
theorem d_DiscMakerModel_isBoth_40 : decode b_DiscMakerModel_isBoth 40 = .ok (.iconst 1, 1) := by decide +kernel
theorem d_DiscMakerModel_isBoth_41 : decode b_DiscMakerModel_isBoth 41 = .ok (.goto 4, 3) := by decide +kernel
theorem d_DiscMakerModel_isBoth_44 : decode b_DiscMakerModel_isBoth 44 = .ok (.iconst 0, 1) := by decide +kernel
theorem d_DiscMakerModel_isBoth_45 : decode b_DiscMakerModel_isBoth 45 = .ok (.istore_n 3, 1) := by decide +kernel
theorem d_DiscMakerModel_isBoth_46 : decode b_DiscMakerModel_isBoth 46 = .ok (.iinc 4 1, 3) := by decide +kernel
theorem d_DiscMakerModel_isBoth_49 : decode b_DiscMakerModel_isBoth 49 = .ok (.goto (-44), 3) := by decide +kernel
theorem d_DiscMakerModel_isBoth_52 : decode b_DiscMakerModel_isBoth 52 = .ok (.iload_n 3, 1) := by decide +kernel
theorem d_DiscMakerModel_isBoth_53 : decode b_DiscMakerModel_isBoth 53 = .ok (.ireturn, 1) := by decide +kernel
set_option maxHeartbeats 4000000 in
set_option maxRecDepth 100000 in
theorem m_isBoth (l : Launch) (D : va_G) (cB cI cJ cZ cN cF : ClassId) (sz : Nat) (h0 : Nat) (ma : Nat → Nat) (sv_thrown sv_length sv_nodes sv_many sv_directories sv_runsFrom sv_runs sv_read sv_wrong sv_isNamed sv_goes sv_goesSize sv_goesAt sv_targetParts sv_isRoot : Int32) (F : Nat → Int64) (x : Int32) (n : Int32) (hx0 : 0 ≤ x.toInt) (hn0 : 0 ≤ n.toInt ∧ n.toInt ≤ 4) (hx1 : x.toInt + 2 * n.toInt ≤ 368640) : Met l y_DiscMakerModel_isBoth w_DiscMakerModel_isBoth ({ frames := 1, cells := 0, slots := 0, locals := 21 }) (va_Pc [.ref h0, .int x, .int n] (fun U => U.heap.size = sz ∧ va_P D CL [(h0, .inr (11, MO ma sv_thrown sv_length sv_nodes sv_many sv_directories sv_runsFrom sv_runs sv_read sv_wrong sv_isNamed sv_goes sv_goesSize sv_goesAt sv_targetParts sv_isRoot)), ((ma 16), .inl (cJ, 46080, .inr (.inl F)))] U.heap ∧ va_K D CL (TY cB cI cJ cZ cN cF) U ∧ NN U ∧ va_D (fun _ => True) [(h0, .inr (11, MO ma sv_thrown sv_length sv_nodes sv_many sv_directories sv_runsFrom sv_runs sv_read sv_wrong sv_isNamed sv_goes sv_goesSize sv_goesAt sv_targetParts sv_isRoot)), ((ma 16), .inl (cJ, 46080, .inr (.inl F)))])) (va_Qi (fun (r : Int32) (u : Unit) => (0 ≤ r.toInt ∧ r.toInt ≤ 1)) (fun (u : Unit) (t : State) => match u with | () => va_P D CL [(h0, .inr (11, MO ma sv_thrown sv_length sv_nodes sv_many sv_directories sv_runsFrom sv_runs sv_read sv_wrong sv_isNamed sv_goes sv_goesSize sv_goesAt sv_targetParts sv_isRoot)), ((ma 16), .inl (cJ, 46080, .inr (.inl F)))] t.heap ∧ va_D (va_A [(h0, .inr (11, MO ma sv_thrown sv_length sv_nodes sv_many sv_directories sv_runsFrom sv_runs sv_read sv_wrong sv_isNamed sv_goes sv_goesSize sv_goesAt sv_targetParts sv_isRoot)), ((ma 16), .inl (cJ, 46080, .inr (.inl F)))] sz) [(h0, .inr (11, MO ma sv_thrown sv_length sv_nodes sv_many sv_directories sv_runsFrom sv_runs sv_read sv_wrong sv_isNamed sv_goes sv_goesSize sv_goesAt sv_targetParts sv_isRoot)), ((ma 16), .inl (cJ, 46080, .inr (.inl F)))]) (va_A [(h0, .inr (11, MO ma sv_thrown sv_length sv_nodes sv_many sv_directories sv_runsFrom sv_runs sv_read sv_wrong sv_isNamed sv_goes sv_goesSize sv_goesAt sv_targetParts sv_isRoot)), ((ma 16), .inl (cJ, 46080, .inr (.inl F)))] sz)) 0 0 (va_A [(h0, .inr (11, MO ma sv_thrown sv_length sv_nodes sv_many sv_directories sv_runsFrom sv_runs sv_read sv_wrong sv_isNamed sv_goes sv_goesSize sv_goesAt sv_targetParts sv_isRoot)), ((ma 16), .inl (cJ, 46080, .inr (.inl F)))] sz) := by
  refine Met.ofW (cc := b_DiscMakerModel_isBoth) (maxL := 5) (ret := some .boolean) (by decide) rfl ?_
  intro p e s m args below meth c s₁ B hml hv
  obtain ⟨rfl, hsz, hP, hK, hN, hD0⟩ := hv
  have hx := B.exec
  have hb := B.bytes
  have hr := B.returns
  have hts := atoms_spec (ws := w_DiscMakerModel_isBoth) B.pre
  have ht9 := fun (w : Cond) (h : w ∈ lw_g) => hts w (List.mem_cons_of_mem _ h)
  have hown : s.vm.findClass "DiscMakerModel" = some m.cls := findClass_of_methodNamed B.named
  have hlocks := B.notSynchronized
  subst hsz
  have hD := hD0.self (sz := s.heap.size)
  generalize hAe : va_A [(h0, .inr (11, MO ma sv_thrown sv_length sv_nodes sv_many sv_directories sv_runsFrom sv_runs sv_read sv_wrong sv_isNamed sv_goes sv_goesSize sv_goesAt sv_targetParts sv_isRoot)), ((ma 16), .inl (cJ, 46080, .inr (.inl F)))] s.heap.size = A at hD ⊢
  have hA : ∀ q : Nat, s.heap.size ≤ q → A q := fun q h => by rw [← hAe]; exact Or.inr h
  have hS : va_S A s.heap s.heap [] := va_S.rf
  have hP : va_P D CL [(h0, .inr (11, MO ma sv_thrown sv_length sv_nodes sv_many sv_directories sv_runsFrom sv_runs sv_read sv_wrong sv_isNamed sv_goes sv_goesSize sv_goesAt sv_targetParts sv_isRoot)), ((ma 16), .inl (cJ, 46080, .inr (.inl F)))] s.heap := hP
  have hl := lv_entry [.ref h0, .int x, .int n] (n := 5) (Nat.le_of_ble_eq_true rfl)
  rw [lg_entry_eq]
  generalize (lg_sl [.ref h0, .int x, .int n] ++ List.replicate (5 - (lg_sl [.ref h0, .int x, .int n]).length) Slot.unset).toArray = ls at hl ⊢
  have hl : lv_has ls 5 [(0, .ref h0), (1, .int x), (2, .int n)] := hl
  have L_m1 : ((-1) : Int32).toInt = (-1) := by decide
  have L_0 : (0 : Int32).toInt = 0 := by decide
  have L_1 : (1 : Int32).toInt = 1 := by decide
  have L_2 : (2 : Int32).toInt = 2 := by decide
  refine lv_iconst (v := 1) hx hb d_DiscMakerModel_isBoth_0 (by decide) ?_
  refine lv_istore_n hx hb d_DiscMakerModel_isBoth_1 rfl hl (by decide) rfl (fun ls hl => ?_)
  have hl : lv_has ls 5 [(3, .int 1), (0, .ref h0), (1, .int x), (2, .int n)] := hl
  refine lv_iconst (v := 0) hx hb d_DiscMakerModel_isBoth_2 (by decide) ?_
  refine lv_istore hx hb d_DiscMakerModel_isBoth_3 hl (by decide) rfl (fun ls hl => ?_)
  have hl : lv_has ls 5 [(4, .int 0), (3, .int 1), (0, .ref h0), (1, .int x), (2, .int n)] := hl
  refine zz_labM (B := fun (lk : Nat) (K : Heap → List Loc → Array Slot → List Value → Prop) => ∀ (kx : Int32) (sm : Int32) (H : Heap) (locs : List Loc) (ls : Array Slot), lk = (n.toInt - kx.toInt).toNat → (0 ≤ kx.toInt ∧ kx.toInt ≤ n.toInt) → (0 ≤ sm.toInt ∧ sm.toInt ≤ 1) → va_P D CL [(h0, .inr (11, MO ma sv_thrown sv_length sv_nodes sv_many sv_directories sv_runsFrom sv_runs sv_read sv_wrong sv_isNamed sv_goes sv_goesSize sv_goesAt sv_targetParts sv_isRoot)), ((ma 16), .inl (cJ, 46080, .inr (.inl F)))] H → va_D A [(h0, .inr (11, MO ma sv_thrown sv_length sv_nodes sv_many sv_directories sv_runsFrom sv_runs sv_read sv_wrong sv_isNamed sv_goes sv_goesSize sv_goesAt sv_targetParts sv_isRoot)), ((ma 16), .inl (cJ, 46080, .inr (.inl F)))] → va_S A s.heap H locs → lv_has ls 5 [(0, .ref h0), (1, .int x), (2, .int n), (3, .int sm), (4, .int kx)] → K H locs ls []) 5 ?_ ?_
  · skip
    intro lk ih5 kx sm H locs ls hm5 f1 f2 hP hD hS hl
    refine lv_iload hx hb d_DiscMakerModel_isBoth_5 (lv_at hl 4 rfl) ?_
    refine lv_iload_n hx hb d_DiscMakerModel_isBoth_7 rfl (lv_at hl 2 rfl) ?_
    refine lv_icmp_ge (tgt := 52) hx hb d_DiscMakerModel_isBoth_8 (by decide) (fun h_9 => ?_) (fun h_9 => ?_)
    · skip
      have g8_7 : n.toInt ≤ kx.toInt := (i_le rfl rfl).mp h_9
      refine lv_iload_n hx hb d_DiscMakerModel_isBoth_52 rfl (lv_at hl 3 rfl) ?_
      have hP9 := hP.sub (ws' := [(h0, .inr (11, MO ma sv_thrown sv_length sv_nodes sv_many sv_directories sv_runsFrom sv_runs sv_read sv_wrong sv_isNamed sv_goes sv_goesSize sv_goesAt sv_targetParts sv_isRoot)), ((ma 16), .inl (cJ, 46080, .inr (.inl F)))]) [0, 1] rfl
      have hD9 := hD.sub (ws' := [(h0, .inr (11, MO ma sv_thrown sv_length sv_nodes sv_many sv_directories sv_runsFrom sv_runs sv_read sv_wrong sv_isNamed sv_goes sv_goesSize sv_goesAt sv_targetParts sv_isRoot)), ((ma 16), .inl (cJ, 46080, .inr (.inl F)))]) [0, 1] (by decide +kernel) rfl
      exact W.zret (v := sm) hx hb hr (by first | rfl | decide | exact i_narZ (by omega)) (fun t ht hW => ⟨⟨sm, (), rfl, (by (try dsimp only); first | assumption | omega | trivial), by rw [ht]; exact hP9, hD9⟩, hS.F ht⟩) hS.2.2 d_DiscMakerModel_isBoth_53
    · skip
      have g8_7 : ¬ n.toInt ≤ kx.toInt := fun h8 => h_9 ((i_le rfl rfl).mpr h8)
      refine lv_iload_n hx hb d_DiscMakerModel_isBoth_11 rfl (lv_at hl 3 rfl) ?_
      refine lv_if_eq (tgt := 44) hx hb d_DiscMakerModel_isBoth_12 (by decide) (fun h_9 => ?_) (fun h_9 => ?_)
      · skip
        have g12_11 : sm.toInt = 0 := (i_eq rfl (by decide)).mp h_9
        refine lv_iconst (v := 0) hx hb d_DiscMakerModel_isBoth_44 (by decide) ?_
        refine lv_istore_n hx hb d_DiscMakerModel_isBoth_45 rfl hl (by decide) rfl (fun ls hl => ?_)
        have hl : lv_has ls 5 [(3, .int 0), (0, .ref h0), (1, .int x), (2, .int n), (4, .int kx)] := hl
        obtain ⟨v1, e_v1⟩ : ∃ z : Int32, z = kx + 1 := ⟨_, rfl⟩
        refine lv_iinc (v := v1) hx hb d_DiscMakerModel_isBoth_46 hl (k := 4) rfl e_v1.symm (by decide +kernel) rfl (fun ls hl => ?_)
        have t_v1 : v1.toInt = kx.toInt + 1 := by rw [e_v1]; exact i_add rfl (by decide) (by omega) (by omega)
        have hl : lv_has ls 5 [(4, .int v1), (3, .int 0), (0, .ref h0), (1, .int x), (2, .int n)] := hl
        refine lv_goto (tgt := 5) hx hb d_DiscMakerModel_isBoth_49 (by decide) ?_
        have hP := hP.sub (ws' := [(h0, .inr (11, MO ma sv_thrown sv_length sv_nodes sv_many sv_directories sv_runsFrom sv_runs sv_read sv_wrong sv_isNamed sv_goes sv_goesSize sv_goesAt sv_targetParts sv_isRoot)), ((ma 16), .inl (cJ, 46080, .inr (.inl F)))]) [0, 1] rfl
        have hD := hD.sub (ws' := [(h0, .inr (11, MO ma sv_thrown sv_length sv_nodes sv_many sv_directories sv_runsFrom sv_runs sv_read sv_wrong sv_isNamed sv_goes sv_goesSize sv_goesAt sv_targetParts sv_isRoot)), ((ma 16), .inl (cJ, 46080, .inr (.inl F)))]) [0, 1] (by decide +kernel) rfl
        have hl := lv_sub hl [2, 3, 4, 1, 0] rfl
        exact ih5 _ (by first | omega | (dsimp only; omega)) v1 0 _ _ _ rfl ((by (try dsimp only); first | assumption | omega | trivial)) ((by (try dsimp only); first | assumption | omega | trivial)) hP hD hS hl
      · skip
        have g12_11 : ¬ sm.toInt = 0 := fun h8 => h_9 ((i_eq rfl (by decide)).mpr h8)
        refine lv_aload_n hx hb d_DiscMakerModel_isBoth_15 rfl (lv_at hl 0 rfl) ?_
        refine lv_iload_n hx hb d_DiscMakerModel_isBoth_16 rfl (lv_at hl 1 rfl) ?_
        refine lv_iload hx hb d_DiscMakerModel_isBoth_17 (lv_at hl 4 rfl) ?_
        refine lv_iadd hx hb d_DiscMakerModel_isBoth_19 ?_
        refine lv_topi (fun v2 e_v2 => ?_)
        have t_v2 : v2.toInt = x.toInt + kx.toInt := by rw [e_v2]; exact i_add rfl rfl (by omega) (by omega)
        have hPc := hP.sub (ws' := [(h0, .inr (11, MO ma sv_thrown sv_length sv_nodes sv_many sv_directories sv_runsFrom sv_runs sv_read sv_wrong sv_isNamed sv_goes sv_goesSize sv_goesAt sv_targetParts sv_isRoot)), ((ma 16), .inl (cJ, 46080, .inr (.inl F)))]) [0, 1] rfl
        have hDc := hD.sub (ws' := [(h0, .inr (11, MO ma sv_thrown sv_length sv_nodes sv_many sv_directories sv_runsFrom sv_runs sv_read sv_wrong sv_isNamed sv_goes sv_goesSize sv_goesAt sv_targetParts sv_isRoot)), ((ma 16), .inl (cJ, 46080, .inr (.inl F)))]) [0, 1] (by decide +kernel) rfl
        have hFc := va_free (wc := [(h0, .inr (11, MO ma sv_thrown sv_length sv_nodes sv_many sv_directories sv_runsFrom sv_runs sv_read sv_wrong sv_isNamed sv_goes sv_goesSize sv_goesAt sv_targetParts sv_isRoot)), ((ma 16), .inl (cJ, 46080, .inr (.inl F)))]) hD hS hA [0, 1] rfl
        have hkc : 0 ≤ 0 := by decide
        have hks : 0 ≤ 0 := by decide
        refine va_calli (va_runV (C := "DiscMakerModel") (As := [.int v2]) (rest := []) ⟨hx, hb, hml, hown, hts⟩ (m_at l D cB cI cJ cZ cN cF H.size h0 ma sv_thrown sv_length sv_nodes sv_many sv_directories sv_runsFrom sv_runs sv_read sv_wrong sv_isNamed sv_goes sv_goesSize sv_goesAt sv_targetParts sv_isRoot F v2 (by (try dsimp only); first | assumption | omega | trivial) (by (try dsimp only); first | assumption | omega | trivial)) (cwV 1 hts (lg_goodV k1809 k1811 k95 k125 kc_DiscMakerModel_at) rfl rfl rfl (by decide +kernel) ⟨Nat.le_of_ble_eq_true rfl, Nat.le_of_ble_eq_true rfl⟩) ⟨fun a U g mk q => by obtain ⟨q0, q1, qP, qK, qN, qD⟩ := q; exact ⟨q0, q1, qP, va_K.moved (u := U) (U := U.calling g mk a) (Vm.Alike.refl U.vm) qK, qN.calling, qD⟩, va_recv hK hP (ci := 11) (q0 := 0) rfl rfl, fun U hU hW => ⟨rfl, by rw [hU], by rw [hU]; exact hPc, va_K.moved hW.alike hK, NN.warm hW hN, hDc.weaken (fun _ _ _ _ => trivial)⟩⟩ rfl rfl hl.1 rfl (lv_room (Nat.le_of_ble_eq_true rfl)) d_DiscMakerModel_isBoth_20 ⟨hkc, hks⟩) hS (fun q _ h => hFc q h) hFc (fun r3 u t H1 locs ht hvm hp_r3 hB hz1 hk1 hS => ?_)
        obtain ⟨hP1, hD1⟩ := hB
        rw [ht] at hP1
        obtain ⟨hP, hD⟩ := va_join (wr := []) (w1 := [(h0, .inr (11, MO ma sv_thrown sv_length sv_nodes sv_many sv_directories sv_runsFrom sv_runs sv_read sv_wrong sv_isNamed sv_goes sv_goesSize sv_goesAt sv_targetParts sv_isRoot)), ((ma 16), .inl (cJ, 46080, .inr (.inl F)))]) hP hD [0, 1] [] rfl rfl (by decide +kernel) (by decide +kernel) hk1 hFc hP1 hD1
        clear hPc hDc hFc hP1 hD1 hk1 hz1 hkc hks
        generalize H1 = H at hP hS ⊢
        have hP : va_P D CL [(h0, .inr (11, MO ma sv_thrown sv_length sv_nodes sv_many sv_directories sv_runsFrom sv_runs sv_read sv_wrong sv_isNamed sv_goes sv_goesSize sv_goesAt sv_targetParts sv_isRoot)), ((ma 16), .inl (cJ, 46080, .inr (.inl F)))] H := hP
        have hD : va_D A [(h0, .inr (11, MO ma sv_thrown sv_length sv_nodes sv_many sv_directories sv_runsFrom sv_runs sv_read sv_wrong sv_isNamed sv_goes sv_goesSize sv_goesAt sv_targetParts sv_isRoot)), ((ma 16), .inl (cJ, 46080, .inr (.inl F)))] := hD
        try dsimp only at hp_r3
        obtain ⟨hr_4, hv_5, hw_6⟩ := hp_r3
        refine lv_aload_n hx hb d_DiscMakerModel_isBoth_23 rfl (lv_at hl 0 rfl) ?_
        refine lv_iload_n hx hb d_DiscMakerModel_isBoth_24 rfl (lv_at hl 1 rfl) ?_
        refine lv_iconst (v := 2) hx hb d_DiscMakerModel_isBoth_25 (by decide) ?_
        refine lv_iload_n hx hb d_DiscMakerModel_isBoth_26 rfl (lv_at hl 2 rfl) ?_
        refine lv_imul hx hb d_DiscMakerModel_isBoth_27 ?_
        refine lv_topi (fun v7 e_v7 => ?_)
        have t_v7 : v7.toInt = 2 * n.toInt := by rw [e_v7]; exact i_mul (by decide) rfl (by omega) (by omega)
        refine lv_iadd hx hb d_DiscMakerModel_isBoth_28 ?_
        refine lv_topi (fun v8 e_v8 => ?_)
        have t_v8 : v8.toInt = x.toInt + v7.toInt := by rw [e_v8]; exact i_add rfl rfl (by omega) (by omega)
        refine lv_iconst (v := 1) hx hb d_DiscMakerModel_isBoth_29 (by decide) ?_
        refine lv_isub hx hb d_DiscMakerModel_isBoth_30 ?_
        refine lv_topi (fun v9 e_v9 => ?_)
        have t_v9 : v9.toInt = v8.toInt - 1 := by rw [e_v9]; exact i_sub rfl (by decide) (by omega) (by omega)
        refine lv_iload hx hb d_DiscMakerModel_isBoth_31 (lv_at hl 4 rfl) ?_
        refine lv_isub hx hb d_DiscMakerModel_isBoth_33 ?_
        refine lv_topi (fun v10 e_v10 => ?_)
        have t_v10 : v10.toInt = v9.toInt - kx.toInt := by rw [e_v10]; exact i_sub rfl rfl (by omega) (by omega)
        have hPc := hP.sub (ws' := [(h0, .inr (11, MO ma sv_thrown sv_length sv_nodes sv_many sv_directories sv_runsFrom sv_runs sv_read sv_wrong sv_isNamed sv_goes sv_goesSize sv_goesAt sv_targetParts sv_isRoot)), ((ma 16), .inl (cJ, 46080, .inr (.inl F)))]) [0, 1] rfl
        have hDc := hD.sub (ws' := [(h0, .inr (11, MO ma sv_thrown sv_length sv_nodes sv_many sv_directories sv_runsFrom sv_runs sv_read sv_wrong sv_isNamed sv_goes sv_goesSize sv_goesAt sv_targetParts sv_isRoot)), ((ma 16), .inl (cJ, 46080, .inr (.inl F)))]) [0, 1] (by decide +kernel) rfl
        have hFc := va_free (wc := [(h0, .inr (11, MO ma sv_thrown sv_length sv_nodes sv_many sv_directories sv_runsFrom sv_runs sv_read sv_wrong sv_isNamed sv_goes sv_goesSize sv_goesAt sv_targetParts sv_isRoot)), ((ma 16), .inl (cJ, 46080, .inr (.inl F)))]) hD hS hA [0, 1] rfl
        have hkc : 0 ≤ 0 := by decide
        have hks : 0 ≤ 0 := by decide
        refine va_calli (va_runV (C := "DiscMakerModel") (As := [.int v10]) (rest := [.int r3]) ⟨hx, hb, hml, hown, hts⟩ (m_at l D cB cI cJ cZ cN cF H.size h0 ma sv_thrown sv_length sv_nodes sv_many sv_directories sv_runsFrom sv_runs sv_read sv_wrong sv_isNamed sv_goes sv_goesSize sv_goesAt sv_targetParts sv_isRoot F v10 (by (try dsimp only); first | assumption | omega | trivial) (by (try dsimp only); first | assumption | omega | trivial)) (cwV 1 hts (lg_goodV k1809 k1811 k95 k125 kc_DiscMakerModel_at) rfl rfl rfl (by decide +kernel) ⟨Nat.le_of_ble_eq_true rfl, Nat.le_of_ble_eq_true rfl⟩) ⟨fun a U g mk q => by obtain ⟨q0, q1, qP, qK, qN, qD⟩ := q; exact ⟨q0, q1, qP, va_K.moved (u := U) (U := U.calling g mk a) (Vm.Alike.refl U.vm) qK, qN.calling, qD⟩, va_recv hK hP (ci := 11) (q0 := 0) rfl rfl, fun U hU hW => ⟨rfl, by rw [hU], by rw [hU]; exact hPc, va_K.moved hW.alike hK, NN.warm hW hN, hDc.weaken (fun _ _ _ _ => trivial)⟩⟩ rfl rfl hl.1 rfl (lv_room (Nat.le_of_ble_eq_true rfl)) d_DiscMakerModel_isBoth_34 ⟨hkc, hks⟩) hS (fun q _ h => hFc q h) hFc (fun r11 u t H1 locs ht hvm hp_r11 hB hz1 hk1 hS => ?_)
        obtain ⟨hP1, hD1⟩ := hB
        rw [ht] at hP1
        obtain ⟨hP, hD⟩ := va_join (wr := []) (w1 := [(h0, .inr (11, MO ma sv_thrown sv_length sv_nodes sv_many sv_directories sv_runsFrom sv_runs sv_read sv_wrong sv_isNamed sv_goes sv_goesSize sv_goesAt sv_targetParts sv_isRoot)), ((ma 16), .inl (cJ, 46080, .inr (.inl F)))]) hP hD [0, 1] [] rfl rfl (by decide +kernel) (by decide +kernel) hk1 hFc hP1 hD1
        clear hPc hDc hFc hP1 hD1 hk1 hz1 hkc hks
        generalize H1 = H at hP hS ⊢
        have hP : va_P D CL [(h0, .inr (11, MO ma sv_thrown sv_length sv_nodes sv_many sv_directories sv_runsFrom sv_runs sv_read sv_wrong sv_isNamed sv_goes sv_goesSize sv_goesAt sv_targetParts sv_isRoot)), ((ma 16), .inl (cJ, 46080, .inr (.inl F)))] H := hP
        have hD : va_D A [(h0, .inr (11, MO ma sv_thrown sv_length sv_nodes sv_many sv_directories sv_runsFrom sv_runs sv_read sv_wrong sv_isNamed sv_goes sv_goesSize sv_goesAt sv_targetParts sv_isRoot)), ((ma 16), .inl (cJ, 46080, .inr (.inl F)))] := hD
        try dsimp only at hp_r11
        obtain ⟨hr_12, hv_13, hw_14⟩ := hp_r11
        refine lv_icmp_ne (tgt := 44) hx hb d_DiscMakerModel_isBoth_37 (by decide) (fun h_9 => ?_) (fun h_9 => ?_)
        · skip
          have g37_33 : ¬ r3.toInt = r11.toInt := fun h8 => h_9 ((i_eq rfl rfl).mpr h8)
          refine lv_iconst (v := 0) hx hb d_DiscMakerModel_isBoth_44 (by decide) ?_
          refine lv_istore_n hx hb d_DiscMakerModel_isBoth_45 rfl hl (by decide) rfl (fun ls hl => ?_)
          have hl : lv_has ls 5 [(3, .int 0), (0, .ref h0), (1, .int x), (2, .int n), (4, .int kx)] := hl
          obtain ⟨v15, e_v15⟩ : ∃ z : Int32, z = kx + 1 := ⟨_, rfl⟩
          refine lv_iinc (v := v15) hx hb d_DiscMakerModel_isBoth_46 hl (k := 4) rfl e_v15.symm (by decide +kernel) rfl (fun ls hl => ?_)
          have t_v15 : v15.toInt = kx.toInt + 1 := by rw [e_v15]; exact i_add rfl (by decide) (by omega) (by omega)
          have hl : lv_has ls 5 [(4, .int v15), (3, .int 0), (0, .ref h0), (1, .int x), (2, .int n)] := hl
          refine lv_goto (tgt := 5) hx hb d_DiscMakerModel_isBoth_49 (by decide) ?_
          have hP := hP.sub (ws' := [(h0, .inr (11, MO ma sv_thrown sv_length sv_nodes sv_many sv_directories sv_runsFrom sv_runs sv_read sv_wrong sv_isNamed sv_goes sv_goesSize sv_goesAt sv_targetParts sv_isRoot)), ((ma 16), .inl (cJ, 46080, .inr (.inl F)))]) [0, 1] rfl
          have hD := hD.sub (ws' := [(h0, .inr (11, MO ma sv_thrown sv_length sv_nodes sv_many sv_directories sv_runsFrom sv_runs sv_read sv_wrong sv_isNamed sv_goes sv_goesSize sv_goesAt sv_targetParts sv_isRoot)), ((ma 16), .inl (cJ, 46080, .inr (.inl F)))]) [0, 1] (by decide +kernel) rfl
          have hl := lv_sub hl [2, 3, 4, 1, 0] rfl
          exact ih5 _ (by first | omega | (dsimp only; omega)) v15 0 _ _ _ rfl ((by (try dsimp only); first | assumption | omega | trivial)) ((by (try dsimp only); first | assumption | omega | trivial)) hP hD hS hl
        · skip
          have g37_33 : r3.toInt = r11.toInt := (i_eq rfl rfl).mp h_9
          refine lv_iconst (v := 1) hx hb d_DiscMakerModel_isBoth_40 (by decide) ?_
          refine lv_goto (tgt := 45) hx hb d_DiscMakerModel_isBoth_41 (by decide) ?_
          refine lv_istore_n hx hb d_DiscMakerModel_isBoth_45 rfl hl (by decide) rfl (fun ls hl => ?_)
          have hl : lv_has ls 5 [(3, .int 1), (0, .ref h0), (1, .int x), (2, .int n), (4, .int kx)] := hl
          obtain ⟨v16, e_v16⟩ : ∃ z : Int32, z = kx + 1 := ⟨_, rfl⟩
          refine lv_iinc (v := v16) hx hb d_DiscMakerModel_isBoth_46 hl (k := 4) rfl e_v16.symm (by decide +kernel) rfl (fun ls hl => ?_)
          have t_v16 : v16.toInt = kx.toInt + 1 := by rw [e_v16]; exact i_add rfl (by decide) (by omega) (by omega)
          have hl : lv_has ls 5 [(4, .int v16), (3, .int 1), (0, .ref h0), (1, .int x), (2, .int n)] := hl
          refine lv_goto (tgt := 5) hx hb d_DiscMakerModel_isBoth_49 (by decide) ?_
          have hP := hP.sub (ws' := [(h0, .inr (11, MO ma sv_thrown sv_length sv_nodes sv_many sv_directories sv_runsFrom sv_runs sv_read sv_wrong sv_isNamed sv_goes sv_goesSize sv_goesAt sv_targetParts sv_isRoot)), ((ma 16), .inl (cJ, 46080, .inr (.inl F)))]) [0, 1] rfl
          have hD := hD.sub (ws' := [(h0, .inr (11, MO ma sv_thrown sv_length sv_nodes sv_many sv_directories sv_runsFrom sv_runs sv_read sv_wrong sv_isNamed sv_goes sv_goesSize sv_goesAt sv_targetParts sv_isRoot)), ((ma 16), .inl (cJ, 46080, .inr (.inl F)))]) [0, 1] (by decide +kernel) rfl
          have hl := lv_sub hl [2, 3, 4, 1, 0] rfl
          exact ih5 _ (by first | omega | (dsimp only; omega)) v16 1 _ _ _ rfl ((by (try dsimp only); first | assumption | omega | trivial)) ((by (try dsimp only); first | assumption | omega | trivial)) hP hD hS hl
  · skip
    intro kk5
    have hP := hP.sub (ws' := [(h0, .inr (11, MO ma sv_thrown sv_length sv_nodes sv_many sv_directories sv_runsFrom sv_runs sv_read sv_wrong sv_isNamed sv_goes sv_goesSize sv_goesAt sv_targetParts sv_isRoot)), ((ma 16), .inl (cJ, 46080, .inr (.inl F)))]) [0, 1] rfl
    have hD := hD.sub (ws' := [(h0, .inr (11, MO ma sv_thrown sv_length sv_nodes sv_many sv_directories sv_runsFrom sv_runs sv_read sv_wrong sv_isNamed sv_goes sv_goesSize sv_goesAt sv_targetParts sv_isRoot)), ((ma 16), .inl (cJ, 46080, .inr (.inl F)))]) [0, 1] (by decide +kernel) rfl
    have hl := lv_sub hl [2, 3, 4, 1, 0] rfl
    exact kk5 _ 0 1 _ _ _ rfl ((by (try dsimp only); first | assumption | omega | trivial)) ((by (try dsimp only); first | assumption | omega | trivial)) hP hD hS hl

theorem d_DiscMakerModel_isWrong_0 : decode b_DiscMakerModel_isWrong 0 = .ok (.aload_n 0, 1) := by decide +kernel
theorem d_DiscMakerModel_isWrong_1 : decode b_DiscMakerModel_isWrong 1 = .ok (.getfield 306, 3) := by decide +kernel
theorem d_DiscMakerModel_isWrong_4 : decode b_DiscMakerModel_isWrong 4 = .ok (.ifCond .ge 8, 3) := by decide +kernel
theorem d_DiscMakerModel_isWrong_7 : decode b_DiscMakerModel_isWrong 7 = .ok (.aload_n 0, 1) := by decide +kernel
theorem d_DiscMakerModel_isWrong_8 : decode b_DiscMakerModel_isWrong 8 = .ok (.iload_n 1, 1) := by decide +kernel
theorem d_DiscMakerModel_isWrong_9 : decode b_DiscMakerModel_isWrong 9 = .ok (.putfield 306, 3) := by decide +kernel
theorem d_DiscMakerModel_isWrong_12 : decode b_DiscMakerModel_isWrong 12 = .ok (.iconst 0, 1) := by decide +kernel
theorem d_DiscMakerModel_isWrong_13 : decode b_DiscMakerModel_isWrong 13 = .ok (.ireturn, 1) := by decide +kernel
set_option maxHeartbeats 4000000 in
set_option maxRecDepth 100000 in
theorem m_isWrong (l : Launch) (D : va_G) (cB cI cJ cZ cN cF : ClassId) (sz : Nat) (h0 : Nat) (ma : Nat → Nat) (sv_thrown sv_length sv_nodes sv_many sv_directories sv_runsFrom sv_runs sv_read sv_wrong sv_isNamed sv_goes sv_goesSize sv_goesAt sv_targetParts sv_isRoot : Int32) (x : Int32) : Met l y_DiscMakerModel_isWrong w_DiscMakerModel_isWrong ({ frames := 0, cells := 0, slots := 0, locals := 0 }) (va_Pc [.ref h0, .int x] (fun U => U.heap.size = sz ∧ va_P D CL [(h0, .inr (11, MO ma sv_thrown sv_length sv_nodes sv_many sv_directories sv_runsFrom sv_runs sv_read sv_wrong sv_isNamed sv_goes sv_goesSize sv_goesAt sv_targetParts sv_isRoot))] U.heap ∧ va_K D CL (TY cB cI cJ cZ cN cF) U ∧ NN U ∧ va_D (fun _ => True) [(h0, .inr (11, MO ma sv_thrown sv_length sv_nodes sv_many sv_directories sv_runsFrom sv_runs sv_read sv_wrong sv_isNamed sv_goes sv_goesSize sv_goesAt sv_targetParts sv_isRoot))])) (va_Qi (fun (r : Int32) (u : Int32) => match u with | wr => (r.toInt = 0)) (fun (u : Int32) (t : State) => match u with | wr => va_P D CL [(h0, .inr (11, MO ma sv_thrown sv_length sv_nodes sv_many sv_directories sv_runsFrom sv_runs sv_read wr sv_isNamed sv_goes sv_goesSize sv_goesAt sv_targetParts sv_isRoot))] t.heap ∧ va_D (va_A [(h0, .inr (11, MO ma sv_thrown sv_length sv_nodes sv_many sv_directories sv_runsFrom sv_runs sv_read sv_wrong sv_isNamed sv_goes sv_goesSize sv_goesAt sv_targetParts sv_isRoot))] sz) [(h0, .inr (11, MO ma sv_thrown sv_length sv_nodes sv_many sv_directories sv_runsFrom sv_runs sv_read wr sv_isNamed sv_goes sv_goesSize sv_goesAt sv_targetParts sv_isRoot))]) (va_A [(h0, .inr (11, MO ma sv_thrown sv_length sv_nodes sv_many sv_directories sv_runsFrom sv_runs sv_read sv_wrong sv_isNamed sv_goes sv_goesSize sv_goesAt sv_targetParts sv_isRoot))] sz)) 0 0 (va_A [(h0, .inr (11, MO ma sv_thrown sv_length sv_nodes sv_many sv_directories sv_runsFrom sv_runs sv_read sv_wrong sv_isNamed sv_goes sv_goesSize sv_goesAt sv_targetParts sv_isRoot))] sz) := by
  refine Met.ofW (cc := b_DiscMakerModel_isWrong) (maxL := 2) (ret := some .boolean) (by decide) rfl ?_
  intro p e s m args below meth c s₁ B hml hv
  obtain ⟨rfl, hsz, hP, hK, hN, hD0⟩ := hv
  have hx := B.exec
  have hb := B.bytes
  have hr := B.returns
  have hts := atoms_spec (ws := w_DiscMakerModel_isWrong) B.pre
  have ht9 := fun (w : Cond) (h : w ∈ lw_g) => hts w (List.mem_cons_of_mem _ h)
  have hown : s.vm.findClass "DiscMakerModel" = some m.cls := findClass_of_methodNamed B.named
  have hlocks := B.notSynchronized
  subst hsz
  have hD := hD0.self (sz := s.heap.size)
  generalize hAe : va_A [(h0, .inr (11, MO ma sv_thrown sv_length sv_nodes sv_many sv_directories sv_runsFrom sv_runs sv_read sv_wrong sv_isNamed sv_goes sv_goesSize sv_goesAt sv_targetParts sv_isRoot))] s.heap.size = A at hD ⊢
  have hA : ∀ q : Nat, s.heap.size ≤ q → A q := fun q h => by rw [← hAe]; exact Or.inr h
  have hS : va_S A s.heap s.heap [] := va_S.rf
  have hP : va_P D CL [(h0, .inr (11, MO ma sv_thrown sv_length sv_nodes sv_many sv_directories sv_runsFrom sv_runs sv_read sv_wrong sv_isNamed sv_goes sv_goesSize sv_goesAt sv_targetParts sv_isRoot))] s.heap := hP
  have hl := lv_entry [.ref h0, .int x] (n := 2) (Nat.le_of_ble_eq_true rfl)
  rw [lg_entry_eq]
  generalize (lg_sl [.ref h0, .int x] ++ List.replicate (2 - (lg_sl [.ref h0, .int x]).length) Slot.unset).toArray = ls at hl ⊢
  have hl : lv_has ls 2 [(0, .ref h0), (1, .int x)] := hl
  have L_m1 : ((-1) : Int32).toInt = (-1) := by decide
  have L_0 : (0 : Int32).toInt = 0 := by decide
  have L_1 : (1 : Int32).toInt = 1 := by decide
  refine lv_aload_n hx hb d_DiscMakerModel_isWrong_0 rfl (lv_at hl 0 rfl) ?_
  refine va_get (D := D) (ci := 11) (v := .int sv_wrong) (C := "DiscMakerModel") (T := F_DiscMakerModel) (N := 48) hx hb ht9 in_DiscMakerModel hown hK hP 0 rfl rfl 41 (by decide) (ht9 _ k1472) (fun _ h9 => h9) rfl d_DiscMakerModel_isWrong_1 ?_
  refine lv_if_ge (tgt := 12) hx hb d_DiscMakerModel_isWrong_4 (by decide) (fun h_9 => ?_) (fun h_9 => ?_)
  · skip
    have g4_3 : 0 ≤ sv_wrong.toInt := (i_le (by decide) rfl).mp h_9
    refine lv_iconst (v := 0) hx hb d_DiscMakerModel_isWrong_12 (by decide) ?_
    have hP9 := hP.sub (ws' := [(h0, .inr (11, MO ma sv_thrown sv_length sv_nodes sv_many sv_directories sv_runsFrom sv_runs sv_read sv_wrong sv_isNamed sv_goes sv_goesSize sv_goesAt sv_targetParts sv_isRoot))]) [0] rfl
    have hD9 := hD.sub (ws' := [(h0, .inr (11, MO ma sv_thrown sv_length sv_nodes sv_many sv_directories sv_runsFrom sv_runs sv_read sv_wrong sv_isNamed sv_goes sv_goesSize sv_goesAt sv_targetParts sv_isRoot))]) [0] (by decide +kernel) rfl
    exact W.zret (v := 0) hx hb hr (by first | rfl | decide | exact i_narZ (by omega)) (fun t ht hW => ⟨⟨0, sv_wrong, rfl, (by (try dsimp only); first | assumption | omega | trivial), by rw [ht]; exact hP9, hD9⟩, hS.F ht⟩) hS.2.2 d_DiscMakerModel_isWrong_13
  · skip
    have g4_3 : ¬ 0 ≤ sv_wrong.toInt := fun h8 => h_9 ((i_le (by decide) rfl).mpr h8)
    refine lv_aload_n hx hb d_DiscMakerModel_isWrong_7 rfl (lv_at hl 0 rfl) ?_
    refine lv_iload_n hx hb d_DiscMakerModel_isWrong_8 rfl (lv_at hl 1 rfl) ?_
    refine va_put (D := D) (ci := 11) (v := .int x) (ty := .int) (C := "DiscMakerModel") (T := F_DiscMakerModel) (N := 48) hx hb ht9 in_DiscMakerModel t_DiscMakerModel t_DiscMakerModel_ok n_DiscMakerModel hown hK hP hD hS 0 rfl rfl 41 (by decide) (ht9 _ k1472) (fun _ h9 => h9) rfl (by decide +kernel) rfl rfl (Nat.le_of_ble_eq_true rfl) d_DiscMakerModel_isWrong_9 (fun H locs hP hD hS => ?_)
    have hP : va_P D CL [(h0, .inr (11, MO ma sv_thrown sv_length sv_nodes sv_many sv_directories sv_runsFrom sv_runs sv_read x sv_isNamed sv_goes sv_goesSize sv_goesAt sv_targetParts sv_isRoot))] H := hP
    have hD : va_D A [(h0, .inr (11, MO ma sv_thrown sv_length sv_nodes sv_many sv_directories sv_runsFrom sv_runs sv_read x sv_isNamed sv_goes sv_goesSize sv_goesAt sv_targetParts sv_isRoot))] := hD
    refine lv_iconst (v := 0) hx hb d_DiscMakerModel_isWrong_12 (by decide) ?_
    have hP9 := hP.sub (ws' := [(h0, .inr (11, MO ma sv_thrown sv_length sv_nodes sv_many sv_directories sv_runsFrom sv_runs sv_read x sv_isNamed sv_goes sv_goesSize sv_goesAt sv_targetParts sv_isRoot))]) [0] rfl
    have hD9 := hD.sub (ws' := [(h0, .inr (11, MO ma sv_thrown sv_length sv_nodes sv_many sv_directories sv_runsFrom sv_runs sv_read x sv_isNamed sv_goes sv_goesSize sv_goesAt sv_targetParts sv_isRoot))]) [0] (by decide +kernel) rfl
    exact W.zret (v := 0) hx hb hr (by first | rfl | decide | exact i_narZ (by omega)) (fun t ht hW => ⟨⟨0, x, rfl, (by (try dsimp only); first | assumption | omega | trivial), by rw [ht]; exact hP9, hD9⟩, hS.F ht⟩) hS.2.2 d_DiscMakerModel_isWrong_13

theorem d_DiscMakerModel_isMarked_0 : decode b_DiscMakerModel_isMarked 0 = .ok (.aload_n 0, 1) := by decide +kernel
theorem d_DiscMakerModel_isMarked_1 : decode b_DiscMakerModel_isMarked 1 = .ok (.iload_n 1, 1) := by decide +kernel
theorem d_DiscMakerModel_isMarked_2 : decode b_DiscMakerModel_isMarked 2 = .ok (.bipush 25, 2) := by decide +kernel
theorem d_DiscMakerModel_isMarked_4 : decode b_DiscMakerModel_isMarked 4 = .ok (.iadd, 1) := by decide +kernel
theorem d_DiscMakerModel_isMarked_5 : decode b_DiscMakerModel_isMarked 5 = .ok (.invokevirtual 303, 3) := by decide +kernel
theorem d_DiscMakerModel_isMarked_8 : decode b_DiscMakerModel_isMarked 8 = .ok (.iconst 2, 1) := by decide +kernel
theorem d_DiscMakerModel_isMarked_9 : decode b_DiscMakerModel_isMarked 9 = .ok (.iand, 1) := by decide +kernel
theorem d_DiscMakerModel_isMarked_10 : decode b_DiscMakerModel_isMarked 10 = .ok (.ifCond .eq 7, 3) := by decide +kernel
theorem d_DiscMakerModel_isMarked_13 : decode b_DiscMakerModel_isMarked 13 = .ok (.iconst 1, 1) := by decide +kernel
theorem d_DiscMakerModel_isMarked_14 : decode b_DiscMakerModel_isMarked 14 = .ok (.goto 4, 3) := by decide +kernel
theorem d_DiscMakerModel_isMarked_17 : decode b_DiscMakerModel_isMarked 17 = .ok (.iconst 0, 1) := by decide +kernel
theorem d_DiscMakerModel_isMarked_18 : decode b_DiscMakerModel_isMarked 18 = .ok (.ireturn, 1) := by decide +kernel
set_option maxHeartbeats 4000000 in
set_option maxRecDepth 100000 in
theorem m_isMarked (l : Launch) (D : va_G) (cB cI cJ cZ cN cF : ClassId) (sz : Nat) (h0 : Nat) (ma : Nat → Nat) (sv_thrown sv_length sv_nodes sv_many sv_directories sv_runsFrom sv_runs sv_read sv_wrong sv_isNamed sv_goes sv_goesSize sv_goesAt sv_targetParts sv_isRoot : Int32) (F : Nat → Int64) (x : Int32) (hx0 : 0 ≤ x.toInt) (hx1 : x.toInt + 26 ≤ 368640) : Met l y_DiscMakerModel_isMarked w_DiscMakerModel_isMarked ({ frames := 1, cells := 0, slots := 0, locals := 21 }) (va_Pc [.ref h0, .int x] (fun U => U.heap.size = sz ∧ va_P D CL [(h0, .inr (11, MO ma sv_thrown sv_length sv_nodes sv_many sv_directories sv_runsFrom sv_runs sv_read sv_wrong sv_isNamed sv_goes sv_goesSize sv_goesAt sv_targetParts sv_isRoot)), ((ma 16), .inl (cJ, 46080, .inr (.inl F)))] U.heap ∧ va_K D CL (TY cB cI cJ cZ cN cF) U ∧ NN U ∧ va_D (fun _ => True) [(h0, .inr (11, MO ma sv_thrown sv_length sv_nodes sv_many sv_directories sv_runsFrom sv_runs sv_read sv_wrong sv_isNamed sv_goes sv_goesSize sv_goesAt sv_targetParts sv_isRoot)), ((ma 16), .inl (cJ, 46080, .inr (.inl F)))])) (va_Qi (fun (r : Int32) (u : Unit) => (0 ≤ r.toInt ∧ r.toInt ≤ 1) ∧ (r = mkF F x)) (fun (u : Unit) (t : State) => match u with | () => va_P D CL [(h0, .inr (11, MO ma sv_thrown sv_length sv_nodes sv_many sv_directories sv_runsFrom sv_runs sv_read sv_wrong sv_isNamed sv_goes sv_goesSize sv_goesAt sv_targetParts sv_isRoot)), ((ma 16), .inl (cJ, 46080, .inr (.inl F)))] t.heap ∧ va_D (va_A [(h0, .inr (11, MO ma sv_thrown sv_length sv_nodes sv_many sv_directories sv_runsFrom sv_runs sv_read sv_wrong sv_isNamed sv_goes sv_goesSize sv_goesAt sv_targetParts sv_isRoot)), ((ma 16), .inl (cJ, 46080, .inr (.inl F)))] sz) [(h0, .inr (11, MO ma sv_thrown sv_length sv_nodes sv_many sv_directories sv_runsFrom sv_runs sv_read sv_wrong sv_isNamed sv_goes sv_goesSize sv_goesAt sv_targetParts sv_isRoot)), ((ma 16), .inl (cJ, 46080, .inr (.inl F)))]) (va_A [(h0, .inr (11, MO ma sv_thrown sv_length sv_nodes sv_many sv_directories sv_runsFrom sv_runs sv_read sv_wrong sv_isNamed sv_goes sv_goesSize sv_goesAt sv_targetParts sv_isRoot)), ((ma 16), .inl (cJ, 46080, .inr (.inl F)))] sz)) 0 0 (va_A [(h0, .inr (11, MO ma sv_thrown sv_length sv_nodes sv_many sv_directories sv_runsFrom sv_runs sv_read sv_wrong sv_isNamed sv_goes sv_goesSize sv_goesAt sv_targetParts sv_isRoot)), ((ma 16), .inl (cJ, 46080, .inr (.inl F)))] sz) := by
  refine Met.ofW (cc := b_DiscMakerModel_isMarked) (maxL := 2) (ret := some .boolean) (by decide) rfl ?_
  intro p e s m args below meth c s₁ B hml hv
  obtain ⟨rfl, hsz, hP, hK, hN, hD0⟩ := hv
  have hx := B.exec
  have hb := B.bytes
  have hr := B.returns
  have hts := atoms_spec (ws := w_DiscMakerModel_isMarked) B.pre
  have ht9 := fun (w : Cond) (h : w ∈ lw_g) => hts w (List.mem_cons_of_mem _ h)
  have hown : s.vm.findClass "DiscMakerModel" = some m.cls := findClass_of_methodNamed B.named
  have hlocks := B.notSynchronized
  subst hsz
  have hD := hD0.self (sz := s.heap.size)
  generalize hAe : va_A [(h0, .inr (11, MO ma sv_thrown sv_length sv_nodes sv_many sv_directories sv_runsFrom sv_runs sv_read sv_wrong sv_isNamed sv_goes sv_goesSize sv_goesAt sv_targetParts sv_isRoot)), ((ma 16), .inl (cJ, 46080, .inr (.inl F)))] s.heap.size = A at hD ⊢
  have hA : ∀ q : Nat, s.heap.size ≤ q → A q := fun q h => by rw [← hAe]; exact Or.inr h
  have hS : va_S A s.heap s.heap [] := va_S.rf
  have hP : va_P D CL [(h0, .inr (11, MO ma sv_thrown sv_length sv_nodes sv_many sv_directories sv_runsFrom sv_runs sv_read sv_wrong sv_isNamed sv_goes sv_goesSize sv_goesAt sv_targetParts sv_isRoot)), ((ma 16), .inl (cJ, 46080, .inr (.inl F)))] s.heap := hP
  have hl := lv_entry [.ref h0, .int x] (n := 2) (Nat.le_of_ble_eq_true rfl)
  rw [lg_entry_eq]
  generalize (lg_sl [.ref h0, .int x] ++ List.replicate (2 - (lg_sl [.ref h0, .int x]).length) Slot.unset).toArray = ls at hl ⊢
  have hl : lv_has ls 2 [(0, .ref h0), (1, .int x)] := hl
  have L_m1 : ((-1) : Int32).toInt = (-1) := by decide
  have L_0 : (0 : Int32).toInt = 0 := by decide
  have L_1 : (1 : Int32).toInt = 1 := by decide
  have L_2 : (2 : Int32).toInt = 2 := by decide
  have L_25 : (25 : Int32).toInt = 25 := by decide
  refine lv_aload_n hx hb d_DiscMakerModel_isMarked_0 rfl (lv_at hl 0 rfl) ?_
  refine lv_iload_n hx hb d_DiscMakerModel_isMarked_1 rfl (lv_at hl 1 rfl) ?_
  refine lv_bipush (v := 25) hx hb d_DiscMakerModel_isMarked_2 (by decide) ?_
  refine lv_iadd hx hb d_DiscMakerModel_isMarked_4 ?_
  refine lv_topi (fun v1 e_v1 => ?_)
  have t_v1 : v1.toInt = x.toInt + 25 := by rw [e_v1]; exact i_add rfl (by decide) (by omega) (by omega)
  have hPc := hP.sub (ws' := [(h0, .inr (11, MO ma sv_thrown sv_length sv_nodes sv_many sv_directories sv_runsFrom sv_runs sv_read sv_wrong sv_isNamed sv_goes sv_goesSize sv_goesAt sv_targetParts sv_isRoot)), ((ma 16), .inl (cJ, 46080, .inr (.inl F)))]) [0, 1] rfl
  have hDc := hD.sub (ws' := [(h0, .inr (11, MO ma sv_thrown sv_length sv_nodes sv_many sv_directories sv_runsFrom sv_runs sv_read sv_wrong sv_isNamed sv_goes sv_goesSize sv_goesAt sv_targetParts sv_isRoot)), ((ma 16), .inl (cJ, 46080, .inr (.inl F)))]) [0, 1] (by decide +kernel) rfl
  have hFc := va_free (wc := [(h0, .inr (11, MO ma sv_thrown sv_length sv_nodes sv_many sv_directories sv_runsFrom sv_runs sv_read sv_wrong sv_isNamed sv_goes sv_goesSize sv_goesAt sv_targetParts sv_isRoot)), ((ma 16), .inl (cJ, 46080, .inr (.inl F)))]) hD hS hA [0, 1] rfl
  have hkc : 0 ≤ 0 := by decide
  have hks : 0 ≤ 0 := by decide
  refine va_calli (va_runV (C := "DiscMakerModel") (As := [.int v1]) (rest := []) ⟨hx, hb, hml, hown, hts⟩ (m_at l D cB cI cJ cZ cN cF s.heap.size h0 ma sv_thrown sv_length sv_nodes sv_many sv_directories sv_runsFrom sv_runs sv_read sv_wrong sv_isNamed sv_goes sv_goesSize sv_goesAt sv_targetParts sv_isRoot F v1 (by (try dsimp only); first | assumption | omega | trivial) (by (try dsimp only); first | assumption | omega | trivial)) (cwV 1 hts (lg_goodV k1809 k1811 k95 k125 kc_DiscMakerModel_at) rfl rfl rfl (by decide +kernel) ⟨Nat.le_of_ble_eq_true rfl, Nat.le_of_ble_eq_true rfl⟩) ⟨fun a U g mk q => by obtain ⟨q0, q1, qP, qK, qN, qD⟩ := q; exact ⟨q0, q1, qP, va_K.moved (u := U) (U := U.calling g mk a) (Vm.Alike.refl U.vm) qK, qN.calling, qD⟩, va_recv hK hP (ci := 11) (q0 := 0) rfl rfl, fun U hU hW => ⟨rfl, by rw [hU], by rw [hU]; exact hPc, va_K.moved hW.alike hK, NN.warm hW hN, hDc.weaken (fun _ _ _ _ => trivial)⟩⟩ rfl rfl hl.1 rfl (lv_room (Nat.le_of_ble_eq_true rfl)) d_DiscMakerModel_isMarked_5 ⟨hkc, hks⟩) hS (fun q _ h => hFc q h) hFc (fun r2 u t H1 locs ht hvm hp_r2 hB hz1 hk1 hS => ?_)
  obtain ⟨hP1, hD1⟩ := hB
  rw [ht] at hP1
  obtain ⟨hP, hD⟩ := va_join (wr := []) (w1 := [(h0, .inr (11, MO ma sv_thrown sv_length sv_nodes sv_many sv_directories sv_runsFrom sv_runs sv_read sv_wrong sv_isNamed sv_goes sv_goesSize sv_goesAt sv_targetParts sv_isRoot)), ((ma 16), .inl (cJ, 46080, .inr (.inl F)))]) hP hD [0, 1] [] rfl rfl (by decide +kernel) (by decide +kernel) hk1 hFc hP1 hD1
  clear hPc hDc hFc hP1 hD1 hk1 hz1 hkc hks
  generalize H1 = H at hP hS ⊢
  have hP : va_P D CL [(h0, .inr (11, MO ma sv_thrown sv_length sv_nodes sv_many sv_directories sv_runsFrom sv_runs sv_read sv_wrong sv_isNamed sv_goes sv_goesSize sv_goesAt sv_targetParts sv_isRoot)), ((ma 16), .inl (cJ, 46080, .inr (.inl F)))] H := hP
  have hD : va_D A [(h0, .inr (11, MO ma sv_thrown sv_length sv_nodes sv_many sv_directories sv_runsFrom sv_runs sv_read sv_wrong sv_isNamed sv_goes sv_goesSize sv_goesAt sv_targetParts sv_isRoot)), ((ma 16), .inl (cJ, 46080, .inr (.inl F)))] := hD
  try dsimp only at hp_r2
  obtain ⟨hr_3, hv_4, hw_5⟩ := hp_r2
  refine lv_iconst (v := 2) hx hb d_DiscMakerModel_isMarked_8 (by decide) ?_
  refine lv_iand hx hb d_DiscMakerModel_isMarked_9 ?_
  refine lv_topi (fun v6 e_v6 => ?_)
  have t_v6 : 0 ≤ v6.toInt ∧ v6.toInt ≤ 2 := by rw [e_v6]; exact i_and (by decide) (by decide)
  refine lv_if_eq (tgt := 17) hx hb d_DiscMakerModel_isMarked_10 (by decide) (fun h_9 => ?_) (fun h_9 => ?_)
  · skip
    have g10_8 : v6.toInt = 0 := (i_eq rfl (by decide)).mp h_9
    refine lv_iconst (v := 0) hx hb d_DiscMakerModel_isMarked_17 (by decide) ?_
    have hP9 := hP.sub (ws' := [(h0, .inr (11, MO ma sv_thrown sv_length sv_nodes sv_many sv_directories sv_runsFrom sv_runs sv_read sv_wrong sv_isNamed sv_goes sv_goesSize sv_goesAt sv_targetParts sv_isRoot)), ((ma 16), .inl (cJ, 46080, .inr (.inl F)))]) [0, 1] rfl
    have hD9 := hD.sub (ws' := [(h0, .inr (11, MO ma sv_thrown sv_length sv_nodes sv_many sv_directories sv_runsFrom sv_runs sv_read sv_wrong sv_isNamed sv_goes sv_goesSize sv_goesAt sv_targetParts sv_isRoot)), ((ma 16), .inl (cJ, 46080, .inr (.inl F)))]) [0, 1] (by decide +kernel) rfl
    exact W.zret (v := 0) hx hb hr (by first | rfl | decide | exact i_narZ (by omega)) (fun t ht hW => ⟨⟨0, (), rfl, ⟨(by (try dsimp only); first | assumption | omega | trivial), (by clear h_9; subst_vars; unfold mkF; split <;> first | rfl | (exfalso; omega))⟩, by rw [ht]; exact hP9, hD9⟩, hS.F ht⟩) hS.2.2 d_DiscMakerModel_isMarked_18
  · skip
    have g10_8 : ¬ v6.toInt = 0 := fun h8 => h_9 ((i_eq rfl (by decide)).mpr h8)
    refine lv_iconst (v := 1) hx hb d_DiscMakerModel_isMarked_13 (by decide) ?_
    refine lv_goto (tgt := 18) hx hb d_DiscMakerModel_isMarked_14 (by decide) ?_
    have hP9 := hP.sub (ws' := [(h0, .inr (11, MO ma sv_thrown sv_length sv_nodes sv_many sv_directories sv_runsFrom sv_runs sv_read sv_wrong sv_isNamed sv_goes sv_goesSize sv_goesAt sv_targetParts sv_isRoot)), ((ma 16), .inl (cJ, 46080, .inr (.inl F)))]) [0, 1] rfl
    have hD9 := hD.sub (ws' := [(h0, .inr (11, MO ma sv_thrown sv_length sv_nodes sv_many sv_directories sv_runsFrom sv_runs sv_read sv_wrong sv_isNamed sv_goes sv_goesSize sv_goesAt sv_targetParts sv_isRoot)), ((ma 16), .inl (cJ, 46080, .inr (.inl F)))]) [0, 1] (by decide +kernel) rfl
    exact W.zret (v := 1) hx hb hr (by first | rfl | decide | exact i_narZ (by omega)) (fun t ht hW => ⟨⟨1, (), rfl, ⟨(by (try dsimp only); first | assumption | omega | trivial), (by clear h_9; subst_vars; unfold mkF; split <;> first | rfl | (exfalso; omega))⟩, by rw [ht]; exact hP9, hD9⟩, hS.F ht⟩) hS.2.2 d_DiscMakerModel_isMarked_18

theorem d_DiscMakerModel_isRecord_0 : decode b_DiscMakerModel_isRecord 0 = .ok (.aload_n 0, 1) := by decide +kernel
theorem d_DiscMakerModel_isRecord_1 : decode b_DiscMakerModel_isRecord 1 = .ok (.iload_n 1, 1) := by decide +kernel
theorem d_DiscMakerModel_isRecord_2 : decode b_DiscMakerModel_isRecord 2 = .ok (.invokevirtual 303, 3) := by decide +kernel
theorem d_DiscMakerModel_isRecord_5 : decode b_DiscMakerModel_isRecord 5 = .ok (.istore_n 2, 1) := by decide +kernel
theorem d_DiscMakerModel_isRecord_6 : decode b_DiscMakerModel_isRecord 6 = .ok (.sipush 2048, 3) := by decide +kernel
theorem d_DiscMakerModel_isRecord_9 : decode b_DiscMakerModel_isRecord 9 = .ok (.iload_n 1, 1) := by decide +kernel
theorem d_DiscMakerModel_isRecord_10 : decode b_DiscMakerModel_isRecord 10 = .ok (.sipush 2048, 3) := by decide +kernel
theorem d_DiscMakerModel_isRecord_13 : decode b_DiscMakerModel_isRecord 13 = .ok (.irem, 1) := by decide +kernel
theorem d_DiscMakerModel_isRecord_14 : decode b_DiscMakerModel_isRecord 14 = .ok (.isub, 1) := by decide +kernel
theorem d_DiscMakerModel_isRecord_15 : decode b_DiscMakerModel_isRecord 15 = .ok (.istore_n 3, 1) := by decide +kernel
theorem d_DiscMakerModel_isRecord_16 : decode b_DiscMakerModel_isRecord 16 = .ok (.iload_n 2, 1) := by decide +kernel
theorem d_DiscMakerModel_isRecord_17 : decode b_DiscMakerModel_isRecord 17 = .ok (.bipush 34, 2) := by decide +kernel
theorem d_DiscMakerModel_isRecord_19 : decode b_DiscMakerModel_isRecord 19 = .ok (.if_icmp .lt 73, 3) := by decide +kernel
theorem d_DiscMakerModel_isRecord_22 : decode b_DiscMakerModel_isRecord 22 = .ok (.iload_n 2, 1) := by decide +kernel
theorem d_DiscMakerModel_isRecord_23 : decode b_DiscMakerModel_isRecord 23 = .ok (.iload_n 3, 1) := by decide +kernel
theorem d_DiscMakerModel_isRecord_24 : decode b_DiscMakerModel_isRecord 24 = .ok (.if_icmp .gt 68, 3) := by decide +kernel
theorem d_DiscMakerModel_isRecord_27 : decode b_DiscMakerModel_isRecord 27 = .ok (.iload_n 2, 1) := by decide +kernel
theorem d_DiscMakerModel_isRecord_28 : decode b_DiscMakerModel_isRecord 28 = .ok (.bipush 33, 2) := by decide +kernel
theorem d_DiscMakerModel_isRecord_30 : decode b_DiscMakerModel_isRecord 30 = .ok (.aload_n 0, 1) := by decide +kernel
theorem d_DiscMakerModel_isRecord_31 : decode b_DiscMakerModel_isRecord 31 = .ok (.iload_n 1, 1) := by decide +kernel
theorem d_DiscMakerModel_isRecord_32 : decode b_DiscMakerModel_isRecord 32 = .ok (.bipush 32, 2) := by decide +kernel
theorem d_DiscMakerModel_isRecord_34 : decode b_DiscMakerModel_isRecord 34 = .ok (.iadd, 1) := by decide +kernel
theorem d_DiscMakerModel_isRecord_35 : decode b_DiscMakerModel_isRecord 35 = .ok (.invokevirtual 303, 3) := by decide +kernel
theorem d_DiscMakerModel_isRecord_38 : decode b_DiscMakerModel_isRecord 38 = .ok (.iadd, 1) := by decide +kernel
theorem d_DiscMakerModel_isRecord_39 : decode b_DiscMakerModel_isRecord 39 = .ok (.if_icmp .lt 53, 3) := by decide +kernel
theorem d_DiscMakerModel_isRecord_42 : decode b_DiscMakerModel_isRecord 42 = .ok (.aload_n 0, 1) := by decide +kernel
theorem d_DiscMakerModel_isRecord_43 : decode b_DiscMakerModel_isRecord 43 = .ok (.iload_n 1, 1) := by decide +kernel
theorem d_DiscMakerModel_isRecord_44 : decode b_DiscMakerModel_isRecord 44 = .ok (.bipush 32, 2) := by decide +kernel
theorem d_DiscMakerModel_isRecord_46 : decode b_DiscMakerModel_isRecord 46 = .ok (.iadd, 1) := by decide +kernel
theorem d_DiscMakerModel_isRecord_47 : decode b_DiscMakerModel_isRecord 47 = .ok (.invokevirtual 303, 3) := by decide +kernel
theorem d_DiscMakerModel_isRecord_50 : decode b_DiscMakerModel_isRecord 50 = .ok (.ifCond .le 42, 3) := by decide +kernel
theorem d_DiscMakerModel_isRecord_53 : decode b_DiscMakerModel_isRecord 53 = .ok (.aload_n 0, 1) := by decide +kernel
theorem d_DiscMakerModel_isRecord_54 : decode b_DiscMakerModel_isRecord 54 = .ok (.iload_n 1, 1) := by decide +kernel
theorem d_DiscMakerModel_isRecord_55 : decode b_DiscMakerModel_isRecord 55 = .ok (.iconst 2, 1) := by decide +kernel
theorem d_DiscMakerModel_isRecord_56 : decode b_DiscMakerModel_isRecord 56 = .ok (.iadd, 1) := by decide +kernel
theorem d_DiscMakerModel_isRecord_57 : decode b_DiscMakerModel_isRecord 57 = .ok (.iconst 4, 1) := by decide +kernel
theorem d_DiscMakerModel_isRecord_58 : decode b_DiscMakerModel_isRecord 58 = .ok (.invokevirtual 312, 3) := by decide +kernel
theorem d_DiscMakerModel_isRecord_61 : decode b_DiscMakerModel_isRecord 61 = .ok (.ifCond .eq 31, 3) := by decide +kernel
theorem d_DiscMakerModel_isRecord_64 : decode b_DiscMakerModel_isRecord 64 = .ok (.aload_n 0, 1) := by decide +kernel
theorem d_DiscMakerModel_isRecord_65 : decode b_DiscMakerModel_isRecord 65 = .ok (.iload_n 1, 1) := by decide +kernel
theorem d_DiscMakerModel_isRecord_66 : decode b_DiscMakerModel_isRecord 66 = .ok (.bipush 10, 2) := by decide +kernel
theorem d_DiscMakerModel_isRecord_68 : decode b_DiscMakerModel_isRecord 68 = .ok (.iadd, 1) := by decide +kernel
theorem d_DiscMakerModel_isRecord_69 : decode b_DiscMakerModel_isRecord 69 = .ok (.iconst 4, 1) := by decide +kernel
theorem d_DiscMakerModel_isRecord_70 : decode b_DiscMakerModel_isRecord 70 = .ok (.invokevirtual 312, 3) := by decide +kernel
theorem d_DiscMakerModel_isRecord_73 : decode b_DiscMakerModel_isRecord 73 = .ok (.ifCond .eq 19, 3) := by decide +kernel
theorem d_DiscMakerModel_isRecord_76 : decode b_DiscMakerModel_isRecord 76 = .ok (.aload_n 0, 1) := by decide +kernel
theorem d_DiscMakerModel_isRecord_77 : decode b_DiscMakerModel_isRecord 77 = .ok (.iload_n 1, 1) := by decide +kernel
theorem d_DiscMakerModel_isRecord_78 : decode b_DiscMakerModel_isRecord 78 = .ok (.bipush 28, 2) := by decide +kernel
theorem d_DiscMakerModel_isRecord_80 : decode b_DiscMakerModel_isRecord 80 = .ok (.iadd, 1) := by decide +kernel
theorem d_DiscMakerModel_isRecord_81 : decode b_DiscMakerModel_isRecord 81 = .ok (.iconst 2, 1) := by decide +kernel
theorem d_DiscMakerModel_isRecord_82 : decode b_DiscMakerModel_isRecord 82 = .ok (.invokevirtual 312, 3) := by decide +kernel
theorem d_DiscMakerModel_isRecord_85 : decode b_DiscMakerModel_isRecord 85 = .ok (.ifCond .eq 7, 3) := by decide +kernel
theorem d_DiscMakerModel_isRecord_88 : decode b_DiscMakerModel_isRecord 88 = .ok (.iconst 1, 1) := by decide +kernel
theorem d_DiscMakerModel_isRecord_89 : decode b_DiscMakerModel_isRecord 89 = .ok (.goto 4, 3) := by decide +kernel
theorem d_DiscMakerModel_isRecord_92 : decode b_DiscMakerModel_isRecord 92 = .ok (.iconst 0, 1) := by decide +kernel
theorem d_DiscMakerModel_isRecord_93 : decode b_DiscMakerModel_isRecord 93 = .ok (.istore 4, 2) := by decide +kernel
theorem d_DiscMakerModel_isRecord_95 : decode b_DiscMakerModel_isRecord 95 = .ok (.iload 4, 2) := by decide +kernel
theorem d_DiscMakerModel_isRecord_97 : decode b_DiscMakerModel_isRecord 97 = .ok (.ifCond .ne 9, 3) := by decide +kernel
theorem d_DiscMakerModel_isRecord_100 : decode b_DiscMakerModel_isRecord 100 = .ok (.aload_n 0, 1) := by decide +kernel
theorem d_DiscMakerModel_isRecord_101 : decode b_DiscMakerModel_isRecord 101 = .ok (.iload_n 1, 1) := by decide +kernel
theorem d_DiscMakerModel_isRecord_102 : decode b_DiscMakerModel_isRecord 102 = .ok (.invokevirtual 309, 3) := by decide +kernel
theorem d_DiscMakerModel_isRecord_105 : decode b_DiscMakerModel_isRecord 105 = .ok (.ireturn, 1) := by decide +kernel
theorem d_DiscMakerModel_isRecord_106 : decode b_DiscMakerModel_isRecord 106 = .ok (.aload_n 0, 1) := by decide +kernel
theorem d_DiscMakerModel_isRecord_107 : decode b_DiscMakerModel_isRecord 107 = .ok (.iload_n 1, 1) := by decide +kernel
theorem d_DiscMakerModel_isRecord_108 : decode b_DiscMakerModel_isRecord 108 = .ok (.iconst 2, 1) := by decide +kernel
theorem d_DiscMakerModel_isRecord_109 : decode b_DiscMakerModel_isRecord 109 = .ok (.iadd, 1) := by decide +kernel
theorem d_DiscMakerModel_isRecord_110 : decode b_DiscMakerModel_isRecord 110 = .ok (.iconst 4, 1) := by decide +kernel
theorem d_DiscMakerModel_isRecord_111 : decode b_DiscMakerModel_isRecord 111 = .ok (.invokevirtual 315, 3) := by decide +kernel
theorem d_DiscMakerModel_isRecord_114 : decode b_DiscMakerModel_isRecord 114 = .ok (.i2l, 1) := by decide +kernel
theorem d_DiscMakerModel_isRecord_115 : decode b_DiscMakerModel_isRecord 115 = .ok (.lstore 5, 2) := by decide +kernel
theorem d_DiscMakerModel_isRecord_117 : decode b_DiscMakerModel_isRecord 117 = .ok (.aload_n 0, 1) := by decide +kernel
theorem d_DiscMakerModel_isRecord_118 : decode b_DiscMakerModel_isRecord 118 = .ok (.iload_n 1, 1) := by decide +kernel
theorem d_DiscMakerModel_isRecord_119 : decode b_DiscMakerModel_isRecord 119 = .ok (.bipush 10, 2) := by decide +kernel
theorem d_DiscMakerModel_isRecord_121 : decode b_DiscMakerModel_isRecord 121 = .ok (.iadd, 1) := by decide +kernel
theorem d_DiscMakerModel_isRecord_122 : decode b_DiscMakerModel_isRecord 122 = .ok (.iconst 4, 1) := by decide +kernel
theorem d_DiscMakerModel_isRecord_123 : decode b_DiscMakerModel_isRecord 123 = .ok (.invokevirtual 315, 3) := by decide +kernel
theorem d_DiscMakerModel_isRecord_126 : decode b_DiscMakerModel_isRecord 126 = .ok (.i2l, 1) := by decide +kernel
theorem d_DiscMakerModel_isRecord_127 : decode b_DiscMakerModel_isRecord 127 = .ok (.lstore 7, 2) := by decide +kernel
theorem d_DiscMakerModel_isRecord_129 : decode b_DiscMakerModel_isRecord 129 = .ok (.aload_n 0, 1) := by decide +kernel
theorem d_DiscMakerModel_isRecord_130 : decode b_DiscMakerModel_isRecord 130 = .ok (.iload_n 1, 1) := by decide +kernel
theorem d_DiscMakerModel_isRecord_131 : decode b_DiscMakerModel_isRecord 131 = .ok (.invokevirtual 318, 3) := by decide +kernel
theorem d_DiscMakerModel_isRecord_134 : decode b_DiscMakerModel_isRecord 134 = .ok (.istore 9, 2) := by decide +kernel
theorem d_DiscMakerModel_isRecord_136 : decode b_DiscMakerModel_isRecord 136 = .ok (.iload 9, 2) := by decide +kernel
theorem d_DiscMakerModel_isRecord_138 : decode b_DiscMakerModel_isRecord 138 = .ok (.ifCond .eq 58, 3) := by decide +kernel
theorem d_DiscMakerModel_isRecord_141 : decode b_DiscMakerModel_isRecord 141 = .ok (.lload 7, 2) := by decide +kernel
theorem d_DiscMakerModel_isRecord_143 : decode b_DiscMakerModel_isRecord 143 = .ok (.lconst 0, 1) := by decide +kernel
theorem d_DiscMakerModel_isRecord_144 : decode b_DiscMakerModel_isRecord 144 = .ok (.lcmp, 1) := by decide +kernel
theorem d_DiscMakerModel_isRecord_145 : decode b_DiscMakerModel_isRecord 145 = .ok (.ifCond .le 47, 3) := by decide +kernel
theorem d_DiscMakerModel_isRecord_148 : decode b_DiscMakerModel_isRecord 148 = .ok (.lload 7, 2) := by decide +kernel
theorem d_DiscMakerModel_isRecord_150 : decode b_DiscMakerModel_isRecord 150 = .ok (.ldc2_w 321, 3) := by decide +kernel
theorem d_DiscMakerModel_isRecord_153 : decode b_DiscMakerModel_isRecord 153 = .ok (.lrem, 1) := by decide +kernel
theorem d_DiscMakerModel_isRecord_154 : decode b_DiscMakerModel_isRecord 154 = .ok (.lconst 0, 1) := by decide +kernel
theorem d_DiscMakerModel_isRecord_155 : decode b_DiscMakerModel_isRecord 155 = .ok (.lcmp, 1) := by decide +kernel
theorem d_DiscMakerModel_isRecord_156 : decode b_DiscMakerModel_isRecord 156 = .ok (.ifCond .ne 36, 3) := by decide +kernel
theorem d_DiscMakerModel_isRecord_159 : decode b_DiscMakerModel_isRecord 159 = .ok (.lload 5, 2) := by decide +kernel
theorem d_DiscMakerModel_isRecord_161 : decode b_DiscMakerModel_isRecord 161 = .ok (.lconst 0, 1) := by decide +kernel
theorem d_DiscMakerModel_isRecord_162 : decode b_DiscMakerModel_isRecord 162 = .ok (.lcmp, 1) := by decide +kernel
theorem d_DiscMakerModel_isRecord_163 : decode b_DiscMakerModel_isRecord 163 = .ok (.ifCond .lt 29, 3) := by decide +kernel
theorem d_DiscMakerModel_isRecord_166 : decode b_DiscMakerModel_isRecord 166 = .ok (.lload 5, 2) := by decide +kernel
theorem d_DiscMakerModel_isRecord_168 : decode b_DiscMakerModel_isRecord 168 = .ok (.ldc2_w 321, 3) := by decide +kernel
theorem d_DiscMakerModel_isRecord_171 : decode b_DiscMakerModel_isRecord 171 = .ok (.lmul, 1) := by decide +kernel
theorem d_DiscMakerModel_isRecord_172 : decode b_DiscMakerModel_isRecord 172 = .ok (.lload 7, 2) := by decide +kernel
theorem d_DiscMakerModel_isRecord_174 : decode b_DiscMakerModel_isRecord 174 = .ok (.ladd, 1) := by decide +kernel
theorem d_DiscMakerModel_isRecord_175 : decode b_DiscMakerModel_isRecord 175 = .ok (.ldc2_w 321, 3) := by decide +kernel
theorem d_DiscMakerModel_isRecord_178 : decode b_DiscMakerModel_isRecord 178 = .ok (.aload_n 0, 1) := by decide +kernel
theorem d_DiscMakerModel_isRecord_179 : decode b_DiscMakerModel_isRecord 179 = .ok (.getfield 282, 3) := by decide +kernel
theorem d_DiscMakerModel_isRecord_182 : decode b_DiscMakerModel_isRecord 182 = .ok (.i2l, 1) := by decide +kernel
theorem d_DiscMakerModel_isRecord_183 : decode b_DiscMakerModel_isRecord 183 = .ok (.lmul, 1) := by decide +kernel
theorem d_DiscMakerModel_isRecord_184 : decode b_DiscMakerModel_isRecord 184 = .ok (.lcmp, 1) := by decide +kernel
theorem d_DiscMakerModel_isRecord_185 : decode b_DiscMakerModel_isRecord 185 = .ok (.ifCond .gt 7, 3) := by decide +kernel
theorem d_DiscMakerModel_isRecord_188 : decode b_DiscMakerModel_isRecord 188 = .ok (.iconst 1, 1) := by decide +kernel
theorem d_DiscMakerModel_isRecord_189 : decode b_DiscMakerModel_isRecord 189 = .ok (.goto 55, 3) := by decide +kernel
theorem d_DiscMakerModel_isRecord_192 : decode b_DiscMakerModel_isRecord 192 = .ok (.iconst 0, 1) := by decide +kernel
theorem d_DiscMakerModel_isRecord_193 : decode b_DiscMakerModel_isRecord 193 = .ok (.goto 51, 3) := by decide +kernel
theorem d_DiscMakerModel_isRecord_196 : decode b_DiscMakerModel_isRecord 196 = .ok (.lload 7, 2) := by decide +kernel
theorem d_DiscMakerModel_isRecord_198 : decode b_DiscMakerModel_isRecord 198 = .ok (.lconst 0, 1) := by decide +kernel
theorem d_DiscMakerModel_isRecord_199 : decode b_DiscMakerModel_isRecord 199 = .ok (.lcmp, 1) := by decide +kernel
theorem d_DiscMakerModel_isRecord_200 : decode b_DiscMakerModel_isRecord 200 = .ok (.ifCond .eq 39, 3) := by decide +kernel
theorem d_DiscMakerModel_isRecord_203 : decode b_DiscMakerModel_isRecord 203 = .ok (.lload 7, 2) := by decide +kernel
theorem d_DiscMakerModel_isRecord_205 : decode b_DiscMakerModel_isRecord 205 = .ok (.lconst 0, 1) := by decide +kernel
theorem d_DiscMakerModel_isRecord_206 : decode b_DiscMakerModel_isRecord 206 = .ok (.lcmp, 1) := by decide +kernel
theorem d_DiscMakerModel_isRecord_207 : decode b_DiscMakerModel_isRecord 207 = .ok (.ifCond .le 36, 3) := by decide +kernel
theorem d_DiscMakerModel_isRecord_210 : decode b_DiscMakerModel_isRecord 210 = .ok (.lload 5, 2) := by decide +kernel
theorem d_DiscMakerModel_isRecord_212 : decode b_DiscMakerModel_isRecord 212 = .ok (.lconst 0, 1) := by decide +kernel
theorem d_DiscMakerModel_isRecord_213 : decode b_DiscMakerModel_isRecord 213 = .ok (.lcmp, 1) := by decide +kernel
theorem d_DiscMakerModel_isRecord_214 : decode b_DiscMakerModel_isRecord 214 = .ok (.ifCond .lt 29, 3) := by decide +kernel
theorem d_DiscMakerModel_isRecord_217 : decode b_DiscMakerModel_isRecord 217 = .ok (.lload 5, 2) := by decide +kernel
theorem d_DiscMakerModel_isRecord_219 : decode b_DiscMakerModel_isRecord 219 = .ok (.ldc2_w 321, 3) := by decide +kernel
theorem d_DiscMakerModel_isRecord_222 : decode b_DiscMakerModel_isRecord 222 = .ok (.lmul, 1) := by decide +kernel
theorem d_DiscMakerModel_isRecord_223 : decode b_DiscMakerModel_isRecord 223 = .ok (.lload 7, 2) := by decide +kernel
theorem d_DiscMakerModel_isRecord_225 : decode b_DiscMakerModel_isRecord 225 = .ok (.ladd, 1) := by decide +kernel
theorem d_DiscMakerModel_isRecord_226 : decode b_DiscMakerModel_isRecord 226 = .ok (.ldc2_w 321, 3) := by decide +kernel
theorem d_DiscMakerModel_isRecord_229 : decode b_DiscMakerModel_isRecord 229 = .ok (.aload_n 0, 1) := by decide +kernel
theorem d_DiscMakerModel_isRecord_230 : decode b_DiscMakerModel_isRecord 230 = .ok (.getfield 282, 3) := by decide +kernel
theorem d_DiscMakerModel_isRecord_233 : decode b_DiscMakerModel_isRecord 233 = .ok (.i2l, 1) := by decide +kernel
theorem d_DiscMakerModel_isRecord_234 : decode b_DiscMakerModel_isRecord 234 = .ok (.lmul, 1) := by decide +kernel
theorem d_DiscMakerModel_isRecord_235 : decode b_DiscMakerModel_isRecord 235 = .ok (.lcmp, 1) := by decide +kernel
theorem d_DiscMakerModel_isRecord_236 : decode b_DiscMakerModel_isRecord 236 = .ok (.ifCond .gt 7, 3) := by decide +kernel
theorem d_DiscMakerModel_isRecord_239 : decode b_DiscMakerModel_isRecord 239 = .ok (.iconst 1, 1) := by decide +kernel
theorem d_DiscMakerModel_isRecord_240 : decode b_DiscMakerModel_isRecord 240 = .ok (.goto 4, 3) := by decide +kernel
theorem d_DiscMakerModel_isRecord_243 : decode b_DiscMakerModel_isRecord 243 = .ok (.iconst 0, 1) := by decide +kernel
theorem d_DiscMakerModel_isRecord_244 : decode b_DiscMakerModel_isRecord 244 = .ok (.istore 10, 2) := by decide +kernel
theorem d_DiscMakerModel_isRecord_246 : decode b_DiscMakerModel_isRecord 246 = .ok (.iload 10, 2) := by decide +kernel
theorem d_DiscMakerModel_isRecord_248 : decode b_DiscMakerModel_isRecord 248 = .ok (.ifCond .ne 11, 3) := by decide +kernel
theorem d_DiscMakerModel_isRecord_251 : decode b_DiscMakerModel_isRecord 251 = .ok (.aload_n 0, 1) := by decide +kernel
theorem d_DiscMakerModel_isRecord_252 : decode b_DiscMakerModel_isRecord 252 = .ok (.iload_n 1, 1) := by decide +kernel
theorem d_DiscMakerModel_isRecord_253 : decode b_DiscMakerModel_isRecord 253 = .ok (.invokevirtual 309, 3) := by decide +kernel
theorem d_DiscMakerModel_isRecord_256 : decode b_DiscMakerModel_isRecord 256 = .ok (.ifCond .eq 7, 3) := by decide +kernel
theorem d_DiscMakerModel_isRecord_259 : decode b_DiscMakerModel_isRecord 259 = .ok (.iconst 1, 1) := by decide +kernel
theorem d_DiscMakerModel_isRecord_260 : decode b_DiscMakerModel_isRecord 260 = .ok (.goto 4, 3) := by decide +kernel
theorem d_DiscMakerModel_isRecord_263 : decode b_DiscMakerModel_isRecord 263 = .ok (.iconst 0, 1) := by decide +kernel
theorem d_DiscMakerModel_isRecord_264 : decode b_DiscMakerModel_isRecord 264 = .ok (.ireturn, 1) := by decide +kernel
set_option maxHeartbeats 4000000 in
set_option maxRecDepth 100000 in
theorem m_isRecord (l : Launch) (D : va_G) (cB cI cJ cZ cN cF : ClassId) (sz : Nat) (h0 : Nat) (ma : Nat → Nat) (sv_thrown sv_length sv_nodes sv_many sv_directories sv_runsFrom sv_runs sv_read sv_wrong sv_isNamed sv_goes sv_goesSize sv_goesAt sv_targetParts sv_isRoot : Int32) (F : Nat → Int64) (x : Int32) (hm0 : 0 ≤ sv_many.toInt ∧ sv_many.toInt ≤ 180) (hx0 : 0 ≤ x.toInt) (hx1 : x.toInt < 2048 * sv_many.toInt) : Met l y_DiscMakerModel_isRecord w_DiscMakerModel_isRecord ({ frames := 2, cells := 0, slots := 0, locals := 45 }) (va_Pc [.ref h0, .int x] (fun U => U.heap.size = sz ∧ va_P D CL [(h0, .inr (11, MO ma sv_thrown sv_length sv_nodes sv_many sv_directories sv_runsFrom sv_runs sv_read sv_wrong sv_isNamed sv_goes sv_goesSize sv_goesAt sv_targetParts sv_isRoot)), ((ma 16), .inl (cJ, 46080, .inr (.inl F)))] U.heap ∧ va_K D CL (TY cB cI cJ cZ cN cF) U ∧ NN U ∧ va_D (fun _ => True) [(h0, .inr (11, MO ma sv_thrown sv_length sv_nodes sv_many sv_directories sv_runsFrom sv_runs sv_read sv_wrong sv_isNamed sv_goes sv_goesSize sv_goesAt sv_targetParts sv_isRoot)), ((ma 16), .inl (cJ, 46080, .inr (.inl F)))])) (va_Qi (fun (r : Int32) (u : Int32) => match u with | wr => (0 ≤ r.toInt ∧ r.toInt ≤ 1) ∧ (r.toInt ≠ 0 → RecOK F sv_many x)) (fun (u : Int32) (t : State) => match u with | wr => va_P D CL [(h0, .inr (11, MO ma sv_thrown sv_length sv_nodes sv_many sv_directories sv_runsFrom sv_runs sv_read wr sv_isNamed sv_goes sv_goesSize sv_goesAt sv_targetParts sv_isRoot)), ((ma 16), .inl (cJ, 46080, .inr (.inl F)))] t.heap ∧ va_D (va_A [(h0, .inr (11, MO ma sv_thrown sv_length sv_nodes sv_many sv_directories sv_runsFrom sv_runs sv_read sv_wrong sv_isNamed sv_goes sv_goesSize sv_goesAt sv_targetParts sv_isRoot)), ((ma 16), .inl (cJ, 46080, .inr (.inl F)))] sz) [(h0, .inr (11, MO ma sv_thrown sv_length sv_nodes sv_many sv_directories sv_runsFrom sv_runs sv_read wr sv_isNamed sv_goes sv_goesSize sv_goesAt sv_targetParts sv_isRoot)), ((ma 16), .inl (cJ, 46080, .inr (.inl F)))]) (va_A [(h0, .inr (11, MO ma sv_thrown sv_length sv_nodes sv_many sv_directories sv_runsFrom sv_runs sv_read sv_wrong sv_isNamed sv_goes sv_goesSize sv_goesAt sv_targetParts sv_isRoot)), ((ma 16), .inl (cJ, 46080, .inr (.inl F)))] sz)) 0 0 (va_A [(h0, .inr (11, MO ma sv_thrown sv_length sv_nodes sv_many sv_directories sv_runsFrom sv_runs sv_read sv_wrong sv_isNamed sv_goes sv_goesSize sv_goesAt sv_targetParts sv_isRoot)), ((ma 16), .inl (cJ, 46080, .inr (.inl F)))] sz) := by
  refine Met.ofW (cc := b_DiscMakerModel_isRecord) (maxL := 11) (ret := some .boolean) (by decide) rfl ?_
  intro p e s m args below meth c s₁ B hml hv
  obtain ⟨rfl, hsz, hP, hK, hN, hD0⟩ := hv
  have hx := B.exec
  have hb := B.bytes
  have hr := B.returns
  have hts := atoms_spec (ws := w_DiscMakerModel_isRecord) B.pre
  have ht9 := fun (w : Cond) (h : w ∈ lw_g) => hts w (List.mem_cons_of_mem _ h)
  have hown : s.vm.findClass "DiscMakerModel" = some m.cls := findClass_of_methodNamed B.named
  have hlocks := B.notSynchronized
  subst hsz
  have hD := hD0.self (sz := s.heap.size)
  generalize hAe : va_A [(h0, .inr (11, MO ma sv_thrown sv_length sv_nodes sv_many sv_directories sv_runsFrom sv_runs sv_read sv_wrong sv_isNamed sv_goes sv_goesSize sv_goesAt sv_targetParts sv_isRoot)), ((ma 16), .inl (cJ, 46080, .inr (.inl F)))] s.heap.size = A at hD ⊢
  have hA : ∀ q : Nat, s.heap.size ≤ q → A q := fun q h => by rw [← hAe]; exact Or.inr h
  have hS : va_S A s.heap s.heap [] := va_S.rf
  have hP : va_P D CL [(h0, .inr (11, MO ma sv_thrown sv_length sv_nodes sv_many sv_directories sv_runsFrom sv_runs sv_read sv_wrong sv_isNamed sv_goes sv_goesSize sv_goesAt sv_targetParts sv_isRoot)), ((ma 16), .inl (cJ, 46080, .inr (.inl F)))] s.heap := hP
  have hl := lv_entry [.ref h0, .int x] (n := 11) (Nat.le_of_ble_eq_true rfl)
  rw [lg_entry_eq]
  generalize (lg_sl [.ref h0, .int x] ++ List.replicate (11 - (lg_sl [.ref h0, .int x]).length) Slot.unset).toArray = ls at hl ⊢
  have hl : lv_has ls 11 [(0, .ref h0), (1, .int x)] := hl
  have L_m1 : ((-1) : Int32).toInt = (-1) := by decide
  have L_0 : (0 : Int32).toInt = 0 := by decide
  have L_1 : (1 : Int32).toInt = 1 := by decide
  have L_2 : (2 : Int32).toInt = 2 := by decide
  have L_4 : (4 : Int32).toInt = 4 := by decide
  have L_10 : (10 : Int32).toInt = 10 := by decide
  have L_28 : (28 : Int32).toInt = 28 := by decide
  have L_32 : (32 : Int32).toInt = 32 := by decide
  have L_33 : (33 : Int32).toInt = 33 := by decide
  have L_34 : (34 : Int32).toInt = 34 := by decide
  have L_2048 : (2048 : Int32).toInt = 2048 := by decide
  refine lv_aload_n hx hb d_DiscMakerModel_isRecord_0 rfl (lv_at hl 0 rfl) ?_
  refine lv_iload_n hx hb d_DiscMakerModel_isRecord_1 rfl (lv_at hl 1 rfl) ?_
  have hPc := hP.sub (ws' := [(h0, .inr (11, MO ma sv_thrown sv_length sv_nodes sv_many sv_directories sv_runsFrom sv_runs sv_read sv_wrong sv_isNamed sv_goes sv_goesSize sv_goesAt sv_targetParts sv_isRoot)), ((ma 16), .inl (cJ, 46080, .inr (.inl F)))]) [0, 1] rfl
  have hDc := hD.sub (ws' := [(h0, .inr (11, MO ma sv_thrown sv_length sv_nodes sv_many sv_directories sv_runsFrom sv_runs sv_read sv_wrong sv_isNamed sv_goes sv_goesSize sv_goesAt sv_targetParts sv_isRoot)), ((ma 16), .inl (cJ, 46080, .inr (.inl F)))]) [0, 1] (by decide +kernel) rfl
  have hFc := va_free (wc := [(h0, .inr (11, MO ma sv_thrown sv_length sv_nodes sv_many sv_directories sv_runsFrom sv_runs sv_read sv_wrong sv_isNamed sv_goes sv_goesSize sv_goesAt sv_targetParts sv_isRoot)), ((ma 16), .inl (cJ, 46080, .inr (.inl F)))]) hD hS hA [0, 1] rfl
  have hkc : 0 ≤ 0 := by decide
  have hks : 0 ≤ 0 := by decide
  refine va_calli (va_runV (C := "DiscMakerModel") (As := [.int x]) (rest := []) ⟨hx, hb, hml, hown, hts⟩ (m_at l D cB cI cJ cZ cN cF s.heap.size h0 ma sv_thrown sv_length sv_nodes sv_many sv_directories sv_runsFrom sv_runs sv_read sv_wrong sv_isNamed sv_goes sv_goesSize sv_goesAt sv_targetParts sv_isRoot F x (by (try dsimp only); first | assumption | omega | trivial) (by (try dsimp only); first | assumption | omega | trivial)) (cwV 1 hts (lg_goodV k1809 k1811 k95 k125 kc_DiscMakerModel_at) rfl rfl rfl (by decide +kernel) ⟨Nat.le_of_ble_eq_true rfl, Nat.le_of_ble_eq_true rfl⟩) ⟨fun a U g mk q => by obtain ⟨q0, q1, qP, qK, qN, qD⟩ := q; exact ⟨q0, q1, qP, va_K.moved (u := U) (U := U.calling g mk a) (Vm.Alike.refl U.vm) qK, qN.calling, qD⟩, va_recv hK hP (ci := 11) (q0 := 0) rfl rfl, fun U hU hW => ⟨rfl, by rw [hU], by rw [hU]; exact hPc, va_K.moved hW.alike hK, NN.warm hW hN, hDc.weaken (fun _ _ _ _ => trivial)⟩⟩ rfl rfl hl.1 rfl (lv_room (Nat.le_of_ble_eq_true rfl)) d_DiscMakerModel_isRecord_2 ⟨hkc, hks⟩) hS (fun q _ h => hFc q h) hFc (fun r1 u t H1 locs ht hvm hp_r1 hB hz1 hk1 hS => ?_)
  obtain ⟨hP1, hD1⟩ := hB
  rw [ht] at hP1
  obtain ⟨hP, hD⟩ := va_join (wr := []) (w1 := [(h0, .inr (11, MO ma sv_thrown sv_length sv_nodes sv_many sv_directories sv_runsFrom sv_runs sv_read sv_wrong sv_isNamed sv_goes sv_goesSize sv_goesAt sv_targetParts sv_isRoot)), ((ma 16), .inl (cJ, 46080, .inr (.inl F)))]) hP hD [0, 1] [] rfl rfl (by decide +kernel) (by decide +kernel) hk1 hFc hP1 hD1
  clear hPc hDc hFc hP1 hD1 hk1 hz1 hkc hks
  generalize H1 = H at hP hS ⊢
  have hP : va_P D CL [(h0, .inr (11, MO ma sv_thrown sv_length sv_nodes sv_many sv_directories sv_runsFrom sv_runs sv_read sv_wrong sv_isNamed sv_goes sv_goesSize sv_goesAt sv_targetParts sv_isRoot)), ((ma 16), .inl (cJ, 46080, .inr (.inl F)))] H := hP
  have hD : va_D A [(h0, .inr (11, MO ma sv_thrown sv_length sv_nodes sv_many sv_directories sv_runsFrom sv_runs sv_read sv_wrong sv_isNamed sv_goes sv_goesSize sv_goesAt sv_targetParts sv_isRoot)), ((ma 16), .inl (cJ, 46080, .inr (.inl F)))] := hD
  try dsimp only at hp_r1
  obtain ⟨hr_2, hv_3, hw_4⟩ := hp_r1
  refine lv_istore_n hx hb d_DiscMakerModel_isRecord_5 rfl hl (by decide) rfl (fun ls hl => ?_)
  have hl : lv_has ls 11 [(2, .int r1), (0, .ref h0), (1, .int x)] := hl
  refine lv_sipush (v := 2048) hx hb d_DiscMakerModel_isRecord_6 (by decide) ?_
  refine lv_iload_n hx hb d_DiscMakerModel_isRecord_9 rfl (lv_at hl 2 rfl) ?_
  refine lv_sipush (v := 2048) hx hb d_DiscMakerModel_isRecord_10 (by decide) ?_
  refine lv_irem hx hb d_DiscMakerModel_isRecord_13 (by decide) ?_
  refine lv_topi (fun v5 e_v5 => ?_)
  have t_v5 : v5.toInt = x.toInt % 2048 := by rw [e_v5]; exact i_rem rfl (by decide) (by omega) (by omega)
  refine lv_isub hx hb d_DiscMakerModel_isRecord_14 ?_
  refine lv_topi (fun v6 e_v6 => ?_)
  have t_v6 : v6.toInt = 2048 - v5.toInt := by rw [e_v6]; exact i_sub (by decide) rfl (by omega) (by omega)
  refine lv_istore_n hx hb d_DiscMakerModel_isRecord_15 rfl hl (by decide) rfl (fun ls hl => ?_)
  have hl : lv_has ls 11 [(3, .int v6), (2, .int r1), (0, .ref h0), (1, .int x)] := hl
  refine lv_iload_n hx hb d_DiscMakerModel_isRecord_16 rfl (lv_at hl 1 rfl) ?_
  refine lv_bipush (v := 34) hx hb d_DiscMakerModel_isRecord_17 (by decide) ?_
  refine lv_icmp_lt (tgt := 92) hx hb d_DiscMakerModel_isRecord_19 (by decide) (fun h_9 => ?_) (fun h_9 => ?_)
  · skip
    have g19_13 : r1.toInt < 34 := (i_lt rfl (by decide)).mp h_9
    refine lv_iconst (v := 0) hx hb d_DiscMakerModel_isRecord_92 (by decide) ?_
    refine lv_istore hx hb d_DiscMakerModel_isRecord_93 hl (by decide) rfl (fun ls hl => ?_)
    have hl : lv_has ls 11 [(4, .int 0), (3, .int v6), (2, .int r1), (0, .ref h0), (1, .int x)] := hl
    refine lv_iload hx hb d_DiscMakerModel_isRecord_95 (lv_at hl 0 rfl) ?_
    refine lv_if_ne (tgt := 106) hx hb d_DiscMakerModel_isRecord_97 (by decide) (fun h_9 => absurd (by decide) h_9) (fun _ => ?_)
    refine lv_aload_n hx hb d_DiscMakerModel_isRecord_100 rfl (lv_at hl 3 rfl) ?_
    refine lv_iload_n hx hb d_DiscMakerModel_isRecord_101 rfl (lv_at hl 4 rfl) ?_
    have hPc := hP.sub (ws' := [(h0, .inr (11, MO ma sv_thrown sv_length sv_nodes sv_many sv_directories sv_runsFrom sv_runs sv_read sv_wrong sv_isNamed sv_goes sv_goesSize sv_goesAt sv_targetParts sv_isRoot))]) [0] rfl
    have hDc := hD.sub (ws' := [(h0, .inr (11, MO ma sv_thrown sv_length sv_nodes sv_many sv_directories sv_runsFrom sv_runs sv_read sv_wrong sv_isNamed sv_goes sv_goesSize sv_goesAt sv_targetParts sv_isRoot))]) [0] (by decide +kernel) rfl
    have hFc := va_free (wc := [(h0, .inr (11, MO ma sv_thrown sv_length sv_nodes sv_many sv_directories sv_runsFrom sv_runs sv_read sv_wrong sv_isNamed sv_goes sv_goesSize sv_goesAt sv_targetParts sv_isRoot))]) hD hS hA [0] rfl
    have hkc : 0 ≤ 0 := by decide
    have hks : 0 ≤ 0 := by decide
    refine va_calli (va_runV (C := "DiscMakerModel") (As := [.int x]) (rest := []) ⟨hx, hb, hml, hown, hts⟩ (m_isWrong l D cB cI cJ cZ cN cF H.size h0 ma sv_thrown sv_length sv_nodes sv_many sv_directories sv_runsFrom sv_runs sv_read sv_wrong sv_isNamed sv_goes sv_goesSize sv_goesAt sv_targetParts sv_isRoot x) (cwV 1 hts (lg_goodV k1833 k1835 k98 k125 kc_DiscMakerModel_isWrong) rfl rfl rfl (by decide +kernel) ⟨Nat.le_of_ble_eq_true rfl, Nat.le_of_ble_eq_true rfl⟩) ⟨fun a U g mk q => by obtain ⟨q0, q1, qP, qK, qN, qD⟩ := q; exact ⟨q0, q1, qP, va_K.moved (u := U) (U := U.calling g mk a) (Vm.Alike.refl U.vm) qK, qN.calling, qD⟩, va_recv hK hP (ci := 11) (q0 := 0) rfl rfl, fun U hU hW => ⟨rfl, by rw [hU], by rw [hU]; exact hPc, va_K.moved hW.alike hK, NN.warm hW hN, hDc.weaken (fun _ _ _ _ => trivial)⟩⟩ rfl rfl hl.1 rfl (lv_room (Nat.le_of_ble_eq_true rfl)) d_DiscMakerModel_isRecord_102 ⟨hkc, hks⟩) hS (fun q _ h => hFc q h) hFc (fun r7 u t H1 locs ht hvm hp_r7 hB hz1 hk1 hS => ?_)
    obtain ⟨wr_8, rfl⟩ : ∃ z, z = u := ⟨_, rfl⟩
    obtain ⟨hP1, hD1⟩ := hB
    rw [ht] at hP1
    obtain ⟨hP, hD⟩ := va_join (wr := [((ma 16), .inl (cJ, 46080, .inr (.inl F)))]) (w1 := [(h0, .inr (11, MO ma sv_thrown sv_length sv_nodes sv_many sv_directories sv_runsFrom sv_runs sv_read wr_8 sv_isNamed sv_goes sv_goesSize sv_goesAt sv_targetParts sv_isRoot))]) hP hD [0] [1] rfl rfl (by decide +kernel) (by decide +kernel) hk1 hFc hP1 hD1
    clear hPc hDc hFc hP1 hD1 hk1 hz1 hkc hks
    generalize H1 = H at hP hS ⊢
    have hP : va_P D CL [((ma 16), .inl (cJ, 46080, .inr (.inl F))), (h0, .inr (11, MO ma sv_thrown sv_length sv_nodes sv_many sv_directories sv_runsFrom sv_runs sv_read wr_8 sv_isNamed sv_goes sv_goesSize sv_goesAt sv_targetParts sv_isRoot))] H := hP
    have hD : va_D A [((ma 16), .inl (cJ, 46080, .inr (.inl F))), (h0, .inr (11, MO ma sv_thrown sv_length sv_nodes sv_many sv_directories sv_runsFrom sv_runs sv_read wr_8 sv_isNamed sv_goes sv_goesSize sv_goesAt sv_targetParts sv_isRoot))] := hD
    try dsimp only at hp_r7
    have hr_9 := hp_r7
    have hP9 := hP.sub (ws' := [(h0, .inr (11, MO ma sv_thrown sv_length sv_nodes sv_many sv_directories sv_runsFrom sv_runs sv_read wr_8 sv_isNamed sv_goes sv_goesSize sv_goesAt sv_targetParts sv_isRoot)), ((ma 16), .inl (cJ, 46080, .inr (.inl F)))]) [1, 0] rfl
    have hD9 := hD.sub (ws' := [(h0, .inr (11, MO ma sv_thrown sv_length sv_nodes sv_many sv_directories sv_runsFrom sv_runs sv_read wr_8 sv_isNamed sv_goes sv_goesSize sv_goesAt sv_targetParts sv_isRoot)), ((ma 16), .inl (cJ, 46080, .inr (.inl F)))]) [1, 0] (by decide +kernel) rfl
    exact W.zret (v := r7) hx hb hr (by first | rfl | decide | exact i_narZ (by omega)) (fun t ht hW => ⟨⟨r7, wr_8, rfl, ⟨(by (try dsimp only); first | assumption | omega | trivial), (by (try dsimp only); intro h7; first | (exfalso; omega) | (subst_vars; unfold RecOK; omega))⟩, by rw [ht]; exact hP9, hD9⟩, hS.F ht⟩) hS.2.2 d_DiscMakerModel_isRecord_105
  · skip
    have g19_13 : ¬ r1.toInt < 34 := fun h8 => h_9 ((i_lt rfl (by decide)).mpr h8)
    refine lv_iload_n hx hb d_DiscMakerModel_isRecord_22 rfl (lv_at hl 1 rfl) ?_
    refine lv_iload_n hx hb d_DiscMakerModel_isRecord_23 rfl (lv_at hl 0 rfl) ?_
    refine lv_icmp_gt (tgt := 92) hx hb d_DiscMakerModel_isRecord_24 (by decide) (fun h_9 => ?_) (fun h_9 => ?_)
    · skip
      have g24_24 : v6.toInt < r1.toInt := (i_lt rfl rfl).mp h_9
      refine lv_iconst (v := 0) hx hb d_DiscMakerModel_isRecord_92 (by decide) ?_
      refine lv_istore hx hb d_DiscMakerModel_isRecord_93 hl (by decide) rfl (fun ls hl => ?_)
      have hl : lv_has ls 11 [(4, .int 0), (3, .int v6), (2, .int r1), (0, .ref h0), (1, .int x)] := hl
      refine lv_iload hx hb d_DiscMakerModel_isRecord_95 (lv_at hl 0 rfl) ?_
      refine lv_if_ne (tgt := 106) hx hb d_DiscMakerModel_isRecord_97 (by decide) (fun h_9 => absurd (by decide) h_9) (fun _ => ?_)
      refine lv_aload_n hx hb d_DiscMakerModel_isRecord_100 rfl (lv_at hl 3 rfl) ?_
      refine lv_iload_n hx hb d_DiscMakerModel_isRecord_101 rfl (lv_at hl 4 rfl) ?_
      have hPc := hP.sub (ws' := [(h0, .inr (11, MO ma sv_thrown sv_length sv_nodes sv_many sv_directories sv_runsFrom sv_runs sv_read sv_wrong sv_isNamed sv_goes sv_goesSize sv_goesAt sv_targetParts sv_isRoot))]) [0] rfl
      have hDc := hD.sub (ws' := [(h0, .inr (11, MO ma sv_thrown sv_length sv_nodes sv_many sv_directories sv_runsFrom sv_runs sv_read sv_wrong sv_isNamed sv_goes sv_goesSize sv_goesAt sv_targetParts sv_isRoot))]) [0] (by decide +kernel) rfl
      have hFc := va_free (wc := [(h0, .inr (11, MO ma sv_thrown sv_length sv_nodes sv_many sv_directories sv_runsFrom sv_runs sv_read sv_wrong sv_isNamed sv_goes sv_goesSize sv_goesAt sv_targetParts sv_isRoot))]) hD hS hA [0] rfl
      have hkc : 0 ≤ 0 := by decide
      have hks : 0 ≤ 0 := by decide
      refine va_calli (va_runV (C := "DiscMakerModel") (As := [.int x]) (rest := []) ⟨hx, hb, hml, hown, hts⟩ (m_isWrong l D cB cI cJ cZ cN cF H.size h0 ma sv_thrown sv_length sv_nodes sv_many sv_directories sv_runsFrom sv_runs sv_read sv_wrong sv_isNamed sv_goes sv_goesSize sv_goesAt sv_targetParts sv_isRoot x) (cwV 1 hts (lg_goodV k1833 k1835 k98 k125 kc_DiscMakerModel_isWrong) rfl rfl rfl (by decide +kernel) ⟨Nat.le_of_ble_eq_true rfl, Nat.le_of_ble_eq_true rfl⟩) ⟨fun a U g mk q => by obtain ⟨q0, q1, qP, qK, qN, qD⟩ := q; exact ⟨q0, q1, qP, va_K.moved (u := U) (U := U.calling g mk a) (Vm.Alike.refl U.vm) qK, qN.calling, qD⟩, va_recv hK hP (ci := 11) (q0 := 0) rfl rfl, fun U hU hW => ⟨rfl, by rw [hU], by rw [hU]; exact hPc, va_K.moved hW.alike hK, NN.warm hW hN, hDc.weaken (fun _ _ _ _ => trivial)⟩⟩ rfl rfl hl.1 rfl (lv_room (Nat.le_of_ble_eq_true rfl)) d_DiscMakerModel_isRecord_102 ⟨hkc, hks⟩) hS (fun q _ h => hFc q h) hFc (fun r10 u t H1 locs ht hvm hp_r10 hB hz1 hk1 hS => ?_)
      obtain ⟨wr_11, rfl⟩ : ∃ z, z = u := ⟨_, rfl⟩
      obtain ⟨hP1, hD1⟩ := hB
      rw [ht] at hP1
      obtain ⟨hP, hD⟩ := va_join (wr := [((ma 16), .inl (cJ, 46080, .inr (.inl F)))]) (w1 := [(h0, .inr (11, MO ma sv_thrown sv_length sv_nodes sv_many sv_directories sv_runsFrom sv_runs sv_read wr_11 sv_isNamed sv_goes sv_goesSize sv_goesAt sv_targetParts sv_isRoot))]) hP hD [0] [1] rfl rfl (by decide +kernel) (by decide +kernel) hk1 hFc hP1 hD1
      clear hPc hDc hFc hP1 hD1 hk1 hz1 hkc hks
      generalize H1 = H at hP hS ⊢
      have hP : va_P D CL [((ma 16), .inl (cJ, 46080, .inr (.inl F))), (h0, .inr (11, MO ma sv_thrown sv_length sv_nodes sv_many sv_directories sv_runsFrom sv_runs sv_read wr_11 sv_isNamed sv_goes sv_goesSize sv_goesAt sv_targetParts sv_isRoot))] H := hP
      have hD : va_D A [((ma 16), .inl (cJ, 46080, .inr (.inl F))), (h0, .inr (11, MO ma sv_thrown sv_length sv_nodes sv_many sv_directories sv_runsFrom sv_runs sv_read wr_11 sv_isNamed sv_goes sv_goesSize sv_goesAt sv_targetParts sv_isRoot))] := hD
      try dsimp only at hp_r10
      have hr_12 := hp_r10
      have hP9 := hP.sub (ws' := [(h0, .inr (11, MO ma sv_thrown sv_length sv_nodes sv_many sv_directories sv_runsFrom sv_runs sv_read wr_11 sv_isNamed sv_goes sv_goesSize sv_goesAt sv_targetParts sv_isRoot)), ((ma 16), .inl (cJ, 46080, .inr (.inl F)))]) [1, 0] rfl
      have hD9 := hD.sub (ws' := [(h0, .inr (11, MO ma sv_thrown sv_length sv_nodes sv_many sv_directories sv_runsFrom sv_runs sv_read wr_11 sv_isNamed sv_goes sv_goesSize sv_goesAt sv_targetParts sv_isRoot)), ((ma 16), .inl (cJ, 46080, .inr (.inl F)))]) [1, 0] (by decide +kernel) rfl
      exact W.zret (v := r10) hx hb hr (by first | rfl | decide | exact i_narZ (by omega)) (fun t ht hW => ⟨⟨r10, wr_11, rfl, ⟨(by (try dsimp only); first | assumption | omega | trivial), (by (try dsimp only); intro h7; first | (exfalso; omega) | (subst_vars; unfold RecOK; omega))⟩, by rw [ht]; exact hP9, hD9⟩, hS.F ht⟩) hS.2.2 d_DiscMakerModel_isRecord_105
    · skip
      have g24_24 : ¬ v6.toInt < r1.toInt := fun h8 => h_9 ((i_lt rfl rfl).mpr h8)
      refine lv_iload_n hx hb d_DiscMakerModel_isRecord_27 rfl (lv_at hl 1 rfl) ?_
      refine lv_bipush (v := 33) hx hb d_DiscMakerModel_isRecord_28 (by decide) ?_
      refine lv_aload_n hx hb d_DiscMakerModel_isRecord_30 rfl (lv_at hl 2 rfl) ?_
      refine lv_iload_n hx hb d_DiscMakerModel_isRecord_31 rfl (lv_at hl 3 rfl) ?_
      refine lv_bipush (v := 32) hx hb d_DiscMakerModel_isRecord_32 (by decide) ?_
      refine lv_iadd hx hb d_DiscMakerModel_isRecord_34 ?_
      refine lv_topi (fun v13 e_v13 => ?_)
      have t_v13 : v13.toInt = x.toInt + 32 := by rw [e_v13]; exact i_add rfl (by decide) (by omega) (by omega)
      have hPc := hP.sub (ws' := [(h0, .inr (11, MO ma sv_thrown sv_length sv_nodes sv_many sv_directories sv_runsFrom sv_runs sv_read sv_wrong sv_isNamed sv_goes sv_goesSize sv_goesAt sv_targetParts sv_isRoot)), ((ma 16), .inl (cJ, 46080, .inr (.inl F)))]) [0, 1] rfl
      have hDc := hD.sub (ws' := [(h0, .inr (11, MO ma sv_thrown sv_length sv_nodes sv_many sv_directories sv_runsFrom sv_runs sv_read sv_wrong sv_isNamed sv_goes sv_goesSize sv_goesAt sv_targetParts sv_isRoot)), ((ma 16), .inl (cJ, 46080, .inr (.inl F)))]) [0, 1] (by decide +kernel) rfl
      have hFc := va_free (wc := [(h0, .inr (11, MO ma sv_thrown sv_length sv_nodes sv_many sv_directories sv_runsFrom sv_runs sv_read sv_wrong sv_isNamed sv_goes sv_goesSize sv_goesAt sv_targetParts sv_isRoot)), ((ma 16), .inl (cJ, 46080, .inr (.inl F)))]) hD hS hA [0, 1] rfl
      have hkc : 0 ≤ 0 := by decide
      have hks : 0 ≤ 0 := by decide
      refine va_calli (va_runV (C := "DiscMakerModel") (As := [.int v13]) (rest := [.int 33, .int r1]) ⟨hx, hb, hml, hown, hts⟩ (m_at l D cB cI cJ cZ cN cF H.size h0 ma sv_thrown sv_length sv_nodes sv_many sv_directories sv_runsFrom sv_runs sv_read sv_wrong sv_isNamed sv_goes sv_goesSize sv_goesAt sv_targetParts sv_isRoot F v13 (by (try dsimp only); first | assumption | omega | trivial) (by (try dsimp only); first | assumption | omega | trivial)) (cwV 1 hts (lg_goodV k1809 k1811 k95 k125 kc_DiscMakerModel_at) rfl rfl rfl (by decide +kernel) ⟨Nat.le_of_ble_eq_true rfl, Nat.le_of_ble_eq_true rfl⟩) ⟨fun a U g mk q => by obtain ⟨q0, q1, qP, qK, qN, qD⟩ := q; exact ⟨q0, q1, qP, va_K.moved (u := U) (U := U.calling g mk a) (Vm.Alike.refl U.vm) qK, qN.calling, qD⟩, va_recv hK hP (ci := 11) (q0 := 0) rfl rfl, fun U hU hW => ⟨rfl, by rw [hU], by rw [hU]; exact hPc, va_K.moved hW.alike hK, NN.warm hW hN, hDc.weaken (fun _ _ _ _ => trivial)⟩⟩ rfl rfl hl.1 rfl (lv_room (Nat.le_of_ble_eq_true rfl)) d_DiscMakerModel_isRecord_35 ⟨hkc, hks⟩) hS (fun q _ h => hFc q h) hFc (fun r14 u t H1 locs ht hvm hp_r14 hB hz1 hk1 hS => ?_)
      obtain ⟨hP1, hD1⟩ := hB
      rw [ht] at hP1
      obtain ⟨hP, hD⟩ := va_join (wr := []) (w1 := [(h0, .inr (11, MO ma sv_thrown sv_length sv_nodes sv_many sv_directories sv_runsFrom sv_runs sv_read sv_wrong sv_isNamed sv_goes sv_goesSize sv_goesAt sv_targetParts sv_isRoot)), ((ma 16), .inl (cJ, 46080, .inr (.inl F)))]) hP hD [0, 1] [] rfl rfl (by decide +kernel) (by decide +kernel) hk1 hFc hP1 hD1
      clear hPc hDc hFc hP1 hD1 hk1 hz1 hkc hks
      generalize H1 = H at hP hS ⊢
      have hP : va_P D CL [(h0, .inr (11, MO ma sv_thrown sv_length sv_nodes sv_many sv_directories sv_runsFrom sv_runs sv_read sv_wrong sv_isNamed sv_goes sv_goesSize sv_goesAt sv_targetParts sv_isRoot)), ((ma 16), .inl (cJ, 46080, .inr (.inl F)))] H := hP
      have hD : va_D A [(h0, .inr (11, MO ma sv_thrown sv_length sv_nodes sv_many sv_directories sv_runsFrom sv_runs sv_read sv_wrong sv_isNamed sv_goes sv_goesSize sv_goesAt sv_targetParts sv_isRoot)), ((ma 16), .inl (cJ, 46080, .inr (.inl F)))] := hD
      try dsimp only at hp_r14
      obtain ⟨hr_15, hv_16, hw_17⟩ := hp_r14
      refine lv_iadd hx hb d_DiscMakerModel_isRecord_38 ?_
      refine lv_topi (fun v18 e_v18 => ?_)
      have t_v18 : v18.toInt = 33 + r14.toInt := by rw [e_v18]; exact i_add (by decide) rfl (by omega) (by omega)
      refine lv_icmp_lt (tgt := 92) hx hb d_DiscMakerModel_isRecord_39 (by decide) (fun h_9 => ?_) (fun h_9 => ?_)
      · skip
        have g39_41 : r1.toInt < v18.toInt := (i_lt rfl rfl).mp h_9
        refine lv_iconst (v := 0) hx hb d_DiscMakerModel_isRecord_92 (by decide) ?_
        refine lv_istore hx hb d_DiscMakerModel_isRecord_93 hl (by decide) rfl (fun ls hl => ?_)
        have hl : lv_has ls 11 [(4, .int 0), (3, .int v6), (2, .int r1), (0, .ref h0), (1, .int x)] := hl
        refine lv_iload hx hb d_DiscMakerModel_isRecord_95 (lv_at hl 0 rfl) ?_
        refine lv_if_ne (tgt := 106) hx hb d_DiscMakerModel_isRecord_97 (by decide) (fun h_9 => absurd (by decide) h_9) (fun _ => ?_)
        refine lv_aload_n hx hb d_DiscMakerModel_isRecord_100 rfl (lv_at hl 3 rfl) ?_
        refine lv_iload_n hx hb d_DiscMakerModel_isRecord_101 rfl (lv_at hl 4 rfl) ?_
        have hPc := hP.sub (ws' := [(h0, .inr (11, MO ma sv_thrown sv_length sv_nodes sv_many sv_directories sv_runsFrom sv_runs sv_read sv_wrong sv_isNamed sv_goes sv_goesSize sv_goesAt sv_targetParts sv_isRoot))]) [0] rfl
        have hDc := hD.sub (ws' := [(h0, .inr (11, MO ma sv_thrown sv_length sv_nodes sv_many sv_directories sv_runsFrom sv_runs sv_read sv_wrong sv_isNamed sv_goes sv_goesSize sv_goesAt sv_targetParts sv_isRoot))]) [0] (by decide +kernel) rfl
        have hFc := va_free (wc := [(h0, .inr (11, MO ma sv_thrown sv_length sv_nodes sv_many sv_directories sv_runsFrom sv_runs sv_read sv_wrong sv_isNamed sv_goes sv_goesSize sv_goesAt sv_targetParts sv_isRoot))]) hD hS hA [0] rfl
        have hkc : 0 ≤ 0 := by decide
        have hks : 0 ≤ 0 := by decide
        refine va_calli (va_runV (C := "DiscMakerModel") (As := [.int x]) (rest := []) ⟨hx, hb, hml, hown, hts⟩ (m_isWrong l D cB cI cJ cZ cN cF H.size h0 ma sv_thrown sv_length sv_nodes sv_many sv_directories sv_runsFrom sv_runs sv_read sv_wrong sv_isNamed sv_goes sv_goesSize sv_goesAt sv_targetParts sv_isRoot x) (cwV 1 hts (lg_goodV k1833 k1835 k98 k125 kc_DiscMakerModel_isWrong) rfl rfl rfl (by decide +kernel) ⟨Nat.le_of_ble_eq_true rfl, Nat.le_of_ble_eq_true rfl⟩) ⟨fun a U g mk q => by obtain ⟨q0, q1, qP, qK, qN, qD⟩ := q; exact ⟨q0, q1, qP, va_K.moved (u := U) (U := U.calling g mk a) (Vm.Alike.refl U.vm) qK, qN.calling, qD⟩, va_recv hK hP (ci := 11) (q0 := 0) rfl rfl, fun U hU hW => ⟨rfl, by rw [hU], by rw [hU]; exact hPc, va_K.moved hW.alike hK, NN.warm hW hN, hDc.weaken (fun _ _ _ _ => trivial)⟩⟩ rfl rfl hl.1 rfl (lv_room (Nat.le_of_ble_eq_true rfl)) d_DiscMakerModel_isRecord_102 ⟨hkc, hks⟩) hS (fun q _ h => hFc q h) hFc (fun r19 u t H1 locs ht hvm hp_r19 hB hz1 hk1 hS => ?_)
        obtain ⟨wr_20, rfl⟩ : ∃ z, z = u := ⟨_, rfl⟩
        obtain ⟨hP1, hD1⟩ := hB
        rw [ht] at hP1
        obtain ⟨hP, hD⟩ := va_join (wr := [((ma 16), .inl (cJ, 46080, .inr (.inl F)))]) (w1 := [(h0, .inr (11, MO ma sv_thrown sv_length sv_nodes sv_many sv_directories sv_runsFrom sv_runs sv_read wr_20 sv_isNamed sv_goes sv_goesSize sv_goesAt sv_targetParts sv_isRoot))]) hP hD [0] [1] rfl rfl (by decide +kernel) (by decide +kernel) hk1 hFc hP1 hD1
        clear hPc hDc hFc hP1 hD1 hk1 hz1 hkc hks
        generalize H1 = H at hP hS ⊢
        have hP : va_P D CL [((ma 16), .inl (cJ, 46080, .inr (.inl F))), (h0, .inr (11, MO ma sv_thrown sv_length sv_nodes sv_many sv_directories sv_runsFrom sv_runs sv_read wr_20 sv_isNamed sv_goes sv_goesSize sv_goesAt sv_targetParts sv_isRoot))] H := hP
        have hD : va_D A [((ma 16), .inl (cJ, 46080, .inr (.inl F))), (h0, .inr (11, MO ma sv_thrown sv_length sv_nodes sv_many sv_directories sv_runsFrom sv_runs sv_read wr_20 sv_isNamed sv_goes sv_goesSize sv_goesAt sv_targetParts sv_isRoot))] := hD
        try dsimp only at hp_r19
        have hr_21 := hp_r19
        have hP9 := hP.sub (ws' := [(h0, .inr (11, MO ma sv_thrown sv_length sv_nodes sv_many sv_directories sv_runsFrom sv_runs sv_read wr_20 sv_isNamed sv_goes sv_goesSize sv_goesAt sv_targetParts sv_isRoot)), ((ma 16), .inl (cJ, 46080, .inr (.inl F)))]) [1, 0] rfl
        have hD9 := hD.sub (ws' := [(h0, .inr (11, MO ma sv_thrown sv_length sv_nodes sv_many sv_directories sv_runsFrom sv_runs sv_read wr_20 sv_isNamed sv_goes sv_goesSize sv_goesAt sv_targetParts sv_isRoot)), ((ma 16), .inl (cJ, 46080, .inr (.inl F)))]) [1, 0] (by decide +kernel) rfl
        exact W.zret (v := r19) hx hb hr (by first | rfl | decide | exact i_narZ (by omega)) (fun t ht hW => ⟨⟨r19, wr_20, rfl, ⟨(by (try dsimp only); first | assumption | omega | trivial), (by (try dsimp only); intro h7; first | (exfalso; omega) | (subst_vars; unfold RecOK; omega))⟩, by rw [ht]; exact hP9, hD9⟩, hS.F ht⟩) hS.2.2 d_DiscMakerModel_isRecord_105
      · skip
        have g39_41 : ¬ r1.toInt < v18.toInt := fun h8 => h_9 ((i_lt rfl rfl).mpr h8)
        refine lv_aload_n hx hb d_DiscMakerModel_isRecord_42 rfl (lv_at hl 2 rfl) ?_
        refine lv_iload_n hx hb d_DiscMakerModel_isRecord_43 rfl (lv_at hl 3 rfl) ?_
        refine lv_bipush (v := 32) hx hb d_DiscMakerModel_isRecord_44 (by decide) ?_
        refine lv_iadd hx hb d_DiscMakerModel_isRecord_46 ?_
        refine lv_topi (fun v22 e_v22 => ?_)
        have t_v22 : v22.toInt = x.toInt + 32 := by rw [e_v22]; exact i_add rfl (by decide) (by omega) (by omega)
        have hPc := hP.sub (ws' := [(h0, .inr (11, MO ma sv_thrown sv_length sv_nodes sv_many sv_directories sv_runsFrom sv_runs sv_read sv_wrong sv_isNamed sv_goes sv_goesSize sv_goesAt sv_targetParts sv_isRoot)), ((ma 16), .inl (cJ, 46080, .inr (.inl F)))]) [0, 1] rfl
        have hDc := hD.sub (ws' := [(h0, .inr (11, MO ma sv_thrown sv_length sv_nodes sv_many sv_directories sv_runsFrom sv_runs sv_read sv_wrong sv_isNamed sv_goes sv_goesSize sv_goesAt sv_targetParts sv_isRoot)), ((ma 16), .inl (cJ, 46080, .inr (.inl F)))]) [0, 1] (by decide +kernel) rfl
        have hFc := va_free (wc := [(h0, .inr (11, MO ma sv_thrown sv_length sv_nodes sv_many sv_directories sv_runsFrom sv_runs sv_read sv_wrong sv_isNamed sv_goes sv_goesSize sv_goesAt sv_targetParts sv_isRoot)), ((ma 16), .inl (cJ, 46080, .inr (.inl F)))]) hD hS hA [0, 1] rfl
        have hkc : 0 ≤ 0 := by decide
        have hks : 0 ≤ 0 := by decide
        refine va_calli (va_runV (C := "DiscMakerModel") (As := [.int v22]) (rest := []) ⟨hx, hb, hml, hown, hts⟩ (m_at l D cB cI cJ cZ cN cF H.size h0 ma sv_thrown sv_length sv_nodes sv_many sv_directories sv_runsFrom sv_runs sv_read sv_wrong sv_isNamed sv_goes sv_goesSize sv_goesAt sv_targetParts sv_isRoot F v22 (by (try dsimp only); first | assumption | omega | trivial) (by (try dsimp only); first | assumption | omega | trivial)) (cwV 1 hts (lg_goodV k1809 k1811 k95 k125 kc_DiscMakerModel_at) rfl rfl rfl (by decide +kernel) ⟨Nat.le_of_ble_eq_true rfl, Nat.le_of_ble_eq_true rfl⟩) ⟨fun a U g mk q => by obtain ⟨q0, q1, qP, qK, qN, qD⟩ := q; exact ⟨q0, q1, qP, va_K.moved (u := U) (U := U.calling g mk a) (Vm.Alike.refl U.vm) qK, qN.calling, qD⟩, va_recv hK hP (ci := 11) (q0 := 0) rfl rfl, fun U hU hW => ⟨rfl, by rw [hU], by rw [hU]; exact hPc, va_K.moved hW.alike hK, NN.warm hW hN, hDc.weaken (fun _ _ _ _ => trivial)⟩⟩ rfl rfl hl.1 rfl (lv_room (Nat.le_of_ble_eq_true rfl)) d_DiscMakerModel_isRecord_47 ⟨hkc, hks⟩) hS (fun q _ h => hFc q h) hFc (fun r23 u t H1 locs ht hvm hp_r23 hB hz1 hk1 hS => ?_)
        obtain ⟨hP1, hD1⟩ := hB
        rw [ht] at hP1
        obtain ⟨hP, hD⟩ := va_join (wr := []) (w1 := [(h0, .inr (11, MO ma sv_thrown sv_length sv_nodes sv_many sv_directories sv_runsFrom sv_runs sv_read sv_wrong sv_isNamed sv_goes sv_goesSize sv_goesAt sv_targetParts sv_isRoot)), ((ma 16), .inl (cJ, 46080, .inr (.inl F)))]) hP hD [0, 1] [] rfl rfl (by decide +kernel) (by decide +kernel) hk1 hFc hP1 hD1
        clear hPc hDc hFc hP1 hD1 hk1 hz1 hkc hks
        generalize H1 = H at hP hS ⊢
        have hP : va_P D CL [(h0, .inr (11, MO ma sv_thrown sv_length sv_nodes sv_many sv_directories sv_runsFrom sv_runs sv_read sv_wrong sv_isNamed sv_goes sv_goesSize sv_goesAt sv_targetParts sv_isRoot)), ((ma 16), .inl (cJ, 46080, .inr (.inl F)))] H := hP
        have hD : va_D A [(h0, .inr (11, MO ma sv_thrown sv_length sv_nodes sv_many sv_directories sv_runsFrom sv_runs sv_read sv_wrong sv_isNamed sv_goes sv_goesSize sv_goesAt sv_targetParts sv_isRoot)), ((ma 16), .inl (cJ, 46080, .inr (.inl F)))] := hD
        try dsimp only at hp_r23
        obtain ⟨hr_24, hv_25, hw_26⟩ := hp_r23
        refine lv_if_le (tgt := 92) hx hb d_DiscMakerModel_isRecord_50 (by decide) (fun h_9 => ?_) (fun h_9 => ?_)
        · skip
          have g50_55 : r23.toInt ≤ 0 := (i_le rfl (by decide)).mp h_9
          refine lv_iconst (v := 0) hx hb d_DiscMakerModel_isRecord_92 (by decide) ?_
          refine lv_istore hx hb d_DiscMakerModel_isRecord_93 hl (by decide) rfl (fun ls hl => ?_)
          have hl : lv_has ls 11 [(4, .int 0), (3, .int v6), (2, .int r1), (0, .ref h0), (1, .int x)] := hl
          refine lv_iload hx hb d_DiscMakerModel_isRecord_95 (lv_at hl 0 rfl) ?_
          refine lv_if_ne (tgt := 106) hx hb d_DiscMakerModel_isRecord_97 (by decide) (fun h_9 => absurd (by decide) h_9) (fun _ => ?_)
          refine lv_aload_n hx hb d_DiscMakerModel_isRecord_100 rfl (lv_at hl 3 rfl) ?_
          refine lv_iload_n hx hb d_DiscMakerModel_isRecord_101 rfl (lv_at hl 4 rfl) ?_
          have hPc := hP.sub (ws' := [(h0, .inr (11, MO ma sv_thrown sv_length sv_nodes sv_many sv_directories sv_runsFrom sv_runs sv_read sv_wrong sv_isNamed sv_goes sv_goesSize sv_goesAt sv_targetParts sv_isRoot))]) [0] rfl
          have hDc := hD.sub (ws' := [(h0, .inr (11, MO ma sv_thrown sv_length sv_nodes sv_many sv_directories sv_runsFrom sv_runs sv_read sv_wrong sv_isNamed sv_goes sv_goesSize sv_goesAt sv_targetParts sv_isRoot))]) [0] (by decide +kernel) rfl
          have hFc := va_free (wc := [(h0, .inr (11, MO ma sv_thrown sv_length sv_nodes sv_many sv_directories sv_runsFrom sv_runs sv_read sv_wrong sv_isNamed sv_goes sv_goesSize sv_goesAt sv_targetParts sv_isRoot))]) hD hS hA [0] rfl
          have hkc : 0 ≤ 0 := by decide
          have hks : 0 ≤ 0 := by decide
          refine va_calli (va_runV (C := "DiscMakerModel") (As := [.int x]) (rest := []) ⟨hx, hb, hml, hown, hts⟩ (m_isWrong l D cB cI cJ cZ cN cF H.size h0 ma sv_thrown sv_length sv_nodes sv_many sv_directories sv_runsFrom sv_runs sv_read sv_wrong sv_isNamed sv_goes sv_goesSize sv_goesAt sv_targetParts sv_isRoot x) (cwV 1 hts (lg_goodV k1833 k1835 k98 k125 kc_DiscMakerModel_isWrong) rfl rfl rfl (by decide +kernel) ⟨Nat.le_of_ble_eq_true rfl, Nat.le_of_ble_eq_true rfl⟩) ⟨fun a U g mk q => by obtain ⟨q0, q1, qP, qK, qN, qD⟩ := q; exact ⟨q0, q1, qP, va_K.moved (u := U) (U := U.calling g mk a) (Vm.Alike.refl U.vm) qK, qN.calling, qD⟩, va_recv hK hP (ci := 11) (q0 := 0) rfl rfl, fun U hU hW => ⟨rfl, by rw [hU], by rw [hU]; exact hPc, va_K.moved hW.alike hK, NN.warm hW hN, hDc.weaken (fun _ _ _ _ => trivial)⟩⟩ rfl rfl hl.1 rfl (lv_room (Nat.le_of_ble_eq_true rfl)) d_DiscMakerModel_isRecord_102 ⟨hkc, hks⟩) hS (fun q _ h => hFc q h) hFc (fun r27 u t H1 locs ht hvm hp_r27 hB hz1 hk1 hS => ?_)
          obtain ⟨wr_28, rfl⟩ : ∃ z, z = u := ⟨_, rfl⟩
          obtain ⟨hP1, hD1⟩ := hB
          rw [ht] at hP1
          obtain ⟨hP, hD⟩ := va_join (wr := [((ma 16), .inl (cJ, 46080, .inr (.inl F)))]) (w1 := [(h0, .inr (11, MO ma sv_thrown sv_length sv_nodes sv_many sv_directories sv_runsFrom sv_runs sv_read wr_28 sv_isNamed sv_goes sv_goesSize sv_goesAt sv_targetParts sv_isRoot))]) hP hD [0] [1] rfl rfl (by decide +kernel) (by decide +kernel) hk1 hFc hP1 hD1
          clear hPc hDc hFc hP1 hD1 hk1 hz1 hkc hks
          generalize H1 = H at hP hS ⊢
          have hP : va_P D CL [((ma 16), .inl (cJ, 46080, .inr (.inl F))), (h0, .inr (11, MO ma sv_thrown sv_length sv_nodes sv_many sv_directories sv_runsFrom sv_runs sv_read wr_28 sv_isNamed sv_goes sv_goesSize sv_goesAt sv_targetParts sv_isRoot))] H := hP
          have hD : va_D A [((ma 16), .inl (cJ, 46080, .inr (.inl F))), (h0, .inr (11, MO ma sv_thrown sv_length sv_nodes sv_many sv_directories sv_runsFrom sv_runs sv_read wr_28 sv_isNamed sv_goes sv_goesSize sv_goesAt sv_targetParts sv_isRoot))] := hD
          try dsimp only at hp_r27
          have hr_29 := hp_r27
          have hP9 := hP.sub (ws' := [(h0, .inr (11, MO ma sv_thrown sv_length sv_nodes sv_many sv_directories sv_runsFrom sv_runs sv_read wr_28 sv_isNamed sv_goes sv_goesSize sv_goesAt sv_targetParts sv_isRoot)), ((ma 16), .inl (cJ, 46080, .inr (.inl F)))]) [1, 0] rfl
          have hD9 := hD.sub (ws' := [(h0, .inr (11, MO ma sv_thrown sv_length sv_nodes sv_many sv_directories sv_runsFrom sv_runs sv_read wr_28 sv_isNamed sv_goes sv_goesSize sv_goesAt sv_targetParts sv_isRoot)), ((ma 16), .inl (cJ, 46080, .inr (.inl F)))]) [1, 0] (by decide +kernel) rfl
          exact W.zret (v := r27) hx hb hr (by first | rfl | decide | exact i_narZ (by omega)) (fun t ht hW => ⟨⟨r27, wr_28, rfl, ⟨(by (try dsimp only); first | assumption | omega | trivial), (by (try dsimp only); intro h7; first | (exfalso; omega) | (subst_vars; unfold RecOK; omega))⟩, by rw [ht]; exact hP9, hD9⟩, hS.F ht⟩) hS.2.2 d_DiscMakerModel_isRecord_105
        · skip
          have g50_55 : ¬ r23.toInt ≤ 0 := fun h8 => h_9 ((i_le rfl (by decide)).mpr h8)
          refine lv_aload_n hx hb d_DiscMakerModel_isRecord_53 rfl (lv_at hl 2 rfl) ?_
          refine lv_iload_n hx hb d_DiscMakerModel_isRecord_54 rfl (lv_at hl 3 rfl) ?_
          refine lv_iconst (v := 2) hx hb d_DiscMakerModel_isRecord_55 (by decide) ?_
          refine lv_iadd hx hb d_DiscMakerModel_isRecord_56 ?_
          refine lv_topi (fun v30 e_v30 => ?_)
          have t_v30 : v30.toInt = x.toInt + 2 := by rw [e_v30]; exact i_add rfl (by decide) (by omega) (by omega)
          refine lv_iconst (v := 4) hx hb d_DiscMakerModel_isRecord_57 (by decide) ?_
          have hPc := hP.sub (ws' := [(h0, .inr (11, MO ma sv_thrown sv_length sv_nodes sv_many sv_directories sv_runsFrom sv_runs sv_read sv_wrong sv_isNamed sv_goes sv_goesSize sv_goesAt sv_targetParts sv_isRoot)), ((ma 16), .inl (cJ, 46080, .inr (.inl F)))]) [0, 1] rfl
          have hDc := hD.sub (ws' := [(h0, .inr (11, MO ma sv_thrown sv_length sv_nodes sv_many sv_directories sv_runsFrom sv_runs sv_read sv_wrong sv_isNamed sv_goes sv_goesSize sv_goesAt sv_targetParts sv_isRoot)), ((ma 16), .inl (cJ, 46080, .inr (.inl F)))]) [0, 1] (by decide +kernel) rfl
          have hFc := va_free (wc := [(h0, .inr (11, MO ma sv_thrown sv_length sv_nodes sv_many sv_directories sv_runsFrom sv_runs sv_read sv_wrong sv_isNamed sv_goes sv_goesSize sv_goesAt sv_targetParts sv_isRoot)), ((ma 16), .inl (cJ, 46080, .inr (.inl F)))]) hD hS hA [0, 1] rfl
          have hkc : 0 ≤ 0 := by decide
          have hks : 0 ≤ 0 := by decide
          refine va_calli (va_runV (C := "DiscMakerModel") (As := [.int v30, .int 4]) (rest := []) ⟨hx, hb, hml, hown, hts⟩ (m_isBoth l D cB cI cJ cZ cN cF H.size h0 ma sv_thrown sv_length sv_nodes sv_many sv_directories sv_runsFrom sv_runs sv_read sv_wrong sv_isNamed sv_goes sv_goesSize sv_goesAt sv_targetParts sv_isRoot F v30 4 (by (try dsimp only); first | assumption | omega | trivial) (by (try dsimp only); first | assumption | omega | trivial) (by (try dsimp only); first | assumption | omega | trivial)) (cwV 2 hts (lg_goodV k1837 k1839 k99 k125 kc_DiscMakerModel_isBoth) rfl rfl rfl (by decide +kernel) ⟨Nat.le_of_ble_eq_true rfl, Nat.le_of_ble_eq_true rfl⟩) ⟨fun a U g mk q => by obtain ⟨q0, q1, qP, qK, qN, qD⟩ := q; exact ⟨q0, q1, qP, va_K.moved (u := U) (U := U.calling g mk a) (Vm.Alike.refl U.vm) qK, qN.calling, qD⟩, va_recv hK hP (ci := 11) (q0 := 0) rfl rfl, fun U hU hW => ⟨rfl, by rw [hU], by rw [hU]; exact hPc, va_K.moved hW.alike hK, NN.warm hW hN, hDc.weaken (fun _ _ _ _ => trivial)⟩⟩ rfl rfl hl.1 rfl (lv_room (Nat.le_of_ble_eq_true rfl)) d_DiscMakerModel_isRecord_58 ⟨hkc, hks⟩) hS (fun q _ h => hFc q h) hFc (fun r31 u t H1 locs ht hvm hp_r31 hB hz1 hk1 hS => ?_)
          obtain ⟨hP1, hD1⟩ := hB
          rw [ht] at hP1
          obtain ⟨hP, hD⟩ := va_join (wr := []) (w1 := [(h0, .inr (11, MO ma sv_thrown sv_length sv_nodes sv_many sv_directories sv_runsFrom sv_runs sv_read sv_wrong sv_isNamed sv_goes sv_goesSize sv_goesAt sv_targetParts sv_isRoot)), ((ma 16), .inl (cJ, 46080, .inr (.inl F)))]) hP hD [0, 1] [] rfl rfl (by decide +kernel) (by decide +kernel) hk1 hFc hP1 hD1
          clear hPc hDc hFc hP1 hD1 hk1 hz1 hkc hks
          generalize H1 = H at hP hS ⊢
          have hP : va_P D CL [(h0, .inr (11, MO ma sv_thrown sv_length sv_nodes sv_many sv_directories sv_runsFrom sv_runs sv_read sv_wrong sv_isNamed sv_goes sv_goesSize sv_goesAt sv_targetParts sv_isRoot)), ((ma 16), .inl (cJ, 46080, .inr (.inl F)))] H := hP
          have hD : va_D A [(h0, .inr (11, MO ma sv_thrown sv_length sv_nodes sv_many sv_directories sv_runsFrom sv_runs sv_read sv_wrong sv_isNamed sv_goes sv_goesSize sv_goesAt sv_targetParts sv_isRoot)), ((ma 16), .inl (cJ, 46080, .inr (.inl F)))] := hD
          try dsimp only at hp_r31
          have hr_32 := hp_r31
          refine lv_if_eq (tgt := 92) hx hb d_DiscMakerModel_isRecord_61 (by decide) (fun h_9 => ?_) (fun h_9 => ?_)
          · skip
            have g61_70 : r31.toInt = 0 := (i_eq rfl (by decide)).mp h_9
            refine lv_iconst (v := 0) hx hb d_DiscMakerModel_isRecord_92 (by decide) ?_
            refine lv_istore hx hb d_DiscMakerModel_isRecord_93 hl (by decide) rfl (fun ls hl => ?_)
            have hl : lv_has ls 11 [(4, .int 0), (3, .int v6), (2, .int r1), (0, .ref h0), (1, .int x)] := hl
            refine lv_iload hx hb d_DiscMakerModel_isRecord_95 (lv_at hl 0 rfl) ?_
            refine lv_if_ne (tgt := 106) hx hb d_DiscMakerModel_isRecord_97 (by decide) (fun h_9 => absurd (by decide) h_9) (fun _ => ?_)
            refine lv_aload_n hx hb d_DiscMakerModel_isRecord_100 rfl (lv_at hl 3 rfl) ?_
            refine lv_iload_n hx hb d_DiscMakerModel_isRecord_101 rfl (lv_at hl 4 rfl) ?_
            have hPc := hP.sub (ws' := [(h0, .inr (11, MO ma sv_thrown sv_length sv_nodes sv_many sv_directories sv_runsFrom sv_runs sv_read sv_wrong sv_isNamed sv_goes sv_goesSize sv_goesAt sv_targetParts sv_isRoot))]) [0] rfl
            have hDc := hD.sub (ws' := [(h0, .inr (11, MO ma sv_thrown sv_length sv_nodes sv_many sv_directories sv_runsFrom sv_runs sv_read sv_wrong sv_isNamed sv_goes sv_goesSize sv_goesAt sv_targetParts sv_isRoot))]) [0] (by decide +kernel) rfl
            have hFc := va_free (wc := [(h0, .inr (11, MO ma sv_thrown sv_length sv_nodes sv_many sv_directories sv_runsFrom sv_runs sv_read sv_wrong sv_isNamed sv_goes sv_goesSize sv_goesAt sv_targetParts sv_isRoot))]) hD hS hA [0] rfl
            have hkc : 0 ≤ 0 := by decide
            have hks : 0 ≤ 0 := by decide
            refine va_calli (va_runV (C := "DiscMakerModel") (As := [.int x]) (rest := []) ⟨hx, hb, hml, hown, hts⟩ (m_isWrong l D cB cI cJ cZ cN cF H.size h0 ma sv_thrown sv_length sv_nodes sv_many sv_directories sv_runsFrom sv_runs sv_read sv_wrong sv_isNamed sv_goes sv_goesSize sv_goesAt sv_targetParts sv_isRoot x) (cwV 1 hts (lg_goodV k1833 k1835 k98 k125 kc_DiscMakerModel_isWrong) rfl rfl rfl (by decide +kernel) ⟨Nat.le_of_ble_eq_true rfl, Nat.le_of_ble_eq_true rfl⟩) ⟨fun a U g mk q => by obtain ⟨q0, q1, qP, qK, qN, qD⟩ := q; exact ⟨q0, q1, qP, va_K.moved (u := U) (U := U.calling g mk a) (Vm.Alike.refl U.vm) qK, qN.calling, qD⟩, va_recv hK hP (ci := 11) (q0 := 0) rfl rfl, fun U hU hW => ⟨rfl, by rw [hU], by rw [hU]; exact hPc, va_K.moved hW.alike hK, NN.warm hW hN, hDc.weaken (fun _ _ _ _ => trivial)⟩⟩ rfl rfl hl.1 rfl (lv_room (Nat.le_of_ble_eq_true rfl)) d_DiscMakerModel_isRecord_102 ⟨hkc, hks⟩) hS (fun q _ h => hFc q h) hFc (fun r33 u t H1 locs ht hvm hp_r33 hB hz1 hk1 hS => ?_)
            obtain ⟨wr_34, rfl⟩ : ∃ z, z = u := ⟨_, rfl⟩
            obtain ⟨hP1, hD1⟩ := hB
            rw [ht] at hP1
            obtain ⟨hP, hD⟩ := va_join (wr := [((ma 16), .inl (cJ, 46080, .inr (.inl F)))]) (w1 := [(h0, .inr (11, MO ma sv_thrown sv_length sv_nodes sv_many sv_directories sv_runsFrom sv_runs sv_read wr_34 sv_isNamed sv_goes sv_goesSize sv_goesAt sv_targetParts sv_isRoot))]) hP hD [0] [1] rfl rfl (by decide +kernel) (by decide +kernel) hk1 hFc hP1 hD1
            clear hPc hDc hFc hP1 hD1 hk1 hz1 hkc hks
            generalize H1 = H at hP hS ⊢
            have hP : va_P D CL [((ma 16), .inl (cJ, 46080, .inr (.inl F))), (h0, .inr (11, MO ma sv_thrown sv_length sv_nodes sv_many sv_directories sv_runsFrom sv_runs sv_read wr_34 sv_isNamed sv_goes sv_goesSize sv_goesAt sv_targetParts sv_isRoot))] H := hP
            have hD : va_D A [((ma 16), .inl (cJ, 46080, .inr (.inl F))), (h0, .inr (11, MO ma sv_thrown sv_length sv_nodes sv_many sv_directories sv_runsFrom sv_runs sv_read wr_34 sv_isNamed sv_goes sv_goesSize sv_goesAt sv_targetParts sv_isRoot))] := hD
            try dsimp only at hp_r33
            have hr_35 := hp_r33
            have hP9 := hP.sub (ws' := [(h0, .inr (11, MO ma sv_thrown sv_length sv_nodes sv_many sv_directories sv_runsFrom sv_runs sv_read wr_34 sv_isNamed sv_goes sv_goesSize sv_goesAt sv_targetParts sv_isRoot)), ((ma 16), .inl (cJ, 46080, .inr (.inl F)))]) [1, 0] rfl
            have hD9 := hD.sub (ws' := [(h0, .inr (11, MO ma sv_thrown sv_length sv_nodes sv_many sv_directories sv_runsFrom sv_runs sv_read wr_34 sv_isNamed sv_goes sv_goesSize sv_goesAt sv_targetParts sv_isRoot)), ((ma 16), .inl (cJ, 46080, .inr (.inl F)))]) [1, 0] (by decide +kernel) rfl
            exact W.zret (v := r33) hx hb hr (by first | rfl | decide | exact i_narZ (by omega)) (fun t ht hW => ⟨⟨r33, wr_34, rfl, ⟨(by (try dsimp only); first | assumption | omega | trivial), (by (try dsimp only); intro h7; first | (exfalso; omega) | (subst_vars; unfold RecOK; omega))⟩, by rw [ht]; exact hP9, hD9⟩, hS.F ht⟩) hS.2.2 d_DiscMakerModel_isRecord_105
          · skip
            have g61_70 : ¬ r31.toInt = 0 := fun h8 => h_9 ((i_eq rfl (by decide)).mpr h8)
            refine lv_aload_n hx hb d_DiscMakerModel_isRecord_64 rfl (lv_at hl 2 rfl) ?_
            refine lv_iload_n hx hb d_DiscMakerModel_isRecord_65 rfl (lv_at hl 3 rfl) ?_
            refine lv_bipush (v := 10) hx hb d_DiscMakerModel_isRecord_66 (by decide) ?_
            refine lv_iadd hx hb d_DiscMakerModel_isRecord_68 ?_
            refine lv_topi (fun v36 e_v36 => ?_)
            have t_v36 : v36.toInt = x.toInt + 10 := by rw [e_v36]; exact i_add rfl (by decide) (by omega) (by omega)
            refine lv_iconst (v := 4) hx hb d_DiscMakerModel_isRecord_69 (by decide) ?_
            have hPc := hP.sub (ws' := [(h0, .inr (11, MO ma sv_thrown sv_length sv_nodes sv_many sv_directories sv_runsFrom sv_runs sv_read sv_wrong sv_isNamed sv_goes sv_goesSize sv_goesAt sv_targetParts sv_isRoot)), ((ma 16), .inl (cJ, 46080, .inr (.inl F)))]) [0, 1] rfl
            have hDc := hD.sub (ws' := [(h0, .inr (11, MO ma sv_thrown sv_length sv_nodes sv_many sv_directories sv_runsFrom sv_runs sv_read sv_wrong sv_isNamed sv_goes sv_goesSize sv_goesAt sv_targetParts sv_isRoot)), ((ma 16), .inl (cJ, 46080, .inr (.inl F)))]) [0, 1] (by decide +kernel) rfl
            have hFc := va_free (wc := [(h0, .inr (11, MO ma sv_thrown sv_length sv_nodes sv_many sv_directories sv_runsFrom sv_runs sv_read sv_wrong sv_isNamed sv_goes sv_goesSize sv_goesAt sv_targetParts sv_isRoot)), ((ma 16), .inl (cJ, 46080, .inr (.inl F)))]) hD hS hA [0, 1] rfl
            have hkc : 0 ≤ 0 := by decide
            have hks : 0 ≤ 0 := by decide
            refine va_calli (va_runV (C := "DiscMakerModel") (As := [.int v36, .int 4]) (rest := []) ⟨hx, hb, hml, hown, hts⟩ (m_isBoth l D cB cI cJ cZ cN cF H.size h0 ma sv_thrown sv_length sv_nodes sv_many sv_directories sv_runsFrom sv_runs sv_read sv_wrong sv_isNamed sv_goes sv_goesSize sv_goesAt sv_targetParts sv_isRoot F v36 4 (by (try dsimp only); first | assumption | omega | trivial) (by (try dsimp only); first | assumption | omega | trivial) (by (try dsimp only); first | assumption | omega | trivial)) (cwV 2 hts (lg_goodV k1837 k1839 k99 k125 kc_DiscMakerModel_isBoth) rfl rfl rfl (by decide +kernel) ⟨Nat.le_of_ble_eq_true rfl, Nat.le_of_ble_eq_true rfl⟩) ⟨fun a U g mk q => by obtain ⟨q0, q1, qP, qK, qN, qD⟩ := q; exact ⟨q0, q1, qP, va_K.moved (u := U) (U := U.calling g mk a) (Vm.Alike.refl U.vm) qK, qN.calling, qD⟩, va_recv hK hP (ci := 11) (q0 := 0) rfl rfl, fun U hU hW => ⟨rfl, by rw [hU], by rw [hU]; exact hPc, va_K.moved hW.alike hK, NN.warm hW hN, hDc.weaken (fun _ _ _ _ => trivial)⟩⟩ rfl rfl hl.1 rfl (lv_room (Nat.le_of_ble_eq_true rfl)) d_DiscMakerModel_isRecord_70 ⟨hkc, hks⟩) hS (fun q _ h => hFc q h) hFc (fun r37 u t H1 locs ht hvm hp_r37 hB hz1 hk1 hS => ?_)
            obtain ⟨hP1, hD1⟩ := hB
            rw [ht] at hP1
            obtain ⟨hP, hD⟩ := va_join (wr := []) (w1 := [(h0, .inr (11, MO ma sv_thrown sv_length sv_nodes sv_many sv_directories sv_runsFrom sv_runs sv_read sv_wrong sv_isNamed sv_goes sv_goesSize sv_goesAt sv_targetParts sv_isRoot)), ((ma 16), .inl (cJ, 46080, .inr (.inl F)))]) hP hD [0, 1] [] rfl rfl (by decide +kernel) (by decide +kernel) hk1 hFc hP1 hD1
            clear hPc hDc hFc hP1 hD1 hk1 hz1 hkc hks
            generalize H1 = H at hP hS ⊢
            have hP : va_P D CL [(h0, .inr (11, MO ma sv_thrown sv_length sv_nodes sv_many sv_directories sv_runsFrom sv_runs sv_read sv_wrong sv_isNamed sv_goes sv_goesSize sv_goesAt sv_targetParts sv_isRoot)), ((ma 16), .inl (cJ, 46080, .inr (.inl F)))] H := hP
            have hD : va_D A [(h0, .inr (11, MO ma sv_thrown sv_length sv_nodes sv_many sv_directories sv_runsFrom sv_runs sv_read sv_wrong sv_isNamed sv_goes sv_goesSize sv_goesAt sv_targetParts sv_isRoot)), ((ma 16), .inl (cJ, 46080, .inr (.inl F)))] := hD
            try dsimp only at hp_r37
            have hr_38 := hp_r37
            refine lv_if_eq (tgt := 92) hx hb d_DiscMakerModel_isRecord_73 (by decide) (fun h_9 => ?_) (fun h_9 => ?_)
            · skip
              have g73_85 : r37.toInt = 0 := (i_eq rfl (by decide)).mp h_9
              refine lv_iconst (v := 0) hx hb d_DiscMakerModel_isRecord_92 (by decide) ?_
              refine lv_istore hx hb d_DiscMakerModel_isRecord_93 hl (by decide) rfl (fun ls hl => ?_)
              have hl : lv_has ls 11 [(4, .int 0), (3, .int v6), (2, .int r1), (0, .ref h0), (1, .int x)] := hl
              refine lv_iload hx hb d_DiscMakerModel_isRecord_95 (lv_at hl 0 rfl) ?_
              refine lv_if_ne (tgt := 106) hx hb d_DiscMakerModel_isRecord_97 (by decide) (fun h_9 => absurd (by decide) h_9) (fun _ => ?_)
              refine lv_aload_n hx hb d_DiscMakerModel_isRecord_100 rfl (lv_at hl 3 rfl) ?_
              refine lv_iload_n hx hb d_DiscMakerModel_isRecord_101 rfl (lv_at hl 4 rfl) ?_
              have hPc := hP.sub (ws' := [(h0, .inr (11, MO ma sv_thrown sv_length sv_nodes sv_many sv_directories sv_runsFrom sv_runs sv_read sv_wrong sv_isNamed sv_goes sv_goesSize sv_goesAt sv_targetParts sv_isRoot))]) [0] rfl
              have hDc := hD.sub (ws' := [(h0, .inr (11, MO ma sv_thrown sv_length sv_nodes sv_many sv_directories sv_runsFrom sv_runs sv_read sv_wrong sv_isNamed sv_goes sv_goesSize sv_goesAt sv_targetParts sv_isRoot))]) [0] (by decide +kernel) rfl
              have hFc := va_free (wc := [(h0, .inr (11, MO ma sv_thrown sv_length sv_nodes sv_many sv_directories sv_runsFrom sv_runs sv_read sv_wrong sv_isNamed sv_goes sv_goesSize sv_goesAt sv_targetParts sv_isRoot))]) hD hS hA [0] rfl
              have hkc : 0 ≤ 0 := by decide
              have hks : 0 ≤ 0 := by decide
              refine va_calli (va_runV (C := "DiscMakerModel") (As := [.int x]) (rest := []) ⟨hx, hb, hml, hown, hts⟩ (m_isWrong l D cB cI cJ cZ cN cF H.size h0 ma sv_thrown sv_length sv_nodes sv_many sv_directories sv_runsFrom sv_runs sv_read sv_wrong sv_isNamed sv_goes sv_goesSize sv_goesAt sv_targetParts sv_isRoot x) (cwV 1 hts (lg_goodV k1833 k1835 k98 k125 kc_DiscMakerModel_isWrong) rfl rfl rfl (by decide +kernel) ⟨Nat.le_of_ble_eq_true rfl, Nat.le_of_ble_eq_true rfl⟩) ⟨fun a U g mk q => by obtain ⟨q0, q1, qP, qK, qN, qD⟩ := q; exact ⟨q0, q1, qP, va_K.moved (u := U) (U := U.calling g mk a) (Vm.Alike.refl U.vm) qK, qN.calling, qD⟩, va_recv hK hP (ci := 11) (q0 := 0) rfl rfl, fun U hU hW => ⟨rfl, by rw [hU], by rw [hU]; exact hPc, va_K.moved hW.alike hK, NN.warm hW hN, hDc.weaken (fun _ _ _ _ => trivial)⟩⟩ rfl rfl hl.1 rfl (lv_room (Nat.le_of_ble_eq_true rfl)) d_DiscMakerModel_isRecord_102 ⟨hkc, hks⟩) hS (fun q _ h => hFc q h) hFc (fun r39 u t H1 locs ht hvm hp_r39 hB hz1 hk1 hS => ?_)
              obtain ⟨wr_40, rfl⟩ : ∃ z, z = u := ⟨_, rfl⟩
              obtain ⟨hP1, hD1⟩ := hB
              rw [ht] at hP1
              obtain ⟨hP, hD⟩ := va_join (wr := [((ma 16), .inl (cJ, 46080, .inr (.inl F)))]) (w1 := [(h0, .inr (11, MO ma sv_thrown sv_length sv_nodes sv_many sv_directories sv_runsFrom sv_runs sv_read wr_40 sv_isNamed sv_goes sv_goesSize sv_goesAt sv_targetParts sv_isRoot))]) hP hD [0] [1] rfl rfl (by decide +kernel) (by decide +kernel) hk1 hFc hP1 hD1
              clear hPc hDc hFc hP1 hD1 hk1 hz1 hkc hks
              generalize H1 = H at hP hS ⊢
              have hP : va_P D CL [((ma 16), .inl (cJ, 46080, .inr (.inl F))), (h0, .inr (11, MO ma sv_thrown sv_length sv_nodes sv_many sv_directories sv_runsFrom sv_runs sv_read wr_40 sv_isNamed sv_goes sv_goesSize sv_goesAt sv_targetParts sv_isRoot))] H := hP
              have hD : va_D A [((ma 16), .inl (cJ, 46080, .inr (.inl F))), (h0, .inr (11, MO ma sv_thrown sv_length sv_nodes sv_many sv_directories sv_runsFrom sv_runs sv_read wr_40 sv_isNamed sv_goes sv_goesSize sv_goesAt sv_targetParts sv_isRoot))] := hD
              try dsimp only at hp_r39
              have hr_41 := hp_r39
              have hP9 := hP.sub (ws' := [(h0, .inr (11, MO ma sv_thrown sv_length sv_nodes sv_many sv_directories sv_runsFrom sv_runs sv_read wr_40 sv_isNamed sv_goes sv_goesSize sv_goesAt sv_targetParts sv_isRoot)), ((ma 16), .inl (cJ, 46080, .inr (.inl F)))]) [1, 0] rfl
              have hD9 := hD.sub (ws' := [(h0, .inr (11, MO ma sv_thrown sv_length sv_nodes sv_many sv_directories sv_runsFrom sv_runs sv_read wr_40 sv_isNamed sv_goes sv_goesSize sv_goesAt sv_targetParts sv_isRoot)), ((ma 16), .inl (cJ, 46080, .inr (.inl F)))]) [1, 0] (by decide +kernel) rfl
              exact W.zret (v := r39) hx hb hr (by first | rfl | decide | exact i_narZ (by omega)) (fun t ht hW => ⟨⟨r39, wr_40, rfl, ⟨(by (try dsimp only); first | assumption | omega | trivial), (by (try dsimp only); intro h7; first | (exfalso; omega) | (subst_vars; unfold RecOK; omega))⟩, by rw [ht]; exact hP9, hD9⟩, hS.F ht⟩) hS.2.2 d_DiscMakerModel_isRecord_105
            · skip
              have g73_85 : ¬ r37.toInt = 0 := fun h8 => h_9 ((i_eq rfl (by decide)).mpr h8)
              refine lv_aload_n hx hb d_DiscMakerModel_isRecord_76 rfl (lv_at hl 2 rfl) ?_
              refine lv_iload_n hx hb d_DiscMakerModel_isRecord_77 rfl (lv_at hl 3 rfl) ?_
              refine lv_bipush (v := 28) hx hb d_DiscMakerModel_isRecord_78 (by decide) ?_
              refine lv_iadd hx hb d_DiscMakerModel_isRecord_80 ?_
              refine lv_topi (fun v42 e_v42 => ?_)
              have t_v42 : v42.toInt = x.toInt + 28 := by rw [e_v42]; exact i_add rfl (by decide) (by omega) (by omega)
              refine lv_iconst (v := 2) hx hb d_DiscMakerModel_isRecord_81 (by decide) ?_
              have hPc := hP.sub (ws' := [(h0, .inr (11, MO ma sv_thrown sv_length sv_nodes sv_many sv_directories sv_runsFrom sv_runs sv_read sv_wrong sv_isNamed sv_goes sv_goesSize sv_goesAt sv_targetParts sv_isRoot)), ((ma 16), .inl (cJ, 46080, .inr (.inl F)))]) [0, 1] rfl
              have hDc := hD.sub (ws' := [(h0, .inr (11, MO ma sv_thrown sv_length sv_nodes sv_many sv_directories sv_runsFrom sv_runs sv_read sv_wrong sv_isNamed sv_goes sv_goesSize sv_goesAt sv_targetParts sv_isRoot)), ((ma 16), .inl (cJ, 46080, .inr (.inl F)))]) [0, 1] (by decide +kernel) rfl
              have hFc := va_free (wc := [(h0, .inr (11, MO ma sv_thrown sv_length sv_nodes sv_many sv_directories sv_runsFrom sv_runs sv_read sv_wrong sv_isNamed sv_goes sv_goesSize sv_goesAt sv_targetParts sv_isRoot)), ((ma 16), .inl (cJ, 46080, .inr (.inl F)))]) hD hS hA [0, 1] rfl
              have hkc : 0 ≤ 0 := by decide
              have hks : 0 ≤ 0 := by decide
              refine va_calli (va_runV (C := "DiscMakerModel") (As := [.int v42, .int 2]) (rest := []) ⟨hx, hb, hml, hown, hts⟩ (m_isBoth l D cB cI cJ cZ cN cF H.size h0 ma sv_thrown sv_length sv_nodes sv_many sv_directories sv_runsFrom sv_runs sv_read sv_wrong sv_isNamed sv_goes sv_goesSize sv_goesAt sv_targetParts sv_isRoot F v42 2 (by (try dsimp only); first | assumption | omega | trivial) (by (try dsimp only); first | assumption | omega | trivial) (by (try dsimp only); first | assumption | omega | trivial)) (cwV 2 hts (lg_goodV k1837 k1839 k99 k125 kc_DiscMakerModel_isBoth) rfl rfl rfl (by decide +kernel) ⟨Nat.le_of_ble_eq_true rfl, Nat.le_of_ble_eq_true rfl⟩) ⟨fun a U g mk q => by obtain ⟨q0, q1, qP, qK, qN, qD⟩ := q; exact ⟨q0, q1, qP, va_K.moved (u := U) (U := U.calling g mk a) (Vm.Alike.refl U.vm) qK, qN.calling, qD⟩, va_recv hK hP (ci := 11) (q0 := 0) rfl rfl, fun U hU hW => ⟨rfl, by rw [hU], by rw [hU]; exact hPc, va_K.moved hW.alike hK, NN.warm hW hN, hDc.weaken (fun _ _ _ _ => trivial)⟩⟩ rfl rfl hl.1 rfl (lv_room (Nat.le_of_ble_eq_true rfl)) d_DiscMakerModel_isRecord_82 ⟨hkc, hks⟩) hS (fun q _ h => hFc q h) hFc (fun r43 u t H1 locs ht hvm hp_r43 hB hz1 hk1 hS => ?_)
              obtain ⟨hP1, hD1⟩ := hB
              rw [ht] at hP1
              obtain ⟨hP, hD⟩ := va_join (wr := []) (w1 := [(h0, .inr (11, MO ma sv_thrown sv_length sv_nodes sv_many sv_directories sv_runsFrom sv_runs sv_read sv_wrong sv_isNamed sv_goes sv_goesSize sv_goesAt sv_targetParts sv_isRoot)), ((ma 16), .inl (cJ, 46080, .inr (.inl F)))]) hP hD [0, 1] [] rfl rfl (by decide +kernel) (by decide +kernel) hk1 hFc hP1 hD1
              clear hPc hDc hFc hP1 hD1 hk1 hz1 hkc hks
              generalize H1 = H at hP hS ⊢
              have hP : va_P D CL [(h0, .inr (11, MO ma sv_thrown sv_length sv_nodes sv_many sv_directories sv_runsFrom sv_runs sv_read sv_wrong sv_isNamed sv_goes sv_goesSize sv_goesAt sv_targetParts sv_isRoot)), ((ma 16), .inl (cJ, 46080, .inr (.inl F)))] H := hP
              have hD : va_D A [(h0, .inr (11, MO ma sv_thrown sv_length sv_nodes sv_many sv_directories sv_runsFrom sv_runs sv_read sv_wrong sv_isNamed sv_goes sv_goesSize sv_goesAt sv_targetParts sv_isRoot)), ((ma 16), .inl (cJ, 46080, .inr (.inl F)))] := hD
              try dsimp only at hp_r43
              have hr_44 := hp_r43
              refine lv_if_eq (tgt := 92) hx hb d_DiscMakerModel_isRecord_85 (by decide) (fun h_9 => ?_) (fun h_9 => ?_)
              · skip
                have g85_100 : r43.toInt = 0 := (i_eq rfl (by decide)).mp h_9
                refine lv_iconst (v := 0) hx hb d_DiscMakerModel_isRecord_92 (by decide) ?_
                refine lv_istore hx hb d_DiscMakerModel_isRecord_93 hl (by decide) rfl (fun ls hl => ?_)
                have hl : lv_has ls 11 [(4, .int 0), (3, .int v6), (2, .int r1), (0, .ref h0), (1, .int x)] := hl
                refine lv_iload hx hb d_DiscMakerModel_isRecord_95 (lv_at hl 0 rfl) ?_
                refine lv_if_ne (tgt := 106) hx hb d_DiscMakerModel_isRecord_97 (by decide) (fun h_9 => absurd (by decide) h_9) (fun _ => ?_)
                refine lv_aload_n hx hb d_DiscMakerModel_isRecord_100 rfl (lv_at hl 3 rfl) ?_
                refine lv_iload_n hx hb d_DiscMakerModel_isRecord_101 rfl (lv_at hl 4 rfl) ?_
                have hPc := hP.sub (ws' := [(h0, .inr (11, MO ma sv_thrown sv_length sv_nodes sv_many sv_directories sv_runsFrom sv_runs sv_read sv_wrong sv_isNamed sv_goes sv_goesSize sv_goesAt sv_targetParts sv_isRoot))]) [0] rfl
                have hDc := hD.sub (ws' := [(h0, .inr (11, MO ma sv_thrown sv_length sv_nodes sv_many sv_directories sv_runsFrom sv_runs sv_read sv_wrong sv_isNamed sv_goes sv_goesSize sv_goesAt sv_targetParts sv_isRoot))]) [0] (by decide +kernel) rfl
                have hFc := va_free (wc := [(h0, .inr (11, MO ma sv_thrown sv_length sv_nodes sv_many sv_directories sv_runsFrom sv_runs sv_read sv_wrong sv_isNamed sv_goes sv_goesSize sv_goesAt sv_targetParts sv_isRoot))]) hD hS hA [0] rfl
                have hkc : 0 ≤ 0 := by decide
                have hks : 0 ≤ 0 := by decide
                refine va_calli (va_runV (C := "DiscMakerModel") (As := [.int x]) (rest := []) ⟨hx, hb, hml, hown, hts⟩ (m_isWrong l D cB cI cJ cZ cN cF H.size h0 ma sv_thrown sv_length sv_nodes sv_many sv_directories sv_runsFrom sv_runs sv_read sv_wrong sv_isNamed sv_goes sv_goesSize sv_goesAt sv_targetParts sv_isRoot x) (cwV 1 hts (lg_goodV k1833 k1835 k98 k125 kc_DiscMakerModel_isWrong) rfl rfl rfl (by decide +kernel) ⟨Nat.le_of_ble_eq_true rfl, Nat.le_of_ble_eq_true rfl⟩) ⟨fun a U g mk q => by obtain ⟨q0, q1, qP, qK, qN, qD⟩ := q; exact ⟨q0, q1, qP, va_K.moved (u := U) (U := U.calling g mk a) (Vm.Alike.refl U.vm) qK, qN.calling, qD⟩, va_recv hK hP (ci := 11) (q0 := 0) rfl rfl, fun U hU hW => ⟨rfl, by rw [hU], by rw [hU]; exact hPc, va_K.moved hW.alike hK, NN.warm hW hN, hDc.weaken (fun _ _ _ _ => trivial)⟩⟩ rfl rfl hl.1 rfl (lv_room (Nat.le_of_ble_eq_true rfl)) d_DiscMakerModel_isRecord_102 ⟨hkc, hks⟩) hS (fun q _ h => hFc q h) hFc (fun r45 u t H1 locs ht hvm hp_r45 hB hz1 hk1 hS => ?_)
                obtain ⟨wr_46, rfl⟩ : ∃ z, z = u := ⟨_, rfl⟩
                obtain ⟨hP1, hD1⟩ := hB
                rw [ht] at hP1
                obtain ⟨hP, hD⟩ := va_join (wr := [((ma 16), .inl (cJ, 46080, .inr (.inl F)))]) (w1 := [(h0, .inr (11, MO ma sv_thrown sv_length sv_nodes sv_many sv_directories sv_runsFrom sv_runs sv_read wr_46 sv_isNamed sv_goes sv_goesSize sv_goesAt sv_targetParts sv_isRoot))]) hP hD [0] [1] rfl rfl (by decide +kernel) (by decide +kernel) hk1 hFc hP1 hD1
                clear hPc hDc hFc hP1 hD1 hk1 hz1 hkc hks
                generalize H1 = H at hP hS ⊢
                have hP : va_P D CL [((ma 16), .inl (cJ, 46080, .inr (.inl F))), (h0, .inr (11, MO ma sv_thrown sv_length sv_nodes sv_many sv_directories sv_runsFrom sv_runs sv_read wr_46 sv_isNamed sv_goes sv_goesSize sv_goesAt sv_targetParts sv_isRoot))] H := hP
                have hD : va_D A [((ma 16), .inl (cJ, 46080, .inr (.inl F))), (h0, .inr (11, MO ma sv_thrown sv_length sv_nodes sv_many sv_directories sv_runsFrom sv_runs sv_read wr_46 sv_isNamed sv_goes sv_goesSize sv_goesAt sv_targetParts sv_isRoot))] := hD
                try dsimp only at hp_r45
                have hr_47 := hp_r45
                have hP9 := hP.sub (ws' := [(h0, .inr (11, MO ma sv_thrown sv_length sv_nodes sv_many sv_directories sv_runsFrom sv_runs sv_read wr_46 sv_isNamed sv_goes sv_goesSize sv_goesAt sv_targetParts sv_isRoot)), ((ma 16), .inl (cJ, 46080, .inr (.inl F)))]) [1, 0] rfl
                have hD9 := hD.sub (ws' := [(h0, .inr (11, MO ma sv_thrown sv_length sv_nodes sv_many sv_directories sv_runsFrom sv_runs sv_read wr_46 sv_isNamed sv_goes sv_goesSize sv_goesAt sv_targetParts sv_isRoot)), ((ma 16), .inl (cJ, 46080, .inr (.inl F)))]) [1, 0] (by decide +kernel) rfl
                exact W.zret (v := r45) hx hb hr (by first | rfl | decide | exact i_narZ (by omega)) (fun t ht hW => ⟨⟨r45, wr_46, rfl, ⟨(by (try dsimp only); first | assumption | omega | trivial), (by (try dsimp only); intro h7; first | (exfalso; omega) | (subst_vars; unfold RecOK; omega))⟩, by rw [ht]; exact hP9, hD9⟩, hS.F ht⟩) hS.2.2 d_DiscMakerModel_isRecord_105
              · skip
                have g85_100 : ¬ r43.toInt = 0 := fun h8 => h_9 ((i_eq rfl (by decide)).mpr h8)
                refine lv_iconst (v := 1) hx hb d_DiscMakerModel_isRecord_88 (by decide) ?_
                refine lv_goto (tgt := 93) hx hb d_DiscMakerModel_isRecord_89 (by decide) ?_
                refine lv_istore hx hb d_DiscMakerModel_isRecord_93 hl (by decide) rfl (fun ls hl => ?_)
                have hl : lv_has ls 11 [(4, .int 1), (3, .int v6), (2, .int r1), (0, .ref h0), (1, .int x)] := hl
                refine lv_iload hx hb d_DiscMakerModel_isRecord_95 (lv_at hl 0 rfl) ?_
                refine lv_if_ne (tgt := 106) hx hb d_DiscMakerModel_isRecord_97 (by decide) (fun _ => ?_) (fun h_9 => absurd h_9 (by decide))
                refine lv_aload_n hx hb d_DiscMakerModel_isRecord_106 rfl (lv_at hl 3 rfl) ?_
                refine lv_iload_n hx hb d_DiscMakerModel_isRecord_107 rfl (lv_at hl 4 rfl) ?_
                refine lv_iconst (v := 2) hx hb d_DiscMakerModel_isRecord_108 (by decide) ?_
                refine lv_iadd hx hb d_DiscMakerModel_isRecord_109 ?_
                refine lv_topi (fun v48 e_v48 => ?_)
                have t_v48 : v48.toInt = x.toInt + 2 := by rw [e_v48]; exact i_add rfl (by decide) (by omega) (by omega)
                refine lv_iconst (v := 4) hx hb d_DiscMakerModel_isRecord_110 (by decide) ?_
                have hPc := hP.sub (ws' := [(h0, .inr (11, MO ma sv_thrown sv_length sv_nodes sv_many sv_directories sv_runsFrom sv_runs sv_read sv_wrong sv_isNamed sv_goes sv_goesSize sv_goesAt sv_targetParts sv_isRoot)), ((ma 16), .inl (cJ, 46080, .inr (.inl F)))]) [0, 1] rfl
                have hDc := hD.sub (ws' := [(h0, .inr (11, MO ma sv_thrown sv_length sv_nodes sv_many sv_directories sv_runsFrom sv_runs sv_read sv_wrong sv_isNamed sv_goes sv_goesSize sv_goesAt sv_targetParts sv_isRoot)), ((ma 16), .inl (cJ, 46080, .inr (.inl F)))]) [0, 1] (by decide +kernel) rfl
                have hFc := va_free (wc := [(h0, .inr (11, MO ma sv_thrown sv_length sv_nodes sv_many sv_directories sv_runsFrom sv_runs sv_read sv_wrong sv_isNamed sv_goes sv_goesSize sv_goesAt sv_targetParts sv_isRoot)), ((ma 16), .inl (cJ, 46080, .inr (.inl F)))]) hD hS hA [0, 1] rfl
                have hkc : 0 ≤ 0 := by decide
                have hks : 0 ≤ 0 := by decide
                refine va_calli (va_runV (C := "DiscMakerModel") (As := [.int v48, .int 4]) (rest := []) ⟨hx, hb, hml, hown, hts⟩ (m_lowAt4 l D cB cI cJ cZ cN cF H.size h0 ma sv_thrown sv_length sv_nodes sv_many sv_directories sv_runsFrom sv_runs sv_read sv_wrong sv_isNamed sv_goes sv_goesSize sv_goesAt sv_targetParts sv_isRoot F v48 (by (try dsimp only); first | assumption | omega | trivial) (by (try dsimp only); first | assumption | omega | trivial)) (cwV 2 hts (lg_goodV k1841 k1843 k100 k125 kc_DiscMakerModel_lowAt) rfl rfl rfl (by decide +kernel) ⟨Nat.le_of_ble_eq_true rfl, Nat.le_of_ble_eq_true rfl⟩) ⟨fun a U g mk q => by obtain ⟨q0, q1, qP, qK, qN, qD⟩ := q; exact ⟨q0, q1, qP, va_K.moved (u := U) (U := U.calling g mk a) (Vm.Alike.refl U.vm) qK, qN.calling, qD⟩, va_recv hK hP (ci := 11) (q0 := 0) rfl rfl, fun U hU hW => ⟨rfl, by rw [hU], by rw [hU]; exact hPc, va_K.moved hW.alike hK, NN.warm hW hN, hDc.weaken (fun _ _ _ _ => trivial)⟩⟩ rfl rfl hl.1 rfl (lv_room (Nat.le_of_ble_eq_true rfl)) d_DiscMakerModel_isRecord_111 ⟨hkc, hks⟩) hS (fun q _ h => hFc q h) hFc (fun r49 u t H1 locs ht hvm hp_r49 hB hz1 hk1 hS => ?_)
                obtain ⟨hP1, hD1⟩ := hB
                rw [ht] at hP1
                obtain ⟨hP, hD⟩ := va_join (wr := []) (w1 := [(h0, .inr (11, MO ma sv_thrown sv_length sv_nodes sv_many sv_directories sv_runsFrom sv_runs sv_read sv_wrong sv_isNamed sv_goes sv_goesSize sv_goesAt sv_targetParts sv_isRoot)), ((ma 16), .inl (cJ, 46080, .inr (.inl F)))]) hP hD [0, 1] [] rfl rfl (by decide +kernel) (by decide +kernel) hk1 hFc hP1 hD1
                clear hPc hDc hFc hP1 hD1 hk1 hz1 hkc hks
                generalize H1 = H at hP hS ⊢
                have hP : va_P D CL [(h0, .inr (11, MO ma sv_thrown sv_length sv_nodes sv_many sv_directories sv_runsFrom sv_runs sv_read sv_wrong sv_isNamed sv_goes sv_goesSize sv_goesAt sv_targetParts sv_isRoot)), ((ma 16), .inl (cJ, 46080, .inr (.inl F)))] H := hP
                have hD : va_D A [(h0, .inr (11, MO ma sv_thrown sv_length sv_nodes sv_many sv_directories sv_runsFrom sv_runs sv_read sv_wrong sv_isNamed sv_goes sv_goesSize sv_goesAt sv_targetParts sv_isRoot)), ((ma 16), .inl (cJ, 46080, .inr (.inl F)))] := hD
                try dsimp only at hp_r49
                have hv_50 := hp_r49
                refine lv_i2l hx hb d_DiscMakerModel_isRecord_114 rfl ?_
                refine lv_topl (fun w51 e_w51 => ?_)
                have t_w51 : w51.toInt = r49.toInt ∧ (-2147483648) ≤ r49.toInt ∧ r49.toInt ≤ 2147483647 := by rw [e_w51]; exact ⟨l_i rfl, i_rng _⟩
                refine lv_lstore hx hb d_DiscMakerModel_isRecord_115 hl (by decide) rfl (fun ls hl => ?_)
                have hl : lv_has ls 11 [(5, .long w51), (4, .int 1), (3, .int v6), (2, .int r1), (0, .ref h0), (1, .int x)] := hl
                refine lv_aload_n hx hb d_DiscMakerModel_isRecord_117 rfl (lv_at hl 4 rfl) ?_
                refine lv_iload_n hx hb d_DiscMakerModel_isRecord_118 rfl (lv_at hl 5 rfl) ?_
                refine lv_bipush (v := 10) hx hb d_DiscMakerModel_isRecord_119 (by decide) ?_
                refine lv_iadd hx hb d_DiscMakerModel_isRecord_121 ?_
                refine lv_topi (fun v52 e_v52 => ?_)
                have t_v52 : v52.toInt = x.toInt + 10 := by rw [e_v52]; exact i_add rfl (by decide) (by omega) (by omega)
                refine lv_iconst (v := 4) hx hb d_DiscMakerModel_isRecord_122 (by decide) ?_
                have hPc := hP.sub (ws' := [(h0, .inr (11, MO ma sv_thrown sv_length sv_nodes sv_many sv_directories sv_runsFrom sv_runs sv_read sv_wrong sv_isNamed sv_goes sv_goesSize sv_goesAt sv_targetParts sv_isRoot)), ((ma 16), .inl (cJ, 46080, .inr (.inl F)))]) [0, 1] rfl
                have hDc := hD.sub (ws' := [(h0, .inr (11, MO ma sv_thrown sv_length sv_nodes sv_many sv_directories sv_runsFrom sv_runs sv_read sv_wrong sv_isNamed sv_goes sv_goesSize sv_goesAt sv_targetParts sv_isRoot)), ((ma 16), .inl (cJ, 46080, .inr (.inl F)))]) [0, 1] (by decide +kernel) rfl
                have hFc := va_free (wc := [(h0, .inr (11, MO ma sv_thrown sv_length sv_nodes sv_many sv_directories sv_runsFrom sv_runs sv_read sv_wrong sv_isNamed sv_goes sv_goesSize sv_goesAt sv_targetParts sv_isRoot)), ((ma 16), .inl (cJ, 46080, .inr (.inl F)))]) hD hS hA [0, 1] rfl
                have hkc : 0 ≤ 0 := by decide
                have hks : 0 ≤ 0 := by decide
                refine va_calli (va_runV (C := "DiscMakerModel") (As := [.int v52, .int 4]) (rest := []) ⟨hx, hb, hml, hown, hts⟩ (m_lowAt4 l D cB cI cJ cZ cN cF H.size h0 ma sv_thrown sv_length sv_nodes sv_many sv_directories sv_runsFrom sv_runs sv_read sv_wrong sv_isNamed sv_goes sv_goesSize sv_goesAt sv_targetParts sv_isRoot F v52 (by (try dsimp only); first | assumption | omega | trivial) (by (try dsimp only); first | assumption | omega | trivial)) (cwV 2 hts (lg_goodV k1841 k1843 k100 k125 kc_DiscMakerModel_lowAt) rfl rfl rfl (by decide +kernel) ⟨Nat.le_of_ble_eq_true rfl, Nat.le_of_ble_eq_true rfl⟩) ⟨fun a U g mk q => by obtain ⟨q0, q1, qP, qK, qN, qD⟩ := q; exact ⟨q0, q1, qP, va_K.moved (u := U) (U := U.calling g mk a) (Vm.Alike.refl U.vm) qK, qN.calling, qD⟩, va_recv hK hP (ci := 11) (q0 := 0) rfl rfl, fun U hU hW => ⟨rfl, by rw [hU], by rw [hU]; exact hPc, va_K.moved hW.alike hK, NN.warm hW hN, hDc.weaken (fun _ _ _ _ => trivial)⟩⟩ rfl rfl hl.1 rfl (lv_room (Nat.le_of_ble_eq_true rfl)) d_DiscMakerModel_isRecord_123 ⟨hkc, hks⟩) hS (fun q _ h => hFc q h) hFc (fun r53 u t H1 locs ht hvm hp_r53 hB hz1 hk1 hS => ?_)
                obtain ⟨hP1, hD1⟩ := hB
                rw [ht] at hP1
                obtain ⟨hP, hD⟩ := va_join (wr := []) (w1 := [(h0, .inr (11, MO ma sv_thrown sv_length sv_nodes sv_many sv_directories sv_runsFrom sv_runs sv_read sv_wrong sv_isNamed sv_goes sv_goesSize sv_goesAt sv_targetParts sv_isRoot)), ((ma 16), .inl (cJ, 46080, .inr (.inl F)))]) hP hD [0, 1] [] rfl rfl (by decide +kernel) (by decide +kernel) hk1 hFc hP1 hD1
                clear hPc hDc hFc hP1 hD1 hk1 hz1 hkc hks
                generalize H1 = H at hP hS ⊢
                have hP : va_P D CL [(h0, .inr (11, MO ma sv_thrown sv_length sv_nodes sv_many sv_directories sv_runsFrom sv_runs sv_read sv_wrong sv_isNamed sv_goes sv_goesSize sv_goesAt sv_targetParts sv_isRoot)), ((ma 16), .inl (cJ, 46080, .inr (.inl F)))] H := hP
                have hD : va_D A [(h0, .inr (11, MO ma sv_thrown sv_length sv_nodes sv_many sv_directories sv_runsFrom sv_runs sv_read sv_wrong sv_isNamed sv_goes sv_goesSize sv_goesAt sv_targetParts sv_isRoot)), ((ma 16), .inl (cJ, 46080, .inr (.inl F)))] := hD
                try dsimp only at hp_r53
                have hv_54 := hp_r53
                refine lv_i2l hx hb d_DiscMakerModel_isRecord_126 rfl ?_
                refine lv_topl (fun w55 e_w55 => ?_)
                have t_w55 : w55.toInt = r53.toInt ∧ (-2147483648) ≤ r53.toInt ∧ r53.toInt ≤ 2147483647 := by rw [e_w55]; exact ⟨l_i rfl, i_rng _⟩
                refine lv_lstore hx hb d_DiscMakerModel_isRecord_127 hl (by decide) rfl (fun ls hl => ?_)
                have hl : lv_has ls 11 [(7, .long w55), (5, .long w51), (4, .int 1), (3, .int v6), (2, .int r1), (0, .ref h0), (1, .int x)] := hl
                refine lv_aload_n hx hb d_DiscMakerModel_isRecord_129 rfl (lv_at hl 5 rfl) ?_
                refine lv_iload_n hx hb d_DiscMakerModel_isRecord_130 rfl (lv_at hl 6 rfl) ?_
                have hPc := hP.sub (ws' := [(h0, .inr (11, MO ma sv_thrown sv_length sv_nodes sv_many sv_directories sv_runsFrom sv_runs sv_read sv_wrong sv_isNamed sv_goes sv_goesSize sv_goesAt sv_targetParts sv_isRoot)), ((ma 16), .inl (cJ, 46080, .inr (.inl F)))]) [0, 1] rfl
                have hDc := hD.sub (ws' := [(h0, .inr (11, MO ma sv_thrown sv_length sv_nodes sv_many sv_directories sv_runsFrom sv_runs sv_read sv_wrong sv_isNamed sv_goes sv_goesSize sv_goesAt sv_targetParts sv_isRoot)), ((ma 16), .inl (cJ, 46080, .inr (.inl F)))]) [0, 1] (by decide +kernel) rfl
                have hFc := va_free (wc := [(h0, .inr (11, MO ma sv_thrown sv_length sv_nodes sv_many sv_directories sv_runsFrom sv_runs sv_read sv_wrong sv_isNamed sv_goes sv_goesSize sv_goesAt sv_targetParts sv_isRoot)), ((ma 16), .inl (cJ, 46080, .inr (.inl F)))]) hD hS hA [0, 1] rfl
                have hkc : 0 ≤ 0 := by decide
                have hks : 0 ≤ 0 := by decide
                refine va_calli (va_runV (C := "DiscMakerModel") (As := [.int x]) (rest := []) ⟨hx, hb, hml, hown, hts⟩ (m_isMarked l D cB cI cJ cZ cN cF H.size h0 ma sv_thrown sv_length sv_nodes sv_many sv_directories sv_runsFrom sv_runs sv_read sv_wrong sv_isNamed sv_goes sv_goesSize sv_goesAt sv_targetParts sv_isRoot F x (by (try dsimp only); first | assumption | omega | trivial) (by (try dsimp only); first | assumption | omega | trivial)) (cwV 1 hts (lg_goodV k1849 k1851 k102 k125 kc_DiscMakerModel_isMarked) rfl rfl rfl (by decide +kernel) ⟨Nat.le_of_ble_eq_true rfl, Nat.le_of_ble_eq_true rfl⟩) ⟨fun a U g mk q => by obtain ⟨q0, q1, qP, qK, qN, qD⟩ := q; exact ⟨q0, q1, qP, va_K.moved (u := U) (U := U.calling g mk a) (Vm.Alike.refl U.vm) qK, qN.calling, qD⟩, va_recv hK hP (ci := 11) (q0 := 0) rfl rfl, fun U hU hW => ⟨rfl, by rw [hU], by rw [hU]; exact hPc, va_K.moved hW.alike hK, NN.warm hW hN, hDc.weaken (fun _ _ _ _ => trivial)⟩⟩ rfl rfl hl.1 rfl (lv_room (Nat.le_of_ble_eq_true rfl)) d_DiscMakerModel_isRecord_131 ⟨hkc, hks⟩) hS (fun q _ h => hFc q h) hFc (fun r56 u t H1 locs ht hvm hp_r56 hB hz1 hk1 hS => ?_)
                obtain ⟨hP1, hD1⟩ := hB
                rw [ht] at hP1
                obtain ⟨hP, hD⟩ := va_join (wr := []) (w1 := [(h0, .inr (11, MO ma sv_thrown sv_length sv_nodes sv_many sv_directories sv_runsFrom sv_runs sv_read sv_wrong sv_isNamed sv_goes sv_goesSize sv_goesAt sv_targetParts sv_isRoot)), ((ma 16), .inl (cJ, 46080, .inr (.inl F)))]) hP hD [0, 1] [] rfl rfl (by decide +kernel) (by decide +kernel) hk1 hFc hP1 hD1
                clear hPc hDc hFc hP1 hD1 hk1 hz1 hkc hks
                generalize H1 = H at hP hS ⊢
                have hP : va_P D CL [(h0, .inr (11, MO ma sv_thrown sv_length sv_nodes sv_many sv_directories sv_runsFrom sv_runs sv_read sv_wrong sv_isNamed sv_goes sv_goesSize sv_goesAt sv_targetParts sv_isRoot)), ((ma 16), .inl (cJ, 46080, .inr (.inl F)))] H := hP
                have hD : va_D A [(h0, .inr (11, MO ma sv_thrown sv_length sv_nodes sv_many sv_directories sv_runsFrom sv_runs sv_read sv_wrong sv_isNamed sv_goes sv_goesSize sv_goesAt sv_targetParts sv_isRoot)), ((ma 16), .inl (cJ, 46080, .inr (.inl F)))] := hD
                try dsimp only at hp_r56
                obtain ⟨hr_57, hv_58⟩ := hp_r56
                refine lv_istore hx hb d_DiscMakerModel_isRecord_134 hl (by decide) rfl (fun ls hl => ?_)
                have hl : lv_has ls 11 [(9, .int r56), (7, .long w55), (5, .long w51), (4, .int 1), (3, .int v6), (2, .int r1), (0, .ref h0), (1, .int x)] := hl
                refine lv_iload hx hb d_DiscMakerModel_isRecord_136 (lv_at hl 0 rfl) ?_
                refine lv_if_eq (tgt := 196) hx hb d_DiscMakerModel_isRecord_138 (by decide) (fun h_9 => ?_) (fun h_9 => ?_)
                · skip
                  have g138_135 : r56.toInt = 0 := (i_eq rfl (by decide)).mp h_9
                  refine lv_lload hx hb d_DiscMakerModel_isRecord_196 (lv_at hl 1 rfl) ?_
                  refine lv_lconst (v := 0) hx hb d_DiscMakerModel_isRecord_198 rfl ?_
                  refine W.lcmp hx hb d_DiscMakerModel_isRecord_199 ?_
                  refine lv_topi (fun v59 e_v59 => ?_)
                  have t_v59 : (v59.toInt = 1 ∧ 0 < w55.toInt) ∨ (v59.toInt = 0 ∧ w55.toInt = 0) ∨ (v59.toInt = -1 ∧ w55.toInt < 0) := by rw [e_v59]; exact l_cmp rfl (by decide)
                  refine lv_if_eq (tgt := 239) hx hb d_DiscMakerModel_isRecord_200 (by decide) (fun h_9 => ?_) (fun h_9 => ?_)
                  · skip
                    have g200_139 : v59.toInt = 0 := (i_eq rfl (by decide)).mp h_9
                    refine lv_iconst (v := 1) hx hb d_DiscMakerModel_isRecord_239 (by decide) ?_
                    refine lv_goto (tgt := 244) hx hb d_DiscMakerModel_isRecord_240 (by decide) ?_
                    refine lv_istore hx hb d_DiscMakerModel_isRecord_244 hl (by decide) rfl (fun ls hl => ?_)
                    have hl : lv_has ls 11 [(10, .int 1), (9, .int r56), (7, .long w55), (5, .long w51), (4, .int 1), (3, .int v6), (2, .int r1), (0, .ref h0), (1, .int x)] := hl
                    refine lv_iload hx hb d_DiscMakerModel_isRecord_246 (lv_at hl 0 rfl) ?_
                    refine lv_if_ne (tgt := 259) hx hb d_DiscMakerModel_isRecord_248 (by decide) (fun _ => ?_) (fun h_9 => absurd h_9 (by decide))
                    refine lv_iconst (v := 1) hx hb d_DiscMakerModel_isRecord_259 (by decide) ?_
                    refine lv_goto (tgt := 264) hx hb d_DiscMakerModel_isRecord_260 (by decide) ?_
                    have hP9 := hP.sub (ws' := [(h0, .inr (11, MO ma sv_thrown sv_length sv_nodes sv_many sv_directories sv_runsFrom sv_runs sv_read sv_wrong sv_isNamed sv_goes sv_goesSize sv_goesAt sv_targetParts sv_isRoot)), ((ma 16), .inl (cJ, 46080, .inr (.inl F)))]) [0, 1] rfl
                    have hD9 := hD.sub (ws' := [(h0, .inr (11, MO ma sv_thrown sv_length sv_nodes sv_many sv_directories sv_runsFrom sv_runs sv_read sv_wrong sv_isNamed sv_goes sv_goesSize sv_goesAt sv_targetParts sv_isRoot)), ((ma 16), .inl (cJ, 46080, .inr (.inl F)))]) [0, 1] (by decide +kernel) rfl
                    exact W.zret (v := 1) hx hb hr (by first | rfl | decide | exact i_narZ (by omega)) (fun t ht hW => ⟨⟨1, sv_wrong, rfl, ⟨(by (try dsimp only); first | assumption | omega | trivial), (by (try dsimp only); intro h7; first | (exfalso; omega) | (subst_vars; unfold RecOK; omega))⟩, by rw [ht]; exact hP9, hD9⟩, hS.F ht⟩) hS.2.2 d_DiscMakerModel_isRecord_264
                  · skip
                    have g200_139 : ¬ v59.toInt = 0 := fun h8 => h_9 ((i_eq rfl (by decide)).mpr h8)
                    refine lv_lload hx hb d_DiscMakerModel_isRecord_203 (lv_at hl 1 rfl) ?_
                    refine lv_lconst (v := 0) hx hb d_DiscMakerModel_isRecord_205 rfl ?_
                    refine W.lcmp hx hb d_DiscMakerModel_isRecord_206 ?_
                    refine lv_topi (fun v60 e_v60 => ?_)
                    have t_v60 : (v60.toInt = 1 ∧ 0 < w55.toInt) ∨ (v60.toInt = 0 ∧ w55.toInt = 0) ∨ (v60.toInt = -1 ∧ w55.toInt < 0) := by rw [e_v60]; exact l_cmp rfl (by decide)
                    refine lv_if_le (tgt := 243) hx hb d_DiscMakerModel_isRecord_207 (by decide) (fun h_9 => ?_) (fun h_9 => ?_)
                    · skip
                      have g207_151 : v60.toInt ≤ 0 := (i_le rfl (by decide)).mp h_9
                      refine lv_iconst (v := 0) hx hb d_DiscMakerModel_isRecord_243 (by decide) ?_
                      refine lv_istore hx hb d_DiscMakerModel_isRecord_244 hl (by decide) rfl (fun ls hl => ?_)
                      have hl : lv_has ls 11 [(10, .int 0), (9, .int r56), (7, .long w55), (5, .long w51), (4, .int 1), (3, .int v6), (2, .int r1), (0, .ref h0), (1, .int x)] := hl
                      refine lv_iload hx hb d_DiscMakerModel_isRecord_246 (lv_at hl 0 rfl) ?_
                      refine lv_if_ne (tgt := 259) hx hb d_DiscMakerModel_isRecord_248 (by decide) (fun h_9 => absurd (by decide) h_9) (fun _ => ?_)
                      refine lv_aload_n hx hb d_DiscMakerModel_isRecord_251 rfl (lv_at hl 7 rfl) ?_
                      refine lv_iload_n hx hb d_DiscMakerModel_isRecord_252 rfl (lv_at hl 8 rfl) ?_
                      have hPc := hP.sub (ws' := [(h0, .inr (11, MO ma sv_thrown sv_length sv_nodes sv_many sv_directories sv_runsFrom sv_runs sv_read sv_wrong sv_isNamed sv_goes sv_goesSize sv_goesAt sv_targetParts sv_isRoot))]) [0] rfl
                      have hDc := hD.sub (ws' := [(h0, .inr (11, MO ma sv_thrown sv_length sv_nodes sv_many sv_directories sv_runsFrom sv_runs sv_read sv_wrong sv_isNamed sv_goes sv_goesSize sv_goesAt sv_targetParts sv_isRoot))]) [0] (by decide +kernel) rfl
                      have hFc := va_free (wc := [(h0, .inr (11, MO ma sv_thrown sv_length sv_nodes sv_many sv_directories sv_runsFrom sv_runs sv_read sv_wrong sv_isNamed sv_goes sv_goesSize sv_goesAt sv_targetParts sv_isRoot))]) hD hS hA [0] rfl
                      have hkc : 0 ≤ 0 := by decide
                      have hks : 0 ≤ 0 := by decide
                      refine va_calli (va_runV (C := "DiscMakerModel") (As := [.int x]) (rest := []) ⟨hx, hb, hml, hown, hts⟩ (m_isWrong l D cB cI cJ cZ cN cF H.size h0 ma sv_thrown sv_length sv_nodes sv_many sv_directories sv_runsFrom sv_runs sv_read sv_wrong sv_isNamed sv_goes sv_goesSize sv_goesAt sv_targetParts sv_isRoot x) (cwV 1 hts (lg_goodV k1833 k1835 k98 k125 kc_DiscMakerModel_isWrong) rfl rfl rfl (by decide +kernel) ⟨Nat.le_of_ble_eq_true rfl, Nat.le_of_ble_eq_true rfl⟩) ⟨fun a U g mk q => by obtain ⟨q0, q1, qP, qK, qN, qD⟩ := q; exact ⟨q0, q1, qP, va_K.moved (u := U) (U := U.calling g mk a) (Vm.Alike.refl U.vm) qK, qN.calling, qD⟩, va_recv hK hP (ci := 11) (q0 := 0) rfl rfl, fun U hU hW => ⟨rfl, by rw [hU], by rw [hU]; exact hPc, va_K.moved hW.alike hK, NN.warm hW hN, hDc.weaken (fun _ _ _ _ => trivial)⟩⟩ rfl rfl hl.1 rfl (lv_room (Nat.le_of_ble_eq_true rfl)) d_DiscMakerModel_isRecord_253 ⟨hkc, hks⟩) hS (fun q _ h => hFc q h) hFc (fun r61 u t H1 locs ht hvm hp_r61 hB hz1 hk1 hS => ?_)
                      obtain ⟨wr_62, rfl⟩ : ∃ z, z = u := ⟨_, rfl⟩
                      obtain ⟨hP1, hD1⟩ := hB
                      rw [ht] at hP1
                      obtain ⟨hP, hD⟩ := va_join (wr := [((ma 16), .inl (cJ, 46080, .inr (.inl F)))]) (w1 := [(h0, .inr (11, MO ma sv_thrown sv_length sv_nodes sv_many sv_directories sv_runsFrom sv_runs sv_read wr_62 sv_isNamed sv_goes sv_goesSize sv_goesAt sv_targetParts sv_isRoot))]) hP hD [0] [1] rfl rfl (by decide +kernel) (by decide +kernel) hk1 hFc hP1 hD1
                      clear hPc hDc hFc hP1 hD1 hk1 hz1 hkc hks
                      generalize H1 = H at hP hS ⊢
                      have hP : va_P D CL [((ma 16), .inl (cJ, 46080, .inr (.inl F))), (h0, .inr (11, MO ma sv_thrown sv_length sv_nodes sv_many sv_directories sv_runsFrom sv_runs sv_read wr_62 sv_isNamed sv_goes sv_goesSize sv_goesAt sv_targetParts sv_isRoot))] H := hP
                      have hD : va_D A [((ma 16), .inl (cJ, 46080, .inr (.inl F))), (h0, .inr (11, MO ma sv_thrown sv_length sv_nodes sv_many sv_directories sv_runsFrom sv_runs sv_read wr_62 sv_isNamed sv_goes sv_goesSize sv_goesAt sv_targetParts sv_isRoot))] := hD
                      try dsimp only at hp_r61
                      have hr_63 := hp_r61
                      refine lv_if_eq (tgt := 263) hx hb d_DiscMakerModel_isRecord_256 (by decide) (fun h_9 => ?_) (fun h_9 => ?_)
                      · skip
                        have g256_159 : r61.toInt = 0 := (i_eq rfl (by decide)).mp h_9
                        refine lv_iconst (v := 0) hx hb d_DiscMakerModel_isRecord_263 (by decide) ?_
                        have hP9 := hP.sub (ws' := [(h0, .inr (11, MO ma sv_thrown sv_length sv_nodes sv_many sv_directories sv_runsFrom sv_runs sv_read wr_62 sv_isNamed sv_goes sv_goesSize sv_goesAt sv_targetParts sv_isRoot)), ((ma 16), .inl (cJ, 46080, .inr (.inl F)))]) [1, 0] rfl
                        have hD9 := hD.sub (ws' := [(h0, .inr (11, MO ma sv_thrown sv_length sv_nodes sv_many sv_directories sv_runsFrom sv_runs sv_read wr_62 sv_isNamed sv_goes sv_goesSize sv_goesAt sv_targetParts sv_isRoot)), ((ma 16), .inl (cJ, 46080, .inr (.inl F)))]) [1, 0] (by decide +kernel) rfl
                        exact W.zret (v := 0) hx hb hr (by first | rfl | decide | exact i_narZ (by omega)) (fun t ht hW => ⟨⟨0, wr_62, rfl, ⟨(by (try dsimp only); first | assumption | omega | trivial), (by (try dsimp only); intro h7; first | (exfalso; omega) | (subst_vars; unfold RecOK; omega))⟩, by rw [ht]; exact hP9, hD9⟩, hS.F ht⟩) hS.2.2 d_DiscMakerModel_isRecord_264
                      · skip
                        have g256_159 : ¬ r61.toInt = 0 := fun h8 => h_9 ((i_eq rfl (by decide)).mpr h8)
                        refine lv_iconst (v := 1) hx hb d_DiscMakerModel_isRecord_259 (by decide) ?_
                        refine lv_goto (tgt := 264) hx hb d_DiscMakerModel_isRecord_260 (by decide) ?_
                        have hP9 := hP.sub (ws' := [(h0, .inr (11, MO ma sv_thrown sv_length sv_nodes sv_many sv_directories sv_runsFrom sv_runs sv_read wr_62 sv_isNamed sv_goes sv_goesSize sv_goesAt sv_targetParts sv_isRoot)), ((ma 16), .inl (cJ, 46080, .inr (.inl F)))]) [1, 0] rfl
                        have hD9 := hD.sub (ws' := [(h0, .inr (11, MO ma sv_thrown sv_length sv_nodes sv_many sv_directories sv_runsFrom sv_runs sv_read wr_62 sv_isNamed sv_goes sv_goesSize sv_goesAt sv_targetParts sv_isRoot)), ((ma 16), .inl (cJ, 46080, .inr (.inl F)))]) [1, 0] (by decide +kernel) rfl
                        exact W.zret (v := 1) hx hb hr (by first | rfl | decide | exact i_narZ (by omega)) (fun t ht hW => ⟨⟨1, wr_62, rfl, ⟨(by (try dsimp only); first | assumption | omega | trivial), (by (try dsimp only); intro h7; first | (exfalso; omega) | (subst_vars; unfold RecOK; omega))⟩, by rw [ht]; exact hP9, hD9⟩, hS.F ht⟩) hS.2.2 d_DiscMakerModel_isRecord_264
                    · skip
                      have g207_151 : ¬ v60.toInt ≤ 0 := fun h8 => h_9 ((i_le rfl (by decide)).mpr h8)
                      refine lv_lload hx hb d_DiscMakerModel_isRecord_210 (lv_at hl 2 rfl) ?_
                      refine lv_lconst (v := 0) hx hb d_DiscMakerModel_isRecord_212 rfl ?_
                      refine W.lcmp hx hb d_DiscMakerModel_isRecord_213 ?_
                      refine lv_topi (fun v64 e_v64 => ?_)
                      have t_v64 : (v64.toInt = 1 ∧ 0 < w51.toInt) ∨ (v64.toInt = 0 ∧ w51.toInt = 0) ∨ (v64.toInt = -1 ∧ w51.toInt < 0) := by rw [e_v64]; exact l_cmp rfl (by decide)
                      refine lv_if_lt (tgt := 243) hx hb d_DiscMakerModel_isRecord_214 (by decide) (fun h_9 => ?_) (fun h_9 => ?_)
                      · skip
                        have g214_168 : v64.toInt < 0 := (i_lt rfl (by decide)).mp h_9
                        refine lv_iconst (v := 0) hx hb d_DiscMakerModel_isRecord_243 (by decide) ?_
                        refine lv_istore hx hb d_DiscMakerModel_isRecord_244 hl (by decide) rfl (fun ls hl => ?_)
                        have hl : lv_has ls 11 [(10, .int 0), (9, .int r56), (7, .long w55), (5, .long w51), (4, .int 1), (3, .int v6), (2, .int r1), (0, .ref h0), (1, .int x)] := hl
                        refine lv_iload hx hb d_DiscMakerModel_isRecord_246 (lv_at hl 0 rfl) ?_
                        refine lv_if_ne (tgt := 259) hx hb d_DiscMakerModel_isRecord_248 (by decide) (fun h_9 => absurd (by decide) h_9) (fun _ => ?_)
                        refine lv_aload_n hx hb d_DiscMakerModel_isRecord_251 rfl (lv_at hl 7 rfl) ?_
                        refine lv_iload_n hx hb d_DiscMakerModel_isRecord_252 rfl (lv_at hl 8 rfl) ?_
                        have hPc := hP.sub (ws' := [(h0, .inr (11, MO ma sv_thrown sv_length sv_nodes sv_many sv_directories sv_runsFrom sv_runs sv_read sv_wrong sv_isNamed sv_goes sv_goesSize sv_goesAt sv_targetParts sv_isRoot))]) [0] rfl
                        have hDc := hD.sub (ws' := [(h0, .inr (11, MO ma sv_thrown sv_length sv_nodes sv_many sv_directories sv_runsFrom sv_runs sv_read sv_wrong sv_isNamed sv_goes sv_goesSize sv_goesAt sv_targetParts sv_isRoot))]) [0] (by decide +kernel) rfl
                        have hFc := va_free (wc := [(h0, .inr (11, MO ma sv_thrown sv_length sv_nodes sv_many sv_directories sv_runsFrom sv_runs sv_read sv_wrong sv_isNamed sv_goes sv_goesSize sv_goesAt sv_targetParts sv_isRoot))]) hD hS hA [0] rfl
                        have hkc : 0 ≤ 0 := by decide
                        have hks : 0 ≤ 0 := by decide
                        refine va_calli (va_runV (C := "DiscMakerModel") (As := [.int x]) (rest := []) ⟨hx, hb, hml, hown, hts⟩ (m_isWrong l D cB cI cJ cZ cN cF H.size h0 ma sv_thrown sv_length sv_nodes sv_many sv_directories sv_runsFrom sv_runs sv_read sv_wrong sv_isNamed sv_goes sv_goesSize sv_goesAt sv_targetParts sv_isRoot x) (cwV 1 hts (lg_goodV k1833 k1835 k98 k125 kc_DiscMakerModel_isWrong) rfl rfl rfl (by decide +kernel) ⟨Nat.le_of_ble_eq_true rfl, Nat.le_of_ble_eq_true rfl⟩) ⟨fun a U g mk q => by obtain ⟨q0, q1, qP, qK, qN, qD⟩ := q; exact ⟨q0, q1, qP, va_K.moved (u := U) (U := U.calling g mk a) (Vm.Alike.refl U.vm) qK, qN.calling, qD⟩, va_recv hK hP (ci := 11) (q0 := 0) rfl rfl, fun U hU hW => ⟨rfl, by rw [hU], by rw [hU]; exact hPc, va_K.moved hW.alike hK, NN.warm hW hN, hDc.weaken (fun _ _ _ _ => trivial)⟩⟩ rfl rfl hl.1 rfl (lv_room (Nat.le_of_ble_eq_true rfl)) d_DiscMakerModel_isRecord_253 ⟨hkc, hks⟩) hS (fun q _ h => hFc q h) hFc (fun r65 u t H1 locs ht hvm hp_r65 hB hz1 hk1 hS => ?_)
                        obtain ⟨wr_66, rfl⟩ : ∃ z, z = u := ⟨_, rfl⟩
                        obtain ⟨hP1, hD1⟩ := hB
                        rw [ht] at hP1
                        obtain ⟨hP, hD⟩ := va_join (wr := [((ma 16), .inl (cJ, 46080, .inr (.inl F)))]) (w1 := [(h0, .inr (11, MO ma sv_thrown sv_length sv_nodes sv_many sv_directories sv_runsFrom sv_runs sv_read wr_66 sv_isNamed sv_goes sv_goesSize sv_goesAt sv_targetParts sv_isRoot))]) hP hD [0] [1] rfl rfl (by decide +kernel) (by decide +kernel) hk1 hFc hP1 hD1
                        clear hPc hDc hFc hP1 hD1 hk1 hz1 hkc hks
                        generalize H1 = H at hP hS ⊢
                        have hP : va_P D CL [((ma 16), .inl (cJ, 46080, .inr (.inl F))), (h0, .inr (11, MO ma sv_thrown sv_length sv_nodes sv_many sv_directories sv_runsFrom sv_runs sv_read wr_66 sv_isNamed sv_goes sv_goesSize sv_goesAt sv_targetParts sv_isRoot))] H := hP
                        have hD : va_D A [((ma 16), .inl (cJ, 46080, .inr (.inl F))), (h0, .inr (11, MO ma sv_thrown sv_length sv_nodes sv_many sv_directories sv_runsFrom sv_runs sv_read wr_66 sv_isNamed sv_goes sv_goesSize sv_goesAt sv_targetParts sv_isRoot))] := hD
                        try dsimp only at hp_r65
                        have hr_67 := hp_r65
                        refine lv_if_eq (tgt := 263) hx hb d_DiscMakerModel_isRecord_256 (by decide) (fun h_9 => ?_) (fun h_9 => ?_)
                        · skip
                          have g256_176 : r65.toInt = 0 := (i_eq rfl (by decide)).mp h_9
                          refine lv_iconst (v := 0) hx hb d_DiscMakerModel_isRecord_263 (by decide) ?_
                          have hP9 := hP.sub (ws' := [(h0, .inr (11, MO ma sv_thrown sv_length sv_nodes sv_many sv_directories sv_runsFrom sv_runs sv_read wr_66 sv_isNamed sv_goes sv_goesSize sv_goesAt sv_targetParts sv_isRoot)), ((ma 16), .inl (cJ, 46080, .inr (.inl F)))]) [1, 0] rfl
                          have hD9 := hD.sub (ws' := [(h0, .inr (11, MO ma sv_thrown sv_length sv_nodes sv_many sv_directories sv_runsFrom sv_runs sv_read wr_66 sv_isNamed sv_goes sv_goesSize sv_goesAt sv_targetParts sv_isRoot)), ((ma 16), .inl (cJ, 46080, .inr (.inl F)))]) [1, 0] (by decide +kernel) rfl
                          exact W.zret (v := 0) hx hb hr (by first | rfl | decide | exact i_narZ (by omega)) (fun t ht hW => ⟨⟨0, wr_66, rfl, ⟨(by (try dsimp only); first | assumption | omega | trivial), (by (try dsimp only); intro h7; first | (exfalso; omega) | (subst_vars; unfold RecOK; omega))⟩, by rw [ht]; exact hP9, hD9⟩, hS.F ht⟩) hS.2.2 d_DiscMakerModel_isRecord_264
                        · skip
                          have g256_176 : ¬ r65.toInt = 0 := fun h8 => h_9 ((i_eq rfl (by decide)).mpr h8)
                          refine lv_iconst (v := 1) hx hb d_DiscMakerModel_isRecord_259 (by decide) ?_
                          refine lv_goto (tgt := 264) hx hb d_DiscMakerModel_isRecord_260 (by decide) ?_
                          have hP9 := hP.sub (ws' := [(h0, .inr (11, MO ma sv_thrown sv_length sv_nodes sv_many sv_directories sv_runsFrom sv_runs sv_read wr_66 sv_isNamed sv_goes sv_goesSize sv_goesAt sv_targetParts sv_isRoot)), ((ma 16), .inl (cJ, 46080, .inr (.inl F)))]) [1, 0] rfl
                          have hD9 := hD.sub (ws' := [(h0, .inr (11, MO ma sv_thrown sv_length sv_nodes sv_many sv_directories sv_runsFrom sv_runs sv_read wr_66 sv_isNamed sv_goes sv_goesSize sv_goesAt sv_targetParts sv_isRoot)), ((ma 16), .inl (cJ, 46080, .inr (.inl F)))]) [1, 0] (by decide +kernel) rfl
                          exact W.zret (v := 1) hx hb hr (by first | rfl | decide | exact i_narZ (by omega)) (fun t ht hW => ⟨⟨1, wr_66, rfl, ⟨(by (try dsimp only); first | assumption | omega | trivial), (by (try dsimp only); intro h7; first | (exfalso; omega) | (subst_vars; unfold RecOK; omega))⟩, by rw [ht]; exact hP9, hD9⟩, hS.F ht⟩) hS.2.2 d_DiscMakerModel_isRecord_264
                      · skip
                        have g214_168 : ¬ v64.toInt < 0 := fun h8 => h_9 ((i_lt rfl (by decide)).mpr h8)
                        refine lv_lload hx hb d_DiscMakerModel_isRecord_217 (lv_at hl 2 rfl) ?_
                        refine lv_ldc2 (v := 2048) hx hb hown (ht9 _ k1853) d_DiscMakerModel_isRecord_219 ?_
                        refine lv_lmul hx hb d_DiscMakerModel_isRecord_222 ?_
                        refine lv_topl (fun w68 e_w68 => ?_)
                        have t_w68 : w68.toInt = w51.toInt * 2048 := by rw [e_w68]; exact l_mul rfl (by decide) (by omega) (by omega)
                        refine lv_lload hx hb d_DiscMakerModel_isRecord_223 (lv_at hl 1 rfl) ?_
                        refine lv_ladd hx hb d_DiscMakerModel_isRecord_225 ?_
                        refine lv_topl (fun w69 e_w69 => ?_)
                        have t_w69 : w69.toInt = w68.toInt + w55.toInt := by rw [e_w69]; exact l_add rfl rfl (by omega) (by omega)
                        refine lv_ldc2 (v := 2048) hx hb hown (ht9 _ k1853) d_DiscMakerModel_isRecord_226 ?_
                        refine lv_aload_n hx hb d_DiscMakerModel_isRecord_229 rfl (lv_at hl 6 rfl) ?_
                        refine va_get (D := D) (ci := 11) (v := .int sv_many) (C := "DiscMakerModel") (T := F_DiscMakerModel) (N := 48) hx hb ht9 in_DiscMakerModel hown hK hP 0 rfl rfl 20 (by decide) (ht9 _ k1451) (fun _ h9 => h9) rfl d_DiscMakerModel_isRecord_230 ?_
                        refine lv_i2l hx hb d_DiscMakerModel_isRecord_233 rfl ?_
                        refine lv_topl (fun w70 e_w70 => ?_)
                        have t_w70 : w70.toInt = sv_many.toInt ∧ (-2147483648) ≤ sv_many.toInt ∧ sv_many.toInt ≤ 2147483647 := by rw [e_w70]; exact ⟨l_i rfl, i_rng _⟩
                        refine lv_lmul hx hb d_DiscMakerModel_isRecord_234 ?_
                        refine lv_topl (fun w71 e_w71 => ?_)
                        have t_w71 : w71.toInt = 2048 * w70.toInt := by rw [e_w71]; exact l_mul (by decide) rfl (by omega) (by omega)
                        refine W.lcmp hx hb d_DiscMakerModel_isRecord_235 ?_
                        refine lv_topi (fun v72 e_v72 => ?_)
                        have t_v72 : (v72.toInt = 1 ∧ w71.toInt < w69.toInt) ∨ (v72.toInt = 0 ∧ w69.toInt = w71.toInt) ∨ (v72.toInt = -1 ∧ w69.toInt < w71.toInt) := by rw [e_v72]; exact l_cmp rfl rfl
                        refine lv_if_gt (tgt := 243) hx hb d_DiscMakerModel_isRecord_236 (by decide) (fun h_9 => ?_) (fun h_9 => ?_)
                        · skip
                          have g236_193 : 0 < v72.toInt := (i_lt (by decide) rfl).mp h_9
                          refine lv_iconst (v := 0) hx hb d_DiscMakerModel_isRecord_243 (by decide) ?_
                          refine lv_istore hx hb d_DiscMakerModel_isRecord_244 hl (by decide) rfl (fun ls hl => ?_)
                          have hl : lv_has ls 11 [(10, .int 0), (9, .int r56), (7, .long w55), (5, .long w51), (4, .int 1), (3, .int v6), (2, .int r1), (0, .ref h0), (1, .int x)] := hl
                          refine lv_iload hx hb d_DiscMakerModel_isRecord_246 (lv_at hl 0 rfl) ?_
                          refine lv_if_ne (tgt := 259) hx hb d_DiscMakerModel_isRecord_248 (by decide) (fun h_9 => absurd (by decide) h_9) (fun _ => ?_)
                          refine lv_aload_n hx hb d_DiscMakerModel_isRecord_251 rfl (lv_at hl 7 rfl) ?_
                          refine lv_iload_n hx hb d_DiscMakerModel_isRecord_252 rfl (lv_at hl 8 rfl) ?_
                          have hPc := hP.sub (ws' := [(h0, .inr (11, MO ma sv_thrown sv_length sv_nodes sv_many sv_directories sv_runsFrom sv_runs sv_read sv_wrong sv_isNamed sv_goes sv_goesSize sv_goesAt sv_targetParts sv_isRoot))]) [0] rfl
                          have hDc := hD.sub (ws' := [(h0, .inr (11, MO ma sv_thrown sv_length sv_nodes sv_many sv_directories sv_runsFrom sv_runs sv_read sv_wrong sv_isNamed sv_goes sv_goesSize sv_goesAt sv_targetParts sv_isRoot))]) [0] (by decide +kernel) rfl
                          have hFc := va_free (wc := [(h0, .inr (11, MO ma sv_thrown sv_length sv_nodes sv_many sv_directories sv_runsFrom sv_runs sv_read sv_wrong sv_isNamed sv_goes sv_goesSize sv_goesAt sv_targetParts sv_isRoot))]) hD hS hA [0] rfl
                          have hkc : 0 ≤ 0 := by decide
                          have hks : 0 ≤ 0 := by decide
                          refine va_calli (va_runV (C := "DiscMakerModel") (As := [.int x]) (rest := []) ⟨hx, hb, hml, hown, hts⟩ (m_isWrong l D cB cI cJ cZ cN cF H.size h0 ma sv_thrown sv_length sv_nodes sv_many sv_directories sv_runsFrom sv_runs sv_read sv_wrong sv_isNamed sv_goes sv_goesSize sv_goesAt sv_targetParts sv_isRoot x) (cwV 1 hts (lg_goodV k1833 k1835 k98 k125 kc_DiscMakerModel_isWrong) rfl rfl rfl (by decide +kernel) ⟨Nat.le_of_ble_eq_true rfl, Nat.le_of_ble_eq_true rfl⟩) ⟨fun a U g mk q => by obtain ⟨q0, q1, qP, qK, qN, qD⟩ := q; exact ⟨q0, q1, qP, va_K.moved (u := U) (U := U.calling g mk a) (Vm.Alike.refl U.vm) qK, qN.calling, qD⟩, va_recv hK hP (ci := 11) (q0 := 0) rfl rfl, fun U hU hW => ⟨rfl, by rw [hU], by rw [hU]; exact hPc, va_K.moved hW.alike hK, NN.warm hW hN, hDc.weaken (fun _ _ _ _ => trivial)⟩⟩ rfl rfl hl.1 rfl (lv_room (Nat.le_of_ble_eq_true rfl)) d_DiscMakerModel_isRecord_253 ⟨hkc, hks⟩) hS (fun q _ h => hFc q h) hFc (fun r73 u t H1 locs ht hvm hp_r73 hB hz1 hk1 hS => ?_)
                          obtain ⟨wr_74, rfl⟩ : ∃ z, z = u := ⟨_, rfl⟩
                          obtain ⟨hP1, hD1⟩ := hB
                          rw [ht] at hP1
                          obtain ⟨hP, hD⟩ := va_join (wr := [((ma 16), .inl (cJ, 46080, .inr (.inl F)))]) (w1 := [(h0, .inr (11, MO ma sv_thrown sv_length sv_nodes sv_many sv_directories sv_runsFrom sv_runs sv_read wr_74 sv_isNamed sv_goes sv_goesSize sv_goesAt sv_targetParts sv_isRoot))]) hP hD [0] [1] rfl rfl (by decide +kernel) (by decide +kernel) hk1 hFc hP1 hD1
                          clear hPc hDc hFc hP1 hD1 hk1 hz1 hkc hks
                          generalize H1 = H at hP hS ⊢
                          have hP : va_P D CL [((ma 16), .inl (cJ, 46080, .inr (.inl F))), (h0, .inr (11, MO ma sv_thrown sv_length sv_nodes sv_many sv_directories sv_runsFrom sv_runs sv_read wr_74 sv_isNamed sv_goes sv_goesSize sv_goesAt sv_targetParts sv_isRoot))] H := hP
                          have hD : va_D A [((ma 16), .inl (cJ, 46080, .inr (.inl F))), (h0, .inr (11, MO ma sv_thrown sv_length sv_nodes sv_many sv_directories sv_runsFrom sv_runs sv_read wr_74 sv_isNamed sv_goes sv_goesSize sv_goesAt sv_targetParts sv_isRoot))] := hD
                          try dsimp only at hp_r73
                          have hr_75 := hp_r73
                          refine lv_if_eq (tgt := 263) hx hb d_DiscMakerModel_isRecord_256 (by decide) (fun h_9 => ?_) (fun h_9 => ?_)
                          · skip
                            have g256_201 : r73.toInt = 0 := (i_eq rfl (by decide)).mp h_9
                            refine lv_iconst (v := 0) hx hb d_DiscMakerModel_isRecord_263 (by decide) ?_
                            have hP9 := hP.sub (ws' := [(h0, .inr (11, MO ma sv_thrown sv_length sv_nodes sv_many sv_directories sv_runsFrom sv_runs sv_read wr_74 sv_isNamed sv_goes sv_goesSize sv_goesAt sv_targetParts sv_isRoot)), ((ma 16), .inl (cJ, 46080, .inr (.inl F)))]) [1, 0] rfl
                            have hD9 := hD.sub (ws' := [(h0, .inr (11, MO ma sv_thrown sv_length sv_nodes sv_many sv_directories sv_runsFrom sv_runs sv_read wr_74 sv_isNamed sv_goes sv_goesSize sv_goesAt sv_targetParts sv_isRoot)), ((ma 16), .inl (cJ, 46080, .inr (.inl F)))]) [1, 0] (by decide +kernel) rfl
                            exact W.zret (v := 0) hx hb hr (by first | rfl | decide | exact i_narZ (by omega)) (fun t ht hW => ⟨⟨0, wr_74, rfl, ⟨(by (try dsimp only); first | assumption | omega | trivial), (by (try dsimp only); intro h7; first | (exfalso; omega) | (subst_vars; unfold RecOK; omega))⟩, by rw [ht]; exact hP9, hD9⟩, hS.F ht⟩) hS.2.2 d_DiscMakerModel_isRecord_264
                          · skip
                            have g256_201 : ¬ r73.toInt = 0 := fun h8 => h_9 ((i_eq rfl (by decide)).mpr h8)
                            refine lv_iconst (v := 1) hx hb d_DiscMakerModel_isRecord_259 (by decide) ?_
                            refine lv_goto (tgt := 264) hx hb d_DiscMakerModel_isRecord_260 (by decide) ?_
                            have hP9 := hP.sub (ws' := [(h0, .inr (11, MO ma sv_thrown sv_length sv_nodes sv_many sv_directories sv_runsFrom sv_runs sv_read wr_74 sv_isNamed sv_goes sv_goesSize sv_goesAt sv_targetParts sv_isRoot)), ((ma 16), .inl (cJ, 46080, .inr (.inl F)))]) [1, 0] rfl
                            have hD9 := hD.sub (ws' := [(h0, .inr (11, MO ma sv_thrown sv_length sv_nodes sv_many sv_directories sv_runsFrom sv_runs sv_read wr_74 sv_isNamed sv_goes sv_goesSize sv_goesAt sv_targetParts sv_isRoot)), ((ma 16), .inl (cJ, 46080, .inr (.inl F)))]) [1, 0] (by decide +kernel) rfl
                            exact W.zret (v := 1) hx hb hr (by first | rfl | decide | exact i_narZ (by omega)) (fun t ht hW => ⟨⟨1, wr_74, rfl, ⟨(by (try dsimp only); first | assumption | omega | trivial), (by (try dsimp only); intro h7; first | (exfalso; omega) | (subst_vars; unfold RecOK; omega))⟩, by rw [ht]; exact hP9, hD9⟩, hS.F ht⟩) hS.2.2 d_DiscMakerModel_isRecord_264
                        · skip
                          have g236_193 : ¬ 0 < v72.toInt := fun h8 => h_9 ((i_lt (by decide) rfl).mpr h8)
                          refine lv_iconst (v := 1) hx hb d_DiscMakerModel_isRecord_239 (by decide) ?_
                          refine lv_goto (tgt := 244) hx hb d_DiscMakerModel_isRecord_240 (by decide) ?_
                          refine lv_istore hx hb d_DiscMakerModel_isRecord_244 hl (by decide) rfl (fun ls hl => ?_)
                          have hl : lv_has ls 11 [(10, .int 1), (9, .int r56), (7, .long w55), (5, .long w51), (4, .int 1), (3, .int v6), (2, .int r1), (0, .ref h0), (1, .int x)] := hl
                          refine lv_iload hx hb d_DiscMakerModel_isRecord_246 (lv_at hl 0 rfl) ?_
                          refine lv_if_ne (tgt := 259) hx hb d_DiscMakerModel_isRecord_248 (by decide) (fun _ => ?_) (fun h_9 => absurd h_9 (by decide))
                          refine lv_iconst (v := 1) hx hb d_DiscMakerModel_isRecord_259 (by decide) ?_
                          refine lv_goto (tgt := 264) hx hb d_DiscMakerModel_isRecord_260 (by decide) ?_
                          have hP9 := hP.sub (ws' := [(h0, .inr (11, MO ma sv_thrown sv_length sv_nodes sv_many sv_directories sv_runsFrom sv_runs sv_read sv_wrong sv_isNamed sv_goes sv_goesSize sv_goesAt sv_targetParts sv_isRoot)), ((ma 16), .inl (cJ, 46080, .inr (.inl F)))]) [0, 1] rfl
                          have hD9 := hD.sub (ws' := [(h0, .inr (11, MO ma sv_thrown sv_length sv_nodes sv_many sv_directories sv_runsFrom sv_runs sv_read sv_wrong sv_isNamed sv_goes sv_goesSize sv_goesAt sv_targetParts sv_isRoot)), ((ma 16), .inl (cJ, 46080, .inr (.inl F)))]) [0, 1] (by decide +kernel) rfl
                          exact W.zret (v := 1) hx hb hr (by first | rfl | decide | exact i_narZ (by omega)) (fun t ht hW => ⟨⟨1, sv_wrong, rfl, ⟨(by (try dsimp only); first | assumption | omega | trivial), (by (try dsimp only); intro h7; first | (exfalso; omega) | (subst_vars; unfold RecOK; omega))⟩, by rw [ht]; exact hP9, hD9⟩, hS.F ht⟩) hS.2.2 d_DiscMakerModel_isRecord_264
                · skip
                  have g138_135 : ¬ r56.toInt = 0 := fun h8 => h_9 ((i_eq rfl (by decide)).mpr h8)
                  refine lv_lload hx hb d_DiscMakerModel_isRecord_141 (lv_at hl 1 rfl) ?_
                  refine lv_lconst (v := 0) hx hb d_DiscMakerModel_isRecord_143 rfl ?_
                  refine W.lcmp hx hb d_DiscMakerModel_isRecord_144 ?_
                  refine lv_topi (fun v76 e_v76 => ?_)
                  have t_v76 : (v76.toInt = 1 ∧ 0 < w55.toInt) ∨ (v76.toInt = 0 ∧ w55.toInt = 0) ∨ (v76.toInt = -1 ∧ w55.toInt < 0) := by rw [e_v76]; exact l_cmp rfl (by decide)
                  refine lv_if_le (tgt := 192) hx hb d_DiscMakerModel_isRecord_145 (by decide) (fun h_9 => ?_) (fun h_9 => ?_)
                  · skip
                    have g145_218 : v76.toInt ≤ 0 := (i_le rfl (by decide)).mp h_9
                    refine lv_iconst (v := 0) hx hb d_DiscMakerModel_isRecord_192 (by decide) ?_
                    refine lv_goto (tgt := 244) hx hb d_DiscMakerModel_isRecord_193 (by decide) ?_
                    refine lv_istore hx hb d_DiscMakerModel_isRecord_244 hl (by decide) rfl (fun ls hl => ?_)
                    have hl : lv_has ls 11 [(10, .int 0), (9, .int r56), (7, .long w55), (5, .long w51), (4, .int 1), (3, .int v6), (2, .int r1), (0, .ref h0), (1, .int x)] := hl
                    refine lv_iload hx hb d_DiscMakerModel_isRecord_246 (lv_at hl 0 rfl) ?_
                    refine lv_if_ne (tgt := 259) hx hb d_DiscMakerModel_isRecord_248 (by decide) (fun h_9 => absurd (by decide) h_9) (fun _ => ?_)
                    refine lv_aload_n hx hb d_DiscMakerModel_isRecord_251 rfl (lv_at hl 7 rfl) ?_
                    refine lv_iload_n hx hb d_DiscMakerModel_isRecord_252 rfl (lv_at hl 8 rfl) ?_
                    have hPc := hP.sub (ws' := [(h0, .inr (11, MO ma sv_thrown sv_length sv_nodes sv_many sv_directories sv_runsFrom sv_runs sv_read sv_wrong sv_isNamed sv_goes sv_goesSize sv_goesAt sv_targetParts sv_isRoot))]) [0] rfl
                    have hDc := hD.sub (ws' := [(h0, .inr (11, MO ma sv_thrown sv_length sv_nodes sv_many sv_directories sv_runsFrom sv_runs sv_read sv_wrong sv_isNamed sv_goes sv_goesSize sv_goesAt sv_targetParts sv_isRoot))]) [0] (by decide +kernel) rfl
                    have hFc := va_free (wc := [(h0, .inr (11, MO ma sv_thrown sv_length sv_nodes sv_many sv_directories sv_runsFrom sv_runs sv_read sv_wrong sv_isNamed sv_goes sv_goesSize sv_goesAt sv_targetParts sv_isRoot))]) hD hS hA [0] rfl
                    have hkc : 0 ≤ 0 := by decide
                    have hks : 0 ≤ 0 := by decide
                    refine va_calli (va_runV (C := "DiscMakerModel") (As := [.int x]) (rest := []) ⟨hx, hb, hml, hown, hts⟩ (m_isWrong l D cB cI cJ cZ cN cF H.size h0 ma sv_thrown sv_length sv_nodes sv_many sv_directories sv_runsFrom sv_runs sv_read sv_wrong sv_isNamed sv_goes sv_goesSize sv_goesAt sv_targetParts sv_isRoot x) (cwV 1 hts (lg_goodV k1833 k1835 k98 k125 kc_DiscMakerModel_isWrong) rfl rfl rfl (by decide +kernel) ⟨Nat.le_of_ble_eq_true rfl, Nat.le_of_ble_eq_true rfl⟩) ⟨fun a U g mk q => by obtain ⟨q0, q1, qP, qK, qN, qD⟩ := q; exact ⟨q0, q1, qP, va_K.moved (u := U) (U := U.calling g mk a) (Vm.Alike.refl U.vm) qK, qN.calling, qD⟩, va_recv hK hP (ci := 11) (q0 := 0) rfl rfl, fun U hU hW => ⟨rfl, by rw [hU], by rw [hU]; exact hPc, va_K.moved hW.alike hK, NN.warm hW hN, hDc.weaken (fun _ _ _ _ => trivial)⟩⟩ rfl rfl hl.1 rfl (lv_room (Nat.le_of_ble_eq_true rfl)) d_DiscMakerModel_isRecord_253 ⟨hkc, hks⟩) hS (fun q _ h => hFc q h) hFc (fun r77 u t H1 locs ht hvm hp_r77 hB hz1 hk1 hS => ?_)
                    obtain ⟨wr_78, rfl⟩ : ∃ z, z = u := ⟨_, rfl⟩
                    obtain ⟨hP1, hD1⟩ := hB
                    rw [ht] at hP1
                    obtain ⟨hP, hD⟩ := va_join (wr := [((ma 16), .inl (cJ, 46080, .inr (.inl F)))]) (w1 := [(h0, .inr (11, MO ma sv_thrown sv_length sv_nodes sv_many sv_directories sv_runsFrom sv_runs sv_read wr_78 sv_isNamed sv_goes sv_goesSize sv_goesAt sv_targetParts sv_isRoot))]) hP hD [0] [1] rfl rfl (by decide +kernel) (by decide +kernel) hk1 hFc hP1 hD1
                    clear hPc hDc hFc hP1 hD1 hk1 hz1 hkc hks
                    generalize H1 = H at hP hS ⊢
                    have hP : va_P D CL [((ma 16), .inl (cJ, 46080, .inr (.inl F))), (h0, .inr (11, MO ma sv_thrown sv_length sv_nodes sv_many sv_directories sv_runsFrom sv_runs sv_read wr_78 sv_isNamed sv_goes sv_goesSize sv_goesAt sv_targetParts sv_isRoot))] H := hP
                    have hD : va_D A [((ma 16), .inl (cJ, 46080, .inr (.inl F))), (h0, .inr (11, MO ma sv_thrown sv_length sv_nodes sv_many sv_directories sv_runsFrom sv_runs sv_read wr_78 sv_isNamed sv_goes sv_goesSize sv_goesAt sv_targetParts sv_isRoot))] := hD
                    try dsimp only at hp_r77
                    have hr_79 := hp_r77
                    refine lv_if_eq (tgt := 263) hx hb d_DiscMakerModel_isRecord_256 (by decide) (fun h_9 => ?_) (fun h_9 => ?_)
                    · skip
                      have g256_227 : r77.toInt = 0 := (i_eq rfl (by decide)).mp h_9
                      refine lv_iconst (v := 0) hx hb d_DiscMakerModel_isRecord_263 (by decide) ?_
                      have hP9 := hP.sub (ws' := [(h0, .inr (11, MO ma sv_thrown sv_length sv_nodes sv_many sv_directories sv_runsFrom sv_runs sv_read wr_78 sv_isNamed sv_goes sv_goesSize sv_goesAt sv_targetParts sv_isRoot)), ((ma 16), .inl (cJ, 46080, .inr (.inl F)))]) [1, 0] rfl
                      have hD9 := hD.sub (ws' := [(h0, .inr (11, MO ma sv_thrown sv_length sv_nodes sv_many sv_directories sv_runsFrom sv_runs sv_read wr_78 sv_isNamed sv_goes sv_goesSize sv_goesAt sv_targetParts sv_isRoot)), ((ma 16), .inl (cJ, 46080, .inr (.inl F)))]) [1, 0] (by decide +kernel) rfl
                      exact W.zret (v := 0) hx hb hr (by first | rfl | decide | exact i_narZ (by omega)) (fun t ht hW => ⟨⟨0, wr_78, rfl, ⟨(by (try dsimp only); first | assumption | omega | trivial), (by (try dsimp only); intro h7; first | (exfalso; omega) | (subst_vars; unfold RecOK; omega))⟩, by rw [ht]; exact hP9, hD9⟩, hS.F ht⟩) hS.2.2 d_DiscMakerModel_isRecord_264
                    · skip
                      have g256_227 : ¬ r77.toInt = 0 := fun h8 => h_9 ((i_eq rfl (by decide)).mpr h8)
                      refine lv_iconst (v := 1) hx hb d_DiscMakerModel_isRecord_259 (by decide) ?_
                      refine lv_goto (tgt := 264) hx hb d_DiscMakerModel_isRecord_260 (by decide) ?_
                      have hP9 := hP.sub (ws' := [(h0, .inr (11, MO ma sv_thrown sv_length sv_nodes sv_many sv_directories sv_runsFrom sv_runs sv_read wr_78 sv_isNamed sv_goes sv_goesSize sv_goesAt sv_targetParts sv_isRoot)), ((ma 16), .inl (cJ, 46080, .inr (.inl F)))]) [1, 0] rfl
                      have hD9 := hD.sub (ws' := [(h0, .inr (11, MO ma sv_thrown sv_length sv_nodes sv_many sv_directories sv_runsFrom sv_runs sv_read wr_78 sv_isNamed sv_goes sv_goesSize sv_goesAt sv_targetParts sv_isRoot)), ((ma 16), .inl (cJ, 46080, .inr (.inl F)))]) [1, 0] (by decide +kernel) rfl
                      exact W.zret (v := 1) hx hb hr (by first | rfl | decide | exact i_narZ (by omega)) (fun t ht hW => ⟨⟨1, wr_78, rfl, ⟨(by (try dsimp only); first | assumption | omega | trivial), (by (try dsimp only); intro h7; first | (exfalso; omega) | (subst_vars; unfold RecOK; omega))⟩, by rw [ht]; exact hP9, hD9⟩, hS.F ht⟩) hS.2.2 d_DiscMakerModel_isRecord_264
                  · skip
                    have g145_218 : ¬ v76.toInt ≤ 0 := fun h8 => h_9 ((i_le rfl (by decide)).mpr h8)
                    refine lv_lload hx hb d_DiscMakerModel_isRecord_148 (lv_at hl 1 rfl) ?_
                    refine lv_ldc2 (v := 2048) hx hb hown (ht9 _ k1853) d_DiscMakerModel_isRecord_150 ?_
                    refine lv_lrem hx hb d_DiscMakerModel_isRecord_153 (by decide) ?_
                    refine lv_topl (fun w80 e_w80 => ?_)
                    refine lv_lconst (v := 0) hx hb d_DiscMakerModel_isRecord_154 rfl ?_
                    refine W.lcmp hx hb d_DiscMakerModel_isRecord_155 ?_
                    refine lv_topi (fun v81 e_v81 => ?_)
                    have t_v81 : (v81.toInt = 1 ∧ 0 < w80.toInt) ∨ (v81.toInt = 0 ∧ w80.toInt = 0) ∨ (v81.toInt = -1 ∧ w80.toInt < 0) := by rw [e_v81]; exact l_cmp rfl (by decide)
                    refine lv_if_ne (tgt := 192) hx hb d_DiscMakerModel_isRecord_156 (by decide) (fun h_9 => ?_) (fun h_9 => ?_)
                    · skip
                      have g156_238 : ¬ v81.toInt = 0 := fun h8 => h_9 ((i_eq rfl (by decide)).mpr h8)
                      refine lv_iconst (v := 0) hx hb d_DiscMakerModel_isRecord_192 (by decide) ?_
                      refine lv_goto (tgt := 244) hx hb d_DiscMakerModel_isRecord_193 (by decide) ?_
                      refine lv_istore hx hb d_DiscMakerModel_isRecord_244 hl (by decide) rfl (fun ls hl => ?_)
                      have hl : lv_has ls 11 [(10, .int 0), (9, .int r56), (7, .long w55), (5, .long w51), (4, .int 1), (3, .int v6), (2, .int r1), (0, .ref h0), (1, .int x)] := hl
                      refine lv_iload hx hb d_DiscMakerModel_isRecord_246 (lv_at hl 0 rfl) ?_
                      refine lv_if_ne (tgt := 259) hx hb d_DiscMakerModel_isRecord_248 (by decide) (fun h_9 => absurd (by decide) h_9) (fun _ => ?_)
                      refine lv_aload_n hx hb d_DiscMakerModel_isRecord_251 rfl (lv_at hl 7 rfl) ?_
                      refine lv_iload_n hx hb d_DiscMakerModel_isRecord_252 rfl (lv_at hl 8 rfl) ?_
                      have hPc := hP.sub (ws' := [(h0, .inr (11, MO ma sv_thrown sv_length sv_nodes sv_many sv_directories sv_runsFrom sv_runs sv_read sv_wrong sv_isNamed sv_goes sv_goesSize sv_goesAt sv_targetParts sv_isRoot))]) [0] rfl
                      have hDc := hD.sub (ws' := [(h0, .inr (11, MO ma sv_thrown sv_length sv_nodes sv_many sv_directories sv_runsFrom sv_runs sv_read sv_wrong sv_isNamed sv_goes sv_goesSize sv_goesAt sv_targetParts sv_isRoot))]) [0] (by decide +kernel) rfl
                      have hFc := va_free (wc := [(h0, .inr (11, MO ma sv_thrown sv_length sv_nodes sv_many sv_directories sv_runsFrom sv_runs sv_read sv_wrong sv_isNamed sv_goes sv_goesSize sv_goesAt sv_targetParts sv_isRoot))]) hD hS hA [0] rfl
                      have hkc : 0 ≤ 0 := by decide
                      have hks : 0 ≤ 0 := by decide
                      refine va_calli (va_runV (C := "DiscMakerModel") (As := [.int x]) (rest := []) ⟨hx, hb, hml, hown, hts⟩ (m_isWrong l D cB cI cJ cZ cN cF H.size h0 ma sv_thrown sv_length sv_nodes sv_many sv_directories sv_runsFrom sv_runs sv_read sv_wrong sv_isNamed sv_goes sv_goesSize sv_goesAt sv_targetParts sv_isRoot x) (cwV 1 hts (lg_goodV k1833 k1835 k98 k125 kc_DiscMakerModel_isWrong) rfl rfl rfl (by decide +kernel) ⟨Nat.le_of_ble_eq_true rfl, Nat.le_of_ble_eq_true rfl⟩) ⟨fun a U g mk q => by obtain ⟨q0, q1, qP, qK, qN, qD⟩ := q; exact ⟨q0, q1, qP, va_K.moved (u := U) (U := U.calling g mk a) (Vm.Alike.refl U.vm) qK, qN.calling, qD⟩, va_recv hK hP (ci := 11) (q0 := 0) rfl rfl, fun U hU hW => ⟨rfl, by rw [hU], by rw [hU]; exact hPc, va_K.moved hW.alike hK, NN.warm hW hN, hDc.weaken (fun _ _ _ _ => trivial)⟩⟩ rfl rfl hl.1 rfl (lv_room (Nat.le_of_ble_eq_true rfl)) d_DiscMakerModel_isRecord_253 ⟨hkc, hks⟩) hS (fun q _ h => hFc q h) hFc (fun r82 u t H1 locs ht hvm hp_r82 hB hz1 hk1 hS => ?_)
                      obtain ⟨wr_83, rfl⟩ : ∃ z, z = u := ⟨_, rfl⟩
                      obtain ⟨hP1, hD1⟩ := hB
                      rw [ht] at hP1
                      obtain ⟨hP, hD⟩ := va_join (wr := [((ma 16), .inl (cJ, 46080, .inr (.inl F)))]) (w1 := [(h0, .inr (11, MO ma sv_thrown sv_length sv_nodes sv_many sv_directories sv_runsFrom sv_runs sv_read wr_83 sv_isNamed sv_goes sv_goesSize sv_goesAt sv_targetParts sv_isRoot))]) hP hD [0] [1] rfl rfl (by decide +kernel) (by decide +kernel) hk1 hFc hP1 hD1
                      clear hPc hDc hFc hP1 hD1 hk1 hz1 hkc hks
                      generalize H1 = H at hP hS ⊢
                      have hP : va_P D CL [((ma 16), .inl (cJ, 46080, .inr (.inl F))), (h0, .inr (11, MO ma sv_thrown sv_length sv_nodes sv_many sv_directories sv_runsFrom sv_runs sv_read wr_83 sv_isNamed sv_goes sv_goesSize sv_goesAt sv_targetParts sv_isRoot))] H := hP
                      have hD : va_D A [((ma 16), .inl (cJ, 46080, .inr (.inl F))), (h0, .inr (11, MO ma sv_thrown sv_length sv_nodes sv_many sv_directories sv_runsFrom sv_runs sv_read wr_83 sv_isNamed sv_goes sv_goesSize sv_goesAt sv_targetParts sv_isRoot))] := hD
                      try dsimp only at hp_r82
                      have hr_84 := hp_r82
                      refine lv_if_eq (tgt := 263) hx hb d_DiscMakerModel_isRecord_256 (by decide) (fun h_9 => ?_) (fun h_9 => ?_)
                      · skip
                        have g256_247 : r82.toInt = 0 := (i_eq rfl (by decide)).mp h_9
                        refine lv_iconst (v := 0) hx hb d_DiscMakerModel_isRecord_263 (by decide) ?_
                        have hP9 := hP.sub (ws' := [(h0, .inr (11, MO ma sv_thrown sv_length sv_nodes sv_many sv_directories sv_runsFrom sv_runs sv_read wr_83 sv_isNamed sv_goes sv_goesSize sv_goesAt sv_targetParts sv_isRoot)), ((ma 16), .inl (cJ, 46080, .inr (.inl F)))]) [1, 0] rfl
                        have hD9 := hD.sub (ws' := [(h0, .inr (11, MO ma sv_thrown sv_length sv_nodes sv_many sv_directories sv_runsFrom sv_runs sv_read wr_83 sv_isNamed sv_goes sv_goesSize sv_goesAt sv_targetParts sv_isRoot)), ((ma 16), .inl (cJ, 46080, .inr (.inl F)))]) [1, 0] (by decide +kernel) rfl
                        exact W.zret (v := 0) hx hb hr (by first | rfl | decide | exact i_narZ (by omega)) (fun t ht hW => ⟨⟨0, wr_83, rfl, ⟨(by (try dsimp only); first | assumption | omega | trivial), (by (try dsimp only); intro h7; first | (exfalso; omega) | (subst_vars; unfold RecOK; omega))⟩, by rw [ht]; exact hP9, hD9⟩, hS.F ht⟩) hS.2.2 d_DiscMakerModel_isRecord_264
                      · skip
                        have g256_247 : ¬ r82.toInt = 0 := fun h8 => h_9 ((i_eq rfl (by decide)).mpr h8)
                        refine lv_iconst (v := 1) hx hb d_DiscMakerModel_isRecord_259 (by decide) ?_
                        refine lv_goto (tgt := 264) hx hb d_DiscMakerModel_isRecord_260 (by decide) ?_
                        have hP9 := hP.sub (ws' := [(h0, .inr (11, MO ma sv_thrown sv_length sv_nodes sv_many sv_directories sv_runsFrom sv_runs sv_read wr_83 sv_isNamed sv_goes sv_goesSize sv_goesAt sv_targetParts sv_isRoot)), ((ma 16), .inl (cJ, 46080, .inr (.inl F)))]) [1, 0] rfl
                        have hD9 := hD.sub (ws' := [(h0, .inr (11, MO ma sv_thrown sv_length sv_nodes sv_many sv_directories sv_runsFrom sv_runs sv_read wr_83 sv_isNamed sv_goes sv_goesSize sv_goesAt sv_targetParts sv_isRoot)), ((ma 16), .inl (cJ, 46080, .inr (.inl F)))]) [1, 0] (by decide +kernel) rfl
                        exact W.zret (v := 1) hx hb hr (by first | rfl | decide | exact i_narZ (by omega)) (fun t ht hW => ⟨⟨1, wr_83, rfl, ⟨(by (try dsimp only); first | assumption | omega | trivial), (by (try dsimp only); intro h7; first | (exfalso; omega) | (subst_vars; unfold RecOK; omega))⟩, by rw [ht]; exact hP9, hD9⟩, hS.F ht⟩) hS.2.2 d_DiscMakerModel_isRecord_264
                    · skip
                      have g156_238 : v81.toInt = 0 := (i_eq rfl (by decide)).mp h_9
                      refine lv_lload hx hb d_DiscMakerModel_isRecord_159 (lv_at hl 2 rfl) ?_
                      refine lv_lconst (v := 0) hx hb d_DiscMakerModel_isRecord_161 rfl ?_
                      refine W.lcmp hx hb d_DiscMakerModel_isRecord_162 ?_
                      refine lv_topi (fun v85 e_v85 => ?_)
                      have t_v85 : (v85.toInt = 1 ∧ 0 < w51.toInt) ∨ (v85.toInt = 0 ∧ w51.toInt = 0) ∨ (v85.toInt = -1 ∧ w51.toInt < 0) := by rw [e_v85]; exact l_cmp rfl (by decide)
                      refine lv_if_lt (tgt := 192) hx hb d_DiscMakerModel_isRecord_163 (by decide) (fun h_9 => ?_) (fun h_9 => ?_)
                      · skip
                        have g163_256 : v85.toInt < 0 := (i_lt rfl (by decide)).mp h_9
                        refine lv_iconst (v := 0) hx hb d_DiscMakerModel_isRecord_192 (by decide) ?_
                        refine lv_goto (tgt := 244) hx hb d_DiscMakerModel_isRecord_193 (by decide) ?_
                        refine lv_istore hx hb d_DiscMakerModel_isRecord_244 hl (by decide) rfl (fun ls hl => ?_)
                        have hl : lv_has ls 11 [(10, .int 0), (9, .int r56), (7, .long w55), (5, .long w51), (4, .int 1), (3, .int v6), (2, .int r1), (0, .ref h0), (1, .int x)] := hl
                        refine lv_iload hx hb d_DiscMakerModel_isRecord_246 (lv_at hl 0 rfl) ?_
                        refine lv_if_ne (tgt := 259) hx hb d_DiscMakerModel_isRecord_248 (by decide) (fun h_9 => absurd (by decide) h_9) (fun _ => ?_)
                        refine lv_aload_n hx hb d_DiscMakerModel_isRecord_251 rfl (lv_at hl 7 rfl) ?_
                        refine lv_iload_n hx hb d_DiscMakerModel_isRecord_252 rfl (lv_at hl 8 rfl) ?_
                        have hPc := hP.sub (ws' := [(h0, .inr (11, MO ma sv_thrown sv_length sv_nodes sv_many sv_directories sv_runsFrom sv_runs sv_read sv_wrong sv_isNamed sv_goes sv_goesSize sv_goesAt sv_targetParts sv_isRoot))]) [0] rfl
                        have hDc := hD.sub (ws' := [(h0, .inr (11, MO ma sv_thrown sv_length sv_nodes sv_many sv_directories sv_runsFrom sv_runs sv_read sv_wrong sv_isNamed sv_goes sv_goesSize sv_goesAt sv_targetParts sv_isRoot))]) [0] (by decide +kernel) rfl
                        have hFc := va_free (wc := [(h0, .inr (11, MO ma sv_thrown sv_length sv_nodes sv_many sv_directories sv_runsFrom sv_runs sv_read sv_wrong sv_isNamed sv_goes sv_goesSize sv_goesAt sv_targetParts sv_isRoot))]) hD hS hA [0] rfl
                        have hkc : 0 ≤ 0 := by decide
                        have hks : 0 ≤ 0 := by decide
                        refine va_calli (va_runV (C := "DiscMakerModel") (As := [.int x]) (rest := []) ⟨hx, hb, hml, hown, hts⟩ (m_isWrong l D cB cI cJ cZ cN cF H.size h0 ma sv_thrown sv_length sv_nodes sv_many sv_directories sv_runsFrom sv_runs sv_read sv_wrong sv_isNamed sv_goes sv_goesSize sv_goesAt sv_targetParts sv_isRoot x) (cwV 1 hts (lg_goodV k1833 k1835 k98 k125 kc_DiscMakerModel_isWrong) rfl rfl rfl (by decide +kernel) ⟨Nat.le_of_ble_eq_true rfl, Nat.le_of_ble_eq_true rfl⟩) ⟨fun a U g mk q => by obtain ⟨q0, q1, qP, qK, qN, qD⟩ := q; exact ⟨q0, q1, qP, va_K.moved (u := U) (U := U.calling g mk a) (Vm.Alike.refl U.vm) qK, qN.calling, qD⟩, va_recv hK hP (ci := 11) (q0 := 0) rfl rfl, fun U hU hW => ⟨rfl, by rw [hU], by rw [hU]; exact hPc, va_K.moved hW.alike hK, NN.warm hW hN, hDc.weaken (fun _ _ _ _ => trivial)⟩⟩ rfl rfl hl.1 rfl (lv_room (Nat.le_of_ble_eq_true rfl)) d_DiscMakerModel_isRecord_253 ⟨hkc, hks⟩) hS (fun q _ h => hFc q h) hFc (fun r86 u t H1 locs ht hvm hp_r86 hB hz1 hk1 hS => ?_)
                        obtain ⟨wr_87, rfl⟩ : ∃ z, z = u := ⟨_, rfl⟩
                        obtain ⟨hP1, hD1⟩ := hB
                        rw [ht] at hP1
                        obtain ⟨hP, hD⟩ := va_join (wr := [((ma 16), .inl (cJ, 46080, .inr (.inl F)))]) (w1 := [(h0, .inr (11, MO ma sv_thrown sv_length sv_nodes sv_many sv_directories sv_runsFrom sv_runs sv_read wr_87 sv_isNamed sv_goes sv_goesSize sv_goesAt sv_targetParts sv_isRoot))]) hP hD [0] [1] rfl rfl (by decide +kernel) (by decide +kernel) hk1 hFc hP1 hD1
                        clear hPc hDc hFc hP1 hD1 hk1 hz1 hkc hks
                        generalize H1 = H at hP hS ⊢
                        have hP : va_P D CL [((ma 16), .inl (cJ, 46080, .inr (.inl F))), (h0, .inr (11, MO ma sv_thrown sv_length sv_nodes sv_many sv_directories sv_runsFrom sv_runs sv_read wr_87 sv_isNamed sv_goes sv_goesSize sv_goesAt sv_targetParts sv_isRoot))] H := hP
                        have hD : va_D A [((ma 16), .inl (cJ, 46080, .inr (.inl F))), (h0, .inr (11, MO ma sv_thrown sv_length sv_nodes sv_many sv_directories sv_runsFrom sv_runs sv_read wr_87 sv_isNamed sv_goes sv_goesSize sv_goesAt sv_targetParts sv_isRoot))] := hD
                        try dsimp only at hp_r86
                        have hr_88 := hp_r86
                        refine lv_if_eq (tgt := 263) hx hb d_DiscMakerModel_isRecord_256 (by decide) (fun h_9 => ?_) (fun h_9 => ?_)
                        · skip
                          have g256_265 : r86.toInt = 0 := (i_eq rfl (by decide)).mp h_9
                          refine lv_iconst (v := 0) hx hb d_DiscMakerModel_isRecord_263 (by decide) ?_
                          have hP9 := hP.sub (ws' := [(h0, .inr (11, MO ma sv_thrown sv_length sv_nodes sv_many sv_directories sv_runsFrom sv_runs sv_read wr_87 sv_isNamed sv_goes sv_goesSize sv_goesAt sv_targetParts sv_isRoot)), ((ma 16), .inl (cJ, 46080, .inr (.inl F)))]) [1, 0] rfl
                          have hD9 := hD.sub (ws' := [(h0, .inr (11, MO ma sv_thrown sv_length sv_nodes sv_many sv_directories sv_runsFrom sv_runs sv_read wr_87 sv_isNamed sv_goes sv_goesSize sv_goesAt sv_targetParts sv_isRoot)), ((ma 16), .inl (cJ, 46080, .inr (.inl F)))]) [1, 0] (by decide +kernel) rfl
                          exact W.zret (v := 0) hx hb hr (by first | rfl | decide | exact i_narZ (by omega)) (fun t ht hW => ⟨⟨0, wr_87, rfl, ⟨(by (try dsimp only); first | assumption | omega | trivial), (by (try dsimp only); intro h7; first | (exfalso; omega) | (subst_vars; unfold RecOK; omega))⟩, by rw [ht]; exact hP9, hD9⟩, hS.F ht⟩) hS.2.2 d_DiscMakerModel_isRecord_264
                        · skip
                          have g256_265 : ¬ r86.toInt = 0 := fun h8 => h_9 ((i_eq rfl (by decide)).mpr h8)
                          refine lv_iconst (v := 1) hx hb d_DiscMakerModel_isRecord_259 (by decide) ?_
                          refine lv_goto (tgt := 264) hx hb d_DiscMakerModel_isRecord_260 (by decide) ?_
                          have hP9 := hP.sub (ws' := [(h0, .inr (11, MO ma sv_thrown sv_length sv_nodes sv_many sv_directories sv_runsFrom sv_runs sv_read wr_87 sv_isNamed sv_goes sv_goesSize sv_goesAt sv_targetParts sv_isRoot)), ((ma 16), .inl (cJ, 46080, .inr (.inl F)))]) [1, 0] rfl
                          have hD9 := hD.sub (ws' := [(h0, .inr (11, MO ma sv_thrown sv_length sv_nodes sv_many sv_directories sv_runsFrom sv_runs sv_read wr_87 sv_isNamed sv_goes sv_goesSize sv_goesAt sv_targetParts sv_isRoot)), ((ma 16), .inl (cJ, 46080, .inr (.inl F)))]) [1, 0] (by decide +kernel) rfl
                          exact W.zret (v := 1) hx hb hr (by first | rfl | decide | exact i_narZ (by omega)) (fun t ht hW => ⟨⟨1, wr_87, rfl, ⟨(by (try dsimp only); first | assumption | omega | trivial), (by (try dsimp only); intro h7; first | (exfalso; omega) | (subst_vars; unfold RecOK; omega))⟩, by rw [ht]; exact hP9, hD9⟩, hS.F ht⟩) hS.2.2 d_DiscMakerModel_isRecord_264
                      · skip
                        have g163_256 : ¬ v85.toInt < 0 := fun h8 => h_9 ((i_lt rfl (by decide)).mpr h8)
                        refine lv_lload hx hb d_DiscMakerModel_isRecord_166 (lv_at hl 2 rfl) ?_
                        refine lv_ldc2 (v := 2048) hx hb hown (ht9 _ k1853) d_DiscMakerModel_isRecord_168 ?_
                        refine lv_lmul hx hb d_DiscMakerModel_isRecord_171 ?_
                        refine lv_topl (fun w89 e_w89 => ?_)
                        have t_w89 : w89.toInt = w51.toInt * 2048 := by rw [e_w89]; exact l_mul rfl (by decide) (by omega) (by omega)
                        refine lv_lload hx hb d_DiscMakerModel_isRecord_172 (lv_at hl 1 rfl) ?_
                        refine lv_ladd hx hb d_DiscMakerModel_isRecord_174 ?_
                        refine lv_topl (fun w90 e_w90 => ?_)
                        have t_w90 : w90.toInt = w89.toInt + w55.toInt := by rw [e_w90]; exact l_add rfl rfl (by omega) (by omega)
                        refine lv_ldc2 (v := 2048) hx hb hown (ht9 _ k1853) d_DiscMakerModel_isRecord_175 ?_
                        refine lv_aload_n hx hb d_DiscMakerModel_isRecord_178 rfl (lv_at hl 6 rfl) ?_
                        refine va_get (D := D) (ci := 11) (v := .int sv_many) (C := "DiscMakerModel") (T := F_DiscMakerModel) (N := 48) hx hb ht9 in_DiscMakerModel hown hK hP 0 rfl rfl 20 (by decide) (ht9 _ k1451) (fun _ h9 => h9) rfl d_DiscMakerModel_isRecord_179 ?_
                        refine lv_i2l hx hb d_DiscMakerModel_isRecord_182 rfl ?_
                        refine lv_topl (fun w91 e_w91 => ?_)
                        have t_w91 : w91.toInt = sv_many.toInt ∧ (-2147483648) ≤ sv_many.toInt ∧ sv_many.toInt ≤ 2147483647 := by rw [e_w91]; exact ⟨l_i rfl, i_rng _⟩
                        refine lv_lmul hx hb d_DiscMakerModel_isRecord_183 ?_
                        refine lv_topl (fun w92 e_w92 => ?_)
                        have t_w92 : w92.toInt = 2048 * w91.toInt := by rw [e_w92]; exact l_mul (by decide) rfl (by omega) (by omega)
                        refine W.lcmp hx hb d_DiscMakerModel_isRecord_184 ?_
                        refine lv_topi (fun v93 e_v93 => ?_)
                        have t_v93 : (v93.toInt = 1 ∧ w92.toInt < w90.toInt) ∨ (v93.toInt = 0 ∧ w90.toInt = w92.toInt) ∨ (v93.toInt = -1 ∧ w90.toInt < w92.toInt) := by rw [e_v93]; exact l_cmp rfl rfl
                        refine lv_if_gt (tgt := 192) hx hb d_DiscMakerModel_isRecord_185 (by decide) (fun h_9 => ?_) (fun h_9 => ?_)
                        · skip
                          have g185_282 : 0 < v93.toInt := (i_lt (by decide) rfl).mp h_9
                          refine lv_iconst (v := 0) hx hb d_DiscMakerModel_isRecord_192 (by decide) ?_
                          refine lv_goto (tgt := 244) hx hb d_DiscMakerModel_isRecord_193 (by decide) ?_
                          refine lv_istore hx hb d_DiscMakerModel_isRecord_244 hl (by decide) rfl (fun ls hl => ?_)
                          have hl : lv_has ls 11 [(10, .int 0), (9, .int r56), (7, .long w55), (5, .long w51), (4, .int 1), (3, .int v6), (2, .int r1), (0, .ref h0), (1, .int x)] := hl
                          refine lv_iload hx hb d_DiscMakerModel_isRecord_246 (lv_at hl 0 rfl) ?_
                          refine lv_if_ne (tgt := 259) hx hb d_DiscMakerModel_isRecord_248 (by decide) (fun h_9 => absurd (by decide) h_9) (fun _ => ?_)
                          refine lv_aload_n hx hb d_DiscMakerModel_isRecord_251 rfl (lv_at hl 7 rfl) ?_
                          refine lv_iload_n hx hb d_DiscMakerModel_isRecord_252 rfl (lv_at hl 8 rfl) ?_
                          have hPc := hP.sub (ws' := [(h0, .inr (11, MO ma sv_thrown sv_length sv_nodes sv_many sv_directories sv_runsFrom sv_runs sv_read sv_wrong sv_isNamed sv_goes sv_goesSize sv_goesAt sv_targetParts sv_isRoot))]) [0] rfl
                          have hDc := hD.sub (ws' := [(h0, .inr (11, MO ma sv_thrown sv_length sv_nodes sv_many sv_directories sv_runsFrom sv_runs sv_read sv_wrong sv_isNamed sv_goes sv_goesSize sv_goesAt sv_targetParts sv_isRoot))]) [0] (by decide +kernel) rfl
                          have hFc := va_free (wc := [(h0, .inr (11, MO ma sv_thrown sv_length sv_nodes sv_many sv_directories sv_runsFrom sv_runs sv_read sv_wrong sv_isNamed sv_goes sv_goesSize sv_goesAt sv_targetParts sv_isRoot))]) hD hS hA [0] rfl
                          have hkc : 0 ≤ 0 := by decide
                          have hks : 0 ≤ 0 := by decide
                          refine va_calli (va_runV (C := "DiscMakerModel") (As := [.int x]) (rest := []) ⟨hx, hb, hml, hown, hts⟩ (m_isWrong l D cB cI cJ cZ cN cF H.size h0 ma sv_thrown sv_length sv_nodes sv_many sv_directories sv_runsFrom sv_runs sv_read sv_wrong sv_isNamed sv_goes sv_goesSize sv_goesAt sv_targetParts sv_isRoot x) (cwV 1 hts (lg_goodV k1833 k1835 k98 k125 kc_DiscMakerModel_isWrong) rfl rfl rfl (by decide +kernel) ⟨Nat.le_of_ble_eq_true rfl, Nat.le_of_ble_eq_true rfl⟩) ⟨fun a U g mk q => by obtain ⟨q0, q1, qP, qK, qN, qD⟩ := q; exact ⟨q0, q1, qP, va_K.moved (u := U) (U := U.calling g mk a) (Vm.Alike.refl U.vm) qK, qN.calling, qD⟩, va_recv hK hP (ci := 11) (q0 := 0) rfl rfl, fun U hU hW => ⟨rfl, by rw [hU], by rw [hU]; exact hPc, va_K.moved hW.alike hK, NN.warm hW hN, hDc.weaken (fun _ _ _ _ => trivial)⟩⟩ rfl rfl hl.1 rfl (lv_room (Nat.le_of_ble_eq_true rfl)) d_DiscMakerModel_isRecord_253 ⟨hkc, hks⟩) hS (fun q _ h => hFc q h) hFc (fun r94 u t H1 locs ht hvm hp_r94 hB hz1 hk1 hS => ?_)
                          obtain ⟨wr_95, rfl⟩ : ∃ z, z = u := ⟨_, rfl⟩
                          obtain ⟨hP1, hD1⟩ := hB
                          rw [ht] at hP1
                          obtain ⟨hP, hD⟩ := va_join (wr := [((ma 16), .inl (cJ, 46080, .inr (.inl F)))]) (w1 := [(h0, .inr (11, MO ma sv_thrown sv_length sv_nodes sv_many sv_directories sv_runsFrom sv_runs sv_read wr_95 sv_isNamed sv_goes sv_goesSize sv_goesAt sv_targetParts sv_isRoot))]) hP hD [0] [1] rfl rfl (by decide +kernel) (by decide +kernel) hk1 hFc hP1 hD1
                          clear hPc hDc hFc hP1 hD1 hk1 hz1 hkc hks
                          generalize H1 = H at hP hS ⊢
                          have hP : va_P D CL [((ma 16), .inl (cJ, 46080, .inr (.inl F))), (h0, .inr (11, MO ma sv_thrown sv_length sv_nodes sv_many sv_directories sv_runsFrom sv_runs sv_read wr_95 sv_isNamed sv_goes sv_goesSize sv_goesAt sv_targetParts sv_isRoot))] H := hP
                          have hD : va_D A [((ma 16), .inl (cJ, 46080, .inr (.inl F))), (h0, .inr (11, MO ma sv_thrown sv_length sv_nodes sv_many sv_directories sv_runsFrom sv_runs sv_read wr_95 sv_isNamed sv_goes sv_goesSize sv_goesAt sv_targetParts sv_isRoot))] := hD
                          try dsimp only at hp_r94
                          have hr_96 := hp_r94
                          refine lv_if_eq (tgt := 263) hx hb d_DiscMakerModel_isRecord_256 (by decide) (fun h_9 => ?_) (fun h_9 => ?_)
                          · skip
                            have g256_291 : r94.toInt = 0 := (i_eq rfl (by decide)).mp h_9
                            refine lv_iconst (v := 0) hx hb d_DiscMakerModel_isRecord_263 (by decide) ?_
                            have hP9 := hP.sub (ws' := [(h0, .inr (11, MO ma sv_thrown sv_length sv_nodes sv_many sv_directories sv_runsFrom sv_runs sv_read wr_95 sv_isNamed sv_goes sv_goesSize sv_goesAt sv_targetParts sv_isRoot)), ((ma 16), .inl (cJ, 46080, .inr (.inl F)))]) [1, 0] rfl
                            have hD9 := hD.sub (ws' := [(h0, .inr (11, MO ma sv_thrown sv_length sv_nodes sv_many sv_directories sv_runsFrom sv_runs sv_read wr_95 sv_isNamed sv_goes sv_goesSize sv_goesAt sv_targetParts sv_isRoot)), ((ma 16), .inl (cJ, 46080, .inr (.inl F)))]) [1, 0] (by decide +kernel) rfl
                            exact W.zret (v := 0) hx hb hr (by first | rfl | decide | exact i_narZ (by omega)) (fun t ht hW => ⟨⟨0, wr_95, rfl, ⟨(by (try dsimp only); first | assumption | omega | trivial), (by (try dsimp only); intro h7; first | (exfalso; omega) | (subst_vars; unfold RecOK; omega))⟩, by rw [ht]; exact hP9, hD9⟩, hS.F ht⟩) hS.2.2 d_DiscMakerModel_isRecord_264
                          · skip
                            have g256_291 : ¬ r94.toInt = 0 := fun h8 => h_9 ((i_eq rfl (by decide)).mpr h8)
                            refine lv_iconst (v := 1) hx hb d_DiscMakerModel_isRecord_259 (by decide) ?_
                            refine lv_goto (tgt := 264) hx hb d_DiscMakerModel_isRecord_260 (by decide) ?_
                            have hP9 := hP.sub (ws' := [(h0, .inr (11, MO ma sv_thrown sv_length sv_nodes sv_many sv_directories sv_runsFrom sv_runs sv_read wr_95 sv_isNamed sv_goes sv_goesSize sv_goesAt sv_targetParts sv_isRoot)), ((ma 16), .inl (cJ, 46080, .inr (.inl F)))]) [1, 0] rfl
                            have hD9 := hD.sub (ws' := [(h0, .inr (11, MO ma sv_thrown sv_length sv_nodes sv_many sv_directories sv_runsFrom sv_runs sv_read wr_95 sv_isNamed sv_goes sv_goesSize sv_goesAt sv_targetParts sv_isRoot)), ((ma 16), .inl (cJ, 46080, .inr (.inl F)))]) [1, 0] (by decide +kernel) rfl
                            exact W.zret (v := 1) hx hb hr (by first | rfl | decide | exact i_narZ (by omega)) (fun t ht hW => ⟨⟨1, wr_95, rfl, ⟨(by (try dsimp only); first | assumption | omega | trivial), (by (try dsimp only); intro h7; first | (exfalso; omega) | (subst_vars; unfold RecOK; omega))⟩, by rw [ht]; exact hP9, hD9⟩, hS.F ht⟩) hS.2.2 d_DiscMakerModel_isRecord_264
                        · skip
                          have g185_282 : ¬ 0 < v93.toInt := fun h8 => h_9 ((i_lt (by decide) rfl).mpr h8)
                          refine lv_iconst (v := 1) hx hb d_DiscMakerModel_isRecord_188 (by decide) ?_
                          refine lv_goto (tgt := 244) hx hb d_DiscMakerModel_isRecord_189 (by decide) ?_
                          refine lv_istore hx hb d_DiscMakerModel_isRecord_244 hl (by decide) rfl (fun ls hl => ?_)
                          have hl : lv_has ls 11 [(10, .int 1), (9, .int r56), (7, .long w55), (5, .long w51), (4, .int 1), (3, .int v6), (2, .int r1), (0, .ref h0), (1, .int x)] := hl
                          refine lv_iload hx hb d_DiscMakerModel_isRecord_246 (lv_at hl 0 rfl) ?_
                          refine lv_if_ne (tgt := 259) hx hb d_DiscMakerModel_isRecord_248 (by decide) (fun _ => ?_) (fun h_9 => absurd h_9 (by decide))
                          refine lv_iconst (v := 1) hx hb d_DiscMakerModel_isRecord_259 (by decide) ?_
                          refine lv_goto (tgt := 264) hx hb d_DiscMakerModel_isRecord_260 (by decide) ?_
                          have hP9 := hP.sub (ws' := [(h0, .inr (11, MO ma sv_thrown sv_length sv_nodes sv_many sv_directories sv_runsFrom sv_runs sv_read sv_wrong sv_isNamed sv_goes sv_goesSize sv_goesAt sv_targetParts sv_isRoot)), ((ma 16), .inl (cJ, 46080, .inr (.inl F)))]) [0, 1] rfl
                          have hD9 := hD.sub (ws' := [(h0, .inr (11, MO ma sv_thrown sv_length sv_nodes sv_many sv_directories sv_runsFrom sv_runs sv_read sv_wrong sv_isNamed sv_goes sv_goesSize sv_goesAt sv_targetParts sv_isRoot)), ((ma 16), .inl (cJ, 46080, .inr (.inl F)))]) [0, 1] (by decide +kernel) rfl
                          exact W.zret (v := 1) hx hb hr (by first | rfl | decide | exact i_narZ (by omega)) (fun t ht hW => ⟨⟨1, sv_wrong, rfl, ⟨(by (try dsimp only); first | assumption | omega | trivial), (by (try dsimp only); intro h7; first | (exfalso; omega) | (subst_vars; unfold RecOK; omega))⟩, by rw [ht]; exact hP9, hD9⟩, hS.F ht⟩) hS.2.2 d_DiscMakerModel_isRecord_264

theorem d_DiscMakerModel_descriptor_0 : decode b_DiscMakerModel_descriptor 0 = .ok (.iconst (-1), 1) := by decide +kernel
theorem d_DiscMakerModel_descriptor_1 : decode b_DiscMakerModel_descriptor 1 = .ok (.istore_n 2, 1) := by decide +kernel
theorem d_DiscMakerModel_descriptor_2 : decode b_DiscMakerModel_descriptor 2 = .ok (.bipush 16, 2) := by decide +kernel
theorem d_DiscMakerModel_descriptor_4 : decode b_DiscMakerModel_descriptor 4 = .ok (.istore_n 3, 1) := by decide +kernel
theorem d_DiscMakerModel_descriptor_5 : decode b_DiscMakerModel_descriptor 5 = .ok (.sipush 2048, 3) := by decide +kernel
theorem d_DiscMakerModel_descriptor_8 : decode b_DiscMakerModel_descriptor 8 = .ok (.iload_n 3, 1) := by decide +kernel
theorem d_DiscMakerModel_descriptor_9 : decode b_DiscMakerModel_descriptor 9 = .ok (.imul, 1) := by decide +kernel
theorem d_DiscMakerModel_descriptor_10 : decode b_DiscMakerModel_descriptor 10 = .ok (.istore 4, 2) := by decide +kernel
theorem d_DiscMakerModel_descriptor_12 : decode b_DiscMakerModel_descriptor 12 = .ok (.iload_n 3, 1) := by decide +kernel
theorem d_DiscMakerModel_descriptor_13 : decode b_DiscMakerModel_descriptor 13 = .ok (.aload_n 0, 1) := by decide +kernel
theorem d_DiscMakerModel_descriptor_14 : decode b_DiscMakerModel_descriptor 14 = .ok (.getfield 282, 3) := by decide +kernel
theorem d_DiscMakerModel_descriptor_17 : decode b_DiscMakerModel_descriptor 17 = .ok (.if_icmp .ge 85, 3) := by decide +kernel
theorem d_DiscMakerModel_descriptor_20 : decode b_DiscMakerModel_descriptor 20 = .ok (.aload_n 0, 1) := by decide +kernel
theorem d_DiscMakerModel_descriptor_21 : decode b_DiscMakerModel_descriptor 21 = .ok (.iload 4, 2) := by decide +kernel
theorem d_DiscMakerModel_descriptor_23 : decode b_DiscMakerModel_descriptor 23 = .ok (.iconst 1, 1) := by decide +kernel
theorem d_DiscMakerModel_descriptor_24 : decode b_DiscMakerModel_descriptor 24 = .ok (.iadd, 1) := by decide +kernel
theorem d_DiscMakerModel_descriptor_25 : decode b_DiscMakerModel_descriptor 25 = .ok (.invokevirtual 303, 3) := by decide +kernel
theorem d_DiscMakerModel_descriptor_28 : decode b_DiscMakerModel_descriptor 28 = .ok (.bipush 67, 2) := by decide +kernel
theorem d_DiscMakerModel_descriptor_30 : decode b_DiscMakerModel_descriptor 30 = .ok (.if_icmp .ne 72, 3) := by decide +kernel
theorem d_DiscMakerModel_descriptor_33 : decode b_DiscMakerModel_descriptor 33 = .ok (.aload_n 0, 1) := by decide +kernel
theorem d_DiscMakerModel_descriptor_34 : decode b_DiscMakerModel_descriptor 34 = .ok (.iload 4, 2) := by decide +kernel
theorem d_DiscMakerModel_descriptor_36 : decode b_DiscMakerModel_descriptor 36 = .ok (.iconst 2, 1) := by decide +kernel
theorem d_DiscMakerModel_descriptor_37 : decode b_DiscMakerModel_descriptor 37 = .ok (.iadd, 1) := by decide +kernel
theorem d_DiscMakerModel_descriptor_38 : decode b_DiscMakerModel_descriptor 38 = .ok (.invokevirtual 303, 3) := by decide +kernel
theorem d_DiscMakerModel_descriptor_41 : decode b_DiscMakerModel_descriptor 41 = .ok (.bipush 68, 2) := by decide +kernel
theorem d_DiscMakerModel_descriptor_43 : decode b_DiscMakerModel_descriptor 43 = .ok (.if_icmp .ne 59, 3) := by decide +kernel
theorem d_DiscMakerModel_descriptor_46 : decode b_DiscMakerModel_descriptor 46 = .ok (.aload_n 0, 1) := by decide +kernel
theorem d_DiscMakerModel_descriptor_47 : decode b_DiscMakerModel_descriptor 47 = .ok (.iload 4, 2) := by decide +kernel
theorem d_DiscMakerModel_descriptor_49 : decode b_DiscMakerModel_descriptor 49 = .ok (.iconst 3, 1) := by decide +kernel
theorem d_DiscMakerModel_descriptor_50 : decode b_DiscMakerModel_descriptor 50 = .ok (.iadd, 1) := by decide +kernel
theorem d_DiscMakerModel_descriptor_51 : decode b_DiscMakerModel_descriptor 51 = .ok (.invokevirtual 303, 3) := by decide +kernel
theorem d_DiscMakerModel_descriptor_54 : decode b_DiscMakerModel_descriptor 54 = .ok (.bipush 48, 2) := by decide +kernel
theorem d_DiscMakerModel_descriptor_56 : decode b_DiscMakerModel_descriptor 56 = .ok (.if_icmp .ne 46, 3) := by decide +kernel
theorem d_DiscMakerModel_descriptor_59 : decode b_DiscMakerModel_descriptor 59 = .ok (.aload_n 0, 1) := by decide +kernel
theorem d_DiscMakerModel_descriptor_60 : decode b_DiscMakerModel_descriptor 60 = .ok (.iload 4, 2) := by decide +kernel
theorem d_DiscMakerModel_descriptor_62 : decode b_DiscMakerModel_descriptor 62 = .ok (.iconst 4, 1) := by decide +kernel
theorem d_DiscMakerModel_descriptor_63 : decode b_DiscMakerModel_descriptor 63 = .ok (.iadd, 1) := by decide +kernel
theorem d_DiscMakerModel_descriptor_64 : decode b_DiscMakerModel_descriptor 64 = .ok (.invokevirtual 303, 3) := by decide +kernel
theorem d_DiscMakerModel_descriptor_67 : decode b_DiscMakerModel_descriptor 67 = .ok (.bipush 48, 2) := by decide +kernel
theorem d_DiscMakerModel_descriptor_69 : decode b_DiscMakerModel_descriptor 69 = .ok (.if_icmp .ne 33, 3) := by decide +kernel
theorem d_DiscMakerModel_descriptor_72 : decode b_DiscMakerModel_descriptor 72 = .ok (.aload_n 0, 1) := by decide +kernel
theorem d_DiscMakerModel_descriptor_73 : decode b_DiscMakerModel_descriptor 73 = .ok (.iload 4, 2) := by decide +kernel
theorem d_DiscMakerModel_descriptor_75 : decode b_DiscMakerModel_descriptor 75 = .ok (.iconst 5, 1) := by decide +kernel
theorem d_DiscMakerModel_descriptor_76 : decode b_DiscMakerModel_descriptor 76 = .ok (.iadd, 1) := by decide +kernel
theorem d_DiscMakerModel_descriptor_77 : decode b_DiscMakerModel_descriptor 77 = .ok (.invokevirtual 303, 3) := by decide +kernel
theorem d_DiscMakerModel_descriptor_80 : decode b_DiscMakerModel_descriptor 80 = .ok (.bipush 49, 2) := by decide +kernel
theorem d_DiscMakerModel_descriptor_82 : decode b_DiscMakerModel_descriptor 82 = .ok (.if_icmp .ne 20, 3) := by decide +kernel
theorem d_DiscMakerModel_descriptor_85 : decode b_DiscMakerModel_descriptor 85 = .ok (.aload_n 0, 1) := by decide +kernel
theorem d_DiscMakerModel_descriptor_86 : decode b_DiscMakerModel_descriptor 86 = .ok (.iload 4, 2) := by decide +kernel
theorem d_DiscMakerModel_descriptor_88 : decode b_DiscMakerModel_descriptor 88 = .ok (.bipush 6, 2) := by decide +kernel
theorem d_DiscMakerModel_descriptor_90 : decode b_DiscMakerModel_descriptor 90 = .ok (.iadd, 1) := by decide +kernel
theorem d_DiscMakerModel_descriptor_91 : decode b_DiscMakerModel_descriptor 91 = .ok (.invokevirtual 303, 3) := by decide +kernel
theorem d_DiscMakerModel_descriptor_94 : decode b_DiscMakerModel_descriptor 94 = .ok (.iconst 1, 1) := by decide +kernel
theorem d_DiscMakerModel_descriptor_95 : decode b_DiscMakerModel_descriptor 95 = .ok (.if_icmp .ne 7, 3) := by decide +kernel
theorem d_DiscMakerModel_descriptor_98 : decode b_DiscMakerModel_descriptor 98 = .ok (.iconst 1, 1) := by decide +kernel
theorem d_DiscMakerModel_descriptor_99 : decode b_DiscMakerModel_descriptor 99 = .ok (.goto 4, 3) := by decide +kernel
theorem d_DiscMakerModel_descriptor_102 : decode b_DiscMakerModel_descriptor 102 = .ok (.iconst 0, 1) := by decide +kernel
theorem d_DiscMakerModel_descriptor_103 : decode b_DiscMakerModel_descriptor 103 = .ok (.istore 5, 2) := by decide +kernel
theorem d_DiscMakerModel_descriptor_105 : decode b_DiscMakerModel_descriptor 105 = .ok (.iload 5, 2) := by decide +kernel
theorem d_DiscMakerModel_descriptor_107 : decode b_DiscMakerModel_descriptor 107 = .ok (.ifCond .ne 12, 3) := by decide +kernel
theorem d_DiscMakerModel_descriptor_110 : decode b_DiscMakerModel_descriptor 110 = .ok (.aload_n 0, 1) := by decide +kernel
theorem d_DiscMakerModel_descriptor_111 : decode b_DiscMakerModel_descriptor 111 = .ok (.iload 4, 2) := by decide +kernel
theorem d_DiscMakerModel_descriptor_113 : decode b_DiscMakerModel_descriptor 113 = .ok (.invokevirtual 309, 3) := by decide +kernel
theorem d_DiscMakerModel_descriptor_116 : decode b_DiscMakerModel_descriptor 116 = .ok (.pop, 1) := by decide +kernel
theorem d_DiscMakerModel_descriptor_117 : decode b_DiscMakerModel_descriptor 117 = .ok (.iconst (-1), 1) := by decide +kernel
theorem d_DiscMakerModel_descriptor_118 : decode b_DiscMakerModel_descriptor 118 = .ok (.ireturn, 1) := by decide +kernel
theorem d_DiscMakerModel_descriptor_119 : decode b_DiscMakerModel_descriptor 119 = .ok (.aload_n 0, 1) := by decide +kernel
theorem d_DiscMakerModel_descriptor_120 : decode b_DiscMakerModel_descriptor 120 = .ok (.iload 4, 2) := by decide +kernel
theorem d_DiscMakerModel_descriptor_122 : decode b_DiscMakerModel_descriptor 122 = .ok (.invokevirtual 303, 3) := by decide +kernel
theorem d_DiscMakerModel_descriptor_125 : decode b_DiscMakerModel_descriptor 125 = .ok (.sipush 255, 3) := by decide +kernel
theorem d_DiscMakerModel_descriptor_128 : decode b_DiscMakerModel_descriptor 128 = .ok (.if_icmp .ne 16, 3) := by decide +kernel
theorem d_DiscMakerModel_descriptor_131 : decode b_DiscMakerModel_descriptor 131 = .ok (.iload_n 2, 1) := by decide +kernel
theorem d_DiscMakerModel_descriptor_132 : decode b_DiscMakerModel_descriptor 132 = .ok (.ifCond .ge 10, 3) := by decide +kernel
theorem d_DiscMakerModel_descriptor_135 : decode b_DiscMakerModel_descriptor 135 = .ok (.aload_n 0, 1) := by decide +kernel
theorem d_DiscMakerModel_descriptor_136 : decode b_DiscMakerModel_descriptor 136 = .ok (.iload 4, 2) := by decide +kernel
theorem d_DiscMakerModel_descriptor_138 : decode b_DiscMakerModel_descriptor 138 = .ok (.invokevirtual 309, 3) := by decide +kernel
theorem d_DiscMakerModel_descriptor_141 : decode b_DiscMakerModel_descriptor 141 = .ok (.pop, 1) := by decide +kernel
theorem d_DiscMakerModel_descriptor_142 : decode b_DiscMakerModel_descriptor 142 = .ok (.iload_n 2, 1) := by decide +kernel
theorem d_DiscMakerModel_descriptor_143 : decode b_DiscMakerModel_descriptor 143 = .ok (.ireturn, 1) := by decide +kernel
theorem d_DiscMakerModel_descriptor_144 : decode b_DiscMakerModel_descriptor 144 = .ok (.iload_n 1, 1) := by decide +kernel
theorem d_DiscMakerModel_descriptor_145 : decode b_DiscMakerModel_descriptor 145 = .ok (.ifCond .ne 21, 3) := by decide +kernel
theorem d_DiscMakerModel_descriptor_148 : decode b_DiscMakerModel_descriptor 148 = .ok (.aload_n 0, 1) := by decide +kernel
theorem d_DiscMakerModel_descriptor_149 : decode b_DiscMakerModel_descriptor 149 = .ok (.iload 4, 2) := by decide +kernel
theorem d_DiscMakerModel_descriptor_151 : decode b_DiscMakerModel_descriptor 151 = .ok (.invokevirtual 303, 3) := by decide +kernel
theorem d_DiscMakerModel_descriptor_154 : decode b_DiscMakerModel_descriptor 154 = .ok (.iconst 1, 1) := by decide +kernel
theorem d_DiscMakerModel_descriptor_155 : decode b_DiscMakerModel_descriptor 155 = .ok (.if_icmp .ne 7, 3) := by decide +kernel
theorem d_DiscMakerModel_descriptor_158 : decode b_DiscMakerModel_descriptor 158 = .ok (.iconst 1, 1) := by decide +kernel
theorem d_DiscMakerModel_descriptor_159 : decode b_DiscMakerModel_descriptor 159 = .ok (.goto 64, 3) := by decide +kernel
theorem d_DiscMakerModel_descriptor_162 : decode b_DiscMakerModel_descriptor 162 = .ok (.iconst 0, 1) := by decide +kernel
theorem d_DiscMakerModel_descriptor_163 : decode b_DiscMakerModel_descriptor 163 = .ok (.goto 60, 3) := by decide +kernel
theorem d_DiscMakerModel_descriptor_166 : decode b_DiscMakerModel_descriptor 166 = .ok (.aload_n 0, 1) := by decide +kernel
theorem d_DiscMakerModel_descriptor_167 : decode b_DiscMakerModel_descriptor 167 = .ok (.iload 4, 2) := by decide +kernel
theorem d_DiscMakerModel_descriptor_169 : decode b_DiscMakerModel_descriptor 169 = .ok (.invokevirtual 303, 3) := by decide +kernel
theorem d_DiscMakerModel_descriptor_172 : decode b_DiscMakerModel_descriptor 172 = .ok (.iconst 2, 1) := by decide +kernel
theorem d_DiscMakerModel_descriptor_173 : decode b_DiscMakerModel_descriptor 173 = .ok (.if_icmp .ne 49, 3) := by decide +kernel
theorem d_DiscMakerModel_descriptor_176 : decode b_DiscMakerModel_descriptor 176 = .ok (.aload_n 0, 1) := by decide +kernel
theorem d_DiscMakerModel_descriptor_177 : decode b_DiscMakerModel_descriptor 177 = .ok (.iload 4, 2) := by decide +kernel
theorem d_DiscMakerModel_descriptor_179 : decode b_DiscMakerModel_descriptor 179 = .ok (.bipush 88, 2) := by decide +kernel
theorem d_DiscMakerModel_descriptor_181 : decode b_DiscMakerModel_descriptor 181 = .ok (.iadd, 1) := by decide +kernel
theorem d_DiscMakerModel_descriptor_182 : decode b_DiscMakerModel_descriptor 182 = .ok (.invokevirtual 303, 3) := by decide +kernel
theorem d_DiscMakerModel_descriptor_185 : decode b_DiscMakerModel_descriptor 185 = .ok (.bipush 37, 2) := by decide +kernel
theorem d_DiscMakerModel_descriptor_187 : decode b_DiscMakerModel_descriptor 187 = .ok (.if_icmp .ne 35, 3) := by decide +kernel
theorem d_DiscMakerModel_descriptor_190 : decode b_DiscMakerModel_descriptor 190 = .ok (.aload_n 0, 1) := by decide +kernel
theorem d_DiscMakerModel_descriptor_191 : decode b_DiscMakerModel_descriptor 191 = .ok (.iload 4, 2) := by decide +kernel
theorem d_DiscMakerModel_descriptor_193 : decode b_DiscMakerModel_descriptor 193 = .ok (.bipush 89, 2) := by decide +kernel
theorem d_DiscMakerModel_descriptor_195 : decode b_DiscMakerModel_descriptor 195 = .ok (.iadd, 1) := by decide +kernel
theorem d_DiscMakerModel_descriptor_196 : decode b_DiscMakerModel_descriptor 196 = .ok (.invokevirtual 303, 3) := by decide +kernel
theorem d_DiscMakerModel_descriptor_199 : decode b_DiscMakerModel_descriptor 199 = .ok (.bipush 47, 2) := by decide +kernel
theorem d_DiscMakerModel_descriptor_201 : decode b_DiscMakerModel_descriptor 201 = .ok (.if_icmp .ne 21, 3) := by decide +kernel
theorem d_DiscMakerModel_descriptor_204 : decode b_DiscMakerModel_descriptor 204 = .ok (.aload_n 0, 1) := by decide +kernel
theorem d_DiscMakerModel_descriptor_205 : decode b_DiscMakerModel_descriptor 205 = .ok (.iload 4, 2) := by decide +kernel
theorem d_DiscMakerModel_descriptor_207 : decode b_DiscMakerModel_descriptor 207 = .ok (.bipush 90, 2) := by decide +kernel
theorem d_DiscMakerModel_descriptor_209 : decode b_DiscMakerModel_descriptor 209 = .ok (.iadd, 1) := by decide +kernel
theorem d_DiscMakerModel_descriptor_210 : decode b_DiscMakerModel_descriptor 210 = .ok (.invokevirtual 303, 3) := by decide +kernel
theorem d_DiscMakerModel_descriptor_213 : decode b_DiscMakerModel_descriptor 213 = .ok (.bipush 69, 2) := by decide +kernel
theorem d_DiscMakerModel_descriptor_215 : decode b_DiscMakerModel_descriptor 215 = .ok (.if_icmp .ne 7, 3) := by decide +kernel
theorem d_DiscMakerModel_descriptor_218 : decode b_DiscMakerModel_descriptor 218 = .ok (.iconst 1, 1) := by decide +kernel
theorem d_DiscMakerModel_descriptor_219 : decode b_DiscMakerModel_descriptor 219 = .ok (.goto 4, 3) := by decide +kernel
theorem d_DiscMakerModel_descriptor_222 : decode b_DiscMakerModel_descriptor 222 = .ok (.iconst 0, 1) := by decide +kernel
theorem d_DiscMakerModel_descriptor_223 : decode b_DiscMakerModel_descriptor 223 = .ok (.istore 6, 2) := by decide +kernel
theorem d_DiscMakerModel_descriptor_225 : decode b_DiscMakerModel_descriptor 225 = .ok (.iload 6, 2) := by decide +kernel
theorem d_DiscMakerModel_descriptor_227 : decode b_DiscMakerModel_descriptor 227 = .ok (.ifCond .eq 10, 3) := by decide +kernel
theorem d_DiscMakerModel_descriptor_230 : decode b_DiscMakerModel_descriptor 230 = .ok (.iload_n 2, 1) := by decide +kernel
theorem d_DiscMakerModel_descriptor_231 : decode b_DiscMakerModel_descriptor 231 = .ok (.ifCond .ge 6, 3) := by decide +kernel
theorem d_DiscMakerModel_descriptor_234 : decode b_DiscMakerModel_descriptor 234 = .ok (.iload 4, 2) := by decide +kernel
theorem d_DiscMakerModel_descriptor_236 : decode b_DiscMakerModel_descriptor 236 = .ok (.istore_n 2, 1) := by decide +kernel
theorem d_DiscMakerModel_descriptor_237 : decode b_DiscMakerModel_descriptor 237 = .ok (.iinc 3 1, 3) := by decide +kernel
theorem d_DiscMakerModel_descriptor_240 : decode b_DiscMakerModel_descriptor 240 = .ok (.goto (-235), 3) := by decide +kernel
set_option maxHeartbeats 4000000 in
set_option maxRecDepth 100000 in
theorem m_descriptor (l : Launch) (D : va_G) (cB cI cJ cZ cN cF : ClassId) (sz : Nat) (h0 : Nat) (ma : Nat → Nat) (sv_thrown sv_length sv_nodes sv_many sv_directories sv_runsFrom sv_runs sv_read sv_wrong sv_isNamed sv_goes sv_goesSize sv_goesAt sv_targetParts sv_isRoot : Int32) (F : Nat → Int64) (x : Int32) (hm0 : 0 ≤ sv_many.toInt ∧ sv_many.toInt ≤ 180) : Met l y_DiscMakerModel_descriptor w_DiscMakerModel_descriptor ({ frames := 1, cells := 0, slots := 0, locals := 21 }) (va_Pc [.ref h0, .int x] (fun U => U.heap.size = sz ∧ va_P D CL [(h0, .inr (11, MO ma sv_thrown sv_length sv_nodes sv_many sv_directories sv_runsFrom sv_runs sv_read sv_wrong sv_isNamed sv_goes sv_goesSize sv_goesAt sv_targetParts sv_isRoot)), ((ma 16), .inl (cJ, 46080, .inr (.inl F)))] U.heap ∧ va_K D CL (TY cB cI cJ cZ cN cF) U ∧ NN U ∧ va_D (fun _ => True) [(h0, .inr (11, MO ma sv_thrown sv_length sv_nodes sv_many sv_directories sv_runsFrom sv_runs sv_read sv_wrong sv_isNamed sv_goes sv_goesSize sv_goesAt sv_targetParts sv_isRoot)), ((ma 16), .inl (cJ, 46080, .inr (.inl F)))])) (va_Qi (fun (r : Int32) (u : Int32) => match u with | wr => (r.toInt < 0 ∨ (0 ≤ r.toInt ∧ r.toInt + 2048 ≤ 2048 * sv_many.toInt))) (fun (u : Int32) (t : State) => match u with | wr => va_P D CL [(h0, .inr (11, MO ma sv_thrown sv_length sv_nodes sv_many sv_directories sv_runsFrom sv_runs sv_read wr sv_isNamed sv_goes sv_goesSize sv_goesAt sv_targetParts sv_isRoot)), ((ma 16), .inl (cJ, 46080, .inr (.inl F)))] t.heap ∧ va_D (va_A [(h0, .inr (11, MO ma sv_thrown sv_length sv_nodes sv_many sv_directories sv_runsFrom sv_runs sv_read sv_wrong sv_isNamed sv_goes sv_goesSize sv_goesAt sv_targetParts sv_isRoot)), ((ma 16), .inl (cJ, 46080, .inr (.inl F)))] sz) [(h0, .inr (11, MO ma sv_thrown sv_length sv_nodes sv_many sv_directories sv_runsFrom sv_runs sv_read wr sv_isNamed sv_goes sv_goesSize sv_goesAt sv_targetParts sv_isRoot)), ((ma 16), .inl (cJ, 46080, .inr (.inl F)))]) (va_A [(h0, .inr (11, MO ma sv_thrown sv_length sv_nodes sv_many sv_directories sv_runsFrom sv_runs sv_read sv_wrong sv_isNamed sv_goes sv_goesSize sv_goesAt sv_targetParts sv_isRoot)), ((ma 16), .inl (cJ, 46080, .inr (.inl F)))] sz)) 0 0 (va_A [(h0, .inr (11, MO ma sv_thrown sv_length sv_nodes sv_many sv_directories sv_runsFrom sv_runs sv_read sv_wrong sv_isNamed sv_goes sv_goesSize sv_goesAt sv_targetParts sv_isRoot)), ((ma 16), .inl (cJ, 46080, .inr (.inl F)))] sz) := by
  refine Met.ofW (cc := b_DiscMakerModel_descriptor) (maxL := 7) (ret := some .int) (by decide) rfl ?_
  intro p e s m args below meth c s₁ B hml hv
  obtain ⟨rfl, hsz, hP, hK, hN, hD0⟩ := hv
  have hx := B.exec
  have hb := B.bytes
  have hr := B.returns
  have hts := atoms_spec (ws := w_DiscMakerModel_descriptor) B.pre
  have ht9 := fun (w : Cond) (h : w ∈ lw_g) => hts w (List.mem_cons_of_mem _ h)
  have hown : s.vm.findClass "DiscMakerModel" = some m.cls := findClass_of_methodNamed B.named
  have hlocks := B.notSynchronized
  subst hsz
  have hD := hD0.self (sz := s.heap.size)
  generalize hAe : va_A [(h0, .inr (11, MO ma sv_thrown sv_length sv_nodes sv_many sv_directories sv_runsFrom sv_runs sv_read sv_wrong sv_isNamed sv_goes sv_goesSize sv_goesAt sv_targetParts sv_isRoot)), ((ma 16), .inl (cJ, 46080, .inr (.inl F)))] s.heap.size = A at hD ⊢
  have hA : ∀ q : Nat, s.heap.size ≤ q → A q := fun q h => by rw [← hAe]; exact Or.inr h
  have hS : va_S A s.heap s.heap [] := va_S.rf
  have hP : va_P D CL [(h0, .inr (11, MO ma sv_thrown sv_length sv_nodes sv_many sv_directories sv_runsFrom sv_runs sv_read sv_wrong sv_isNamed sv_goes sv_goesSize sv_goesAt sv_targetParts sv_isRoot)), ((ma 16), .inl (cJ, 46080, .inr (.inl F)))] s.heap := hP
  have hl := lv_entry [.ref h0, .int x] (n := 7) (Nat.le_of_ble_eq_true rfl)
  rw [lg_entry_eq]
  generalize (lg_sl [.ref h0, .int x] ++ List.replicate (7 - (lg_sl [.ref h0, .int x]).length) Slot.unset).toArray = ls at hl ⊢
  have hl : lv_has ls 7 [(0, .ref h0), (1, .int x)] := hl
  have L_m1 : ((-1) : Int32).toInt = (-1) := by decide
  have L_0 : (0 : Int32).toInt = 0 := by decide
  have L_1 : (1 : Int32).toInt = 1 := by decide
  have L_2 : (2 : Int32).toInt = 2 := by decide
  have L_3 : (3 : Int32).toInt = 3 := by decide
  have L_4 : (4 : Int32).toInt = 4 := by decide
  have L_5 : (5 : Int32).toInt = 5 := by decide
  have L_6 : (6 : Int32).toInt = 6 := by decide
  have L_16 : (16 : Int32).toInt = 16 := by decide
  have L_37 : (37 : Int32).toInt = 37 := by decide
  have L_47 : (47 : Int32).toInt = 47 := by decide
  have L_48 : (48 : Int32).toInt = 48 := by decide
  have L_49 : (49 : Int32).toInt = 49 := by decide
  have L_67 : (67 : Int32).toInt = 67 := by decide
  have L_68 : (68 : Int32).toInt = 68 := by decide
  have L_69 : (69 : Int32).toInt = 69 := by decide
  have L_88 : (88 : Int32).toInt = 88 := by decide
  have L_89 : (89 : Int32).toInt = 89 := by decide
  have L_90 : (90 : Int32).toInt = 90 := by decide
  have L_255 : (255 : Int32).toInt = 255 := by decide
  have L_2048 : (2048 : Int32).toInt = 2048 := by decide
  refine lv_iconst (v := (-1)) hx hb d_DiscMakerModel_descriptor_0 (by decide) ?_
  refine lv_istore_n hx hb d_DiscMakerModel_descriptor_1 rfl hl (by decide) rfl (fun ls hl => ?_)
  have hl : lv_has ls 7 [(2, .int (-1)), (0, .ref h0), (1, .int x)] := hl
  refine lv_bipush (v := 16) hx hb d_DiscMakerModel_descriptor_2 (by decide) ?_
  refine lv_istore_n hx hb d_DiscMakerModel_descriptor_4 rfl hl (by decide) rfl (fun ls hl => ?_)
  have hl : lv_has ls 7 [(3, .int 16), (2, .int (-1)), (0, .ref h0), (1, .int x)] := hl
  refine zz_labM (B := fun (lk : Nat) (K : Heap → List Loc → Array Slot → List Value → Prop) => ∀ (wa : Int32) (sx : Int32) (H : Heap) (locs : List Loc) (ls : Array Slot), lk = (200 - sx.toInt).toNat → (16 ≤ sx.toInt ∧ sx.toInt ≤ 180) → (wa.toInt < 0 ∨ (0 ≤ wa.toInt ∧ wa.toInt + 2048 ≤ 2048 * sv_many.toInt)) → (sx.toInt ≤ sv_many.toInt ∨ sx.toInt = 16) → va_P D CL [(h0, .inr (11, MO ma sv_thrown sv_length sv_nodes sv_many sv_directories sv_runsFrom sv_runs sv_read sv_wrong sv_isNamed sv_goes sv_goesSize sv_goesAt sv_targetParts sv_isRoot)), ((ma 16), .inl (cJ, 46080, .inr (.inl F)))] H → va_D A [(h0, .inr (11, MO ma sv_thrown sv_length sv_nodes sv_many sv_directories sv_runsFrom sv_runs sv_read sv_wrong sv_isNamed sv_goes sv_goesSize sv_goesAt sv_targetParts sv_isRoot)), ((ma 16), .inl (cJ, 46080, .inr (.inl F)))] → va_S A s.heap H locs → lv_has ls 7 [(0, .ref h0), (1, .int x), (2, .int wa), (3, .int sx)] → K H locs ls []) 5 ?_ ?_
  · skip
    intro lk ih5 wa sx H locs ls hm5 f1 f2 f3 hP hD hS hl
    refine lv_sipush (v := 2048) hx hb d_DiscMakerModel_descriptor_5 (by decide) ?_
    refine lv_iload_n hx hb d_DiscMakerModel_descriptor_8 rfl (lv_at hl 3 rfl) ?_
    refine lv_imul hx hb d_DiscMakerModel_descriptor_9 ?_
    refine lv_topi (fun v1 e_v1 => ?_)
    have t_v1 : v1.toInt = 2048 * sx.toInt := by rw [e_v1]; exact i_mul (by decide) rfl (by omega) (by omega)
    refine lv_istore hx hb d_DiscMakerModel_descriptor_10 hl (by decide) rfl (fun ls hl => ?_)
    have hl : lv_has ls 7 [(4, .int v1), (0, .ref h0), (1, .int x), (2, .int wa), (3, .int sx)] := hl
    refine lv_iload_n hx hb d_DiscMakerModel_descriptor_12 rfl (lv_at hl 4 rfl) ?_
    refine lv_aload_n hx hb d_DiscMakerModel_descriptor_13 rfl (lv_at hl 1 rfl) ?_
    refine va_get (D := D) (ci := 11) (v := .int sv_many) (C := "DiscMakerModel") (T := F_DiscMakerModel) (N := 48) hx hb ht9 in_DiscMakerModel hown hK hP 0 rfl rfl 20 (by decide) (ht9 _ k1451) (fun _ h9 => h9) rfl d_DiscMakerModel_descriptor_14 ?_
    refine lv_icmp_ge (tgt := 102) hx hb d_DiscMakerModel_descriptor_17 (by decide) (fun h_9 => ?_) (fun h_9 => ?_)
    · skip
      have g17_12 : sv_many.toInt ≤ sx.toInt := (i_le rfl rfl).mp h_9
      refine lv_iconst (v := 0) hx hb d_DiscMakerModel_descriptor_102 (by decide) ?_
      refine lv_istore hx hb d_DiscMakerModel_descriptor_103 hl (by decide) rfl (fun ls hl => ?_)
      have hl : lv_has ls 7 [(5, .int 0), (4, .int v1), (0, .ref h0), (1, .int x), (2, .int wa), (3, .int sx)] := hl
      refine lv_iload hx hb d_DiscMakerModel_descriptor_105 (lv_at hl 0 rfl) ?_
      refine lv_if_ne (tgt := 119) hx hb d_DiscMakerModel_descriptor_107 (by decide) (fun h_9 => absurd (by decide) h_9) (fun _ => ?_)
      refine lv_aload_n hx hb d_DiscMakerModel_descriptor_110 rfl (lv_at hl 2 rfl) ?_
      refine lv_iload hx hb d_DiscMakerModel_descriptor_111 (lv_at hl 1 rfl) ?_
      have hPc := hP.sub (ws' := [(h0, .inr (11, MO ma sv_thrown sv_length sv_nodes sv_many sv_directories sv_runsFrom sv_runs sv_read sv_wrong sv_isNamed sv_goes sv_goesSize sv_goesAt sv_targetParts sv_isRoot))]) [0] rfl
      have hDc := hD.sub (ws' := [(h0, .inr (11, MO ma sv_thrown sv_length sv_nodes sv_many sv_directories sv_runsFrom sv_runs sv_read sv_wrong sv_isNamed sv_goes sv_goesSize sv_goesAt sv_targetParts sv_isRoot))]) [0] (by decide +kernel) rfl
      have hFc := va_free (wc := [(h0, .inr (11, MO ma sv_thrown sv_length sv_nodes sv_many sv_directories sv_runsFrom sv_runs sv_read sv_wrong sv_isNamed sv_goes sv_goesSize sv_goesAt sv_targetParts sv_isRoot))]) hD hS hA [0] rfl
      have hkc : 0 ≤ 0 := by decide
      have hks : 0 ≤ 0 := by decide
      refine va_calli (va_runV (C := "DiscMakerModel") (As := [.int v1]) (rest := []) ⟨hx, hb, hml, hown, hts⟩ (m_isWrong l D cB cI cJ cZ cN cF H.size h0 ma sv_thrown sv_length sv_nodes sv_many sv_directories sv_runsFrom sv_runs sv_read sv_wrong sv_isNamed sv_goes sv_goesSize sv_goesAt sv_targetParts sv_isRoot v1) (cwV 1 hts (lg_goodV k1833 k1835 k98 k125 kc_DiscMakerModel_isWrong) rfl rfl rfl (by decide +kernel) ⟨Nat.le_of_ble_eq_true rfl, Nat.le_of_ble_eq_true rfl⟩) ⟨fun a U g mk q => by obtain ⟨q0, q1, qP, qK, qN, qD⟩ := q; exact ⟨q0, q1, qP, va_K.moved (u := U) (U := U.calling g mk a) (Vm.Alike.refl U.vm) qK, qN.calling, qD⟩, va_recv hK hP (ci := 11) (q0 := 0) rfl rfl, fun U hU hW => ⟨rfl, by rw [hU], by rw [hU]; exact hPc, va_K.moved hW.alike hK, NN.warm hW hN, hDc.weaken (fun _ _ _ _ => trivial)⟩⟩ rfl rfl hl.1 rfl (lv_room (Nat.le_of_ble_eq_true rfl)) d_DiscMakerModel_descriptor_113 ⟨hkc, hks⟩) hS (fun q _ h => hFc q h) hFc (fun r2 u t H1 locs ht hvm hp_r2 hB hz1 hk1 hS => ?_)
      obtain ⟨wr_3, rfl⟩ : ∃ z, z = u := ⟨_, rfl⟩
      obtain ⟨hP1, hD1⟩ := hB
      rw [ht] at hP1
      obtain ⟨hP, hD⟩ := va_join (wr := [((ma 16), .inl (cJ, 46080, .inr (.inl F)))]) (w1 := [(h0, .inr (11, MO ma sv_thrown sv_length sv_nodes sv_many sv_directories sv_runsFrom sv_runs sv_read wr_3 sv_isNamed sv_goes sv_goesSize sv_goesAt sv_targetParts sv_isRoot))]) hP hD [0] [1] rfl rfl (by decide +kernel) (by decide +kernel) hk1 hFc hP1 hD1
      clear hPc hDc hFc hP1 hD1 hk1 hz1 hkc hks
      generalize H1 = H at hP hS ⊢
      have hP : va_P D CL [((ma 16), .inl (cJ, 46080, .inr (.inl F))), (h0, .inr (11, MO ma sv_thrown sv_length sv_nodes sv_many sv_directories sv_runsFrom sv_runs sv_read wr_3 sv_isNamed sv_goes sv_goesSize sv_goesAt sv_targetParts sv_isRoot))] H := hP
      have hD : va_D A [((ma 16), .inl (cJ, 46080, .inr (.inl F))), (h0, .inr (11, MO ma sv_thrown sv_length sv_nodes sv_many sv_directories sv_runsFrom sv_runs sv_read wr_3 sv_isNamed sv_goes sv_goesSize sv_goesAt sv_targetParts sv_isRoot))] := hD
      try dsimp only at hp_r2
      have hr_4 := hp_r2
      refine lv_pop hx hb d_DiscMakerModel_descriptor_116 rfl ?_
      refine lv_iconst (v := (-1)) hx hb d_DiscMakerModel_descriptor_117 (by decide) ?_
      have hP9 := hP.sub (ws' := [(h0, .inr (11, MO ma sv_thrown sv_length sv_nodes sv_many sv_directories sv_runsFrom sv_runs sv_read wr_3 sv_isNamed sv_goes sv_goesSize sv_goesAt sv_targetParts sv_isRoot)), ((ma 16), .inl (cJ, 46080, .inr (.inl F)))]) [1, 0] rfl
      have hD9 := hD.sub (ws' := [(h0, .inr (11, MO ma sv_thrown sv_length sv_nodes sv_many sv_directories sv_runsFrom sv_runs sv_read wr_3 sv_isNamed sv_goes sv_goesSize sv_goesAt sv_targetParts sv_isRoot)), ((ma 16), .inl (cJ, 46080, .inr (.inl F)))]) [1, 0] (by decide +kernel) rfl
      exact W.iret (v := (-1)) hx hb hr (fun t ht hW => ⟨⟨(-1), wr_3, rfl, (by (try dsimp only); first | assumption | omega | trivial), by rw [ht]; exact hP9, hD9⟩, hS.F ht⟩) hS.2.2 d_DiscMakerModel_descriptor_118
    · skip
      have g17_12 : ¬ sv_many.toInt ≤ sx.toInt := fun h8 => h_9 ((i_le rfl rfl).mpr h8)
      refine lv_aload_n hx hb d_DiscMakerModel_descriptor_20 rfl (lv_at hl 1 rfl) ?_
      refine lv_iload hx hb d_DiscMakerModel_descriptor_21 (lv_at hl 0 rfl) ?_
      refine lv_iconst (v := 1) hx hb d_DiscMakerModel_descriptor_23 (by decide) ?_
      refine lv_iadd hx hb d_DiscMakerModel_descriptor_24 ?_
      refine lv_topi (fun v5 e_v5 => ?_)
      have t_v5 : v5.toInt = v1.toInt + 1 := by rw [e_v5]; exact i_add rfl (by decide) (by omega) (by omega)
      have hPc := hP.sub (ws' := [(h0, .inr (11, MO ma sv_thrown sv_length sv_nodes sv_many sv_directories sv_runsFrom sv_runs sv_read sv_wrong sv_isNamed sv_goes sv_goesSize sv_goesAt sv_targetParts sv_isRoot)), ((ma 16), .inl (cJ, 46080, .inr (.inl F)))]) [0, 1] rfl
      have hDc := hD.sub (ws' := [(h0, .inr (11, MO ma sv_thrown sv_length sv_nodes sv_many sv_directories sv_runsFrom sv_runs sv_read sv_wrong sv_isNamed sv_goes sv_goesSize sv_goesAt sv_targetParts sv_isRoot)), ((ma 16), .inl (cJ, 46080, .inr (.inl F)))]) [0, 1] (by decide +kernel) rfl
      have hFc := va_free (wc := [(h0, .inr (11, MO ma sv_thrown sv_length sv_nodes sv_many sv_directories sv_runsFrom sv_runs sv_read sv_wrong sv_isNamed sv_goes sv_goesSize sv_goesAt sv_targetParts sv_isRoot)), ((ma 16), .inl (cJ, 46080, .inr (.inl F)))]) hD hS hA [0, 1] rfl
      have hkc : 0 ≤ 0 := by decide
      have hks : 0 ≤ 0 := by decide
      refine va_calli (va_runV (C := "DiscMakerModel") (As := [.int v5]) (rest := []) ⟨hx, hb, hml, hown, hts⟩ (m_at l D cB cI cJ cZ cN cF H.size h0 ma sv_thrown sv_length sv_nodes sv_many sv_directories sv_runsFrom sv_runs sv_read sv_wrong sv_isNamed sv_goes sv_goesSize sv_goesAt sv_targetParts sv_isRoot F v5 (by (try dsimp only); first | assumption | omega | trivial) (by (try dsimp only); first | assumption | omega | trivial)) (cwV 1 hts (lg_goodV k1809 k1811 k95 k125 kc_DiscMakerModel_at) rfl rfl rfl (by decide +kernel) ⟨Nat.le_of_ble_eq_true rfl, Nat.le_of_ble_eq_true rfl⟩) ⟨fun a U g mk q => by obtain ⟨q0, q1, qP, qK, qN, qD⟩ := q; exact ⟨q0, q1, qP, va_K.moved (u := U) (U := U.calling g mk a) (Vm.Alike.refl U.vm) qK, qN.calling, qD⟩, va_recv hK hP (ci := 11) (q0 := 0) rfl rfl, fun U hU hW => ⟨rfl, by rw [hU], by rw [hU]; exact hPc, va_K.moved hW.alike hK, NN.warm hW hN, hDc.weaken (fun _ _ _ _ => trivial)⟩⟩ rfl rfl hl.1 rfl (lv_room (Nat.le_of_ble_eq_true rfl)) d_DiscMakerModel_descriptor_25 ⟨hkc, hks⟩) hS (fun q _ h => hFc q h) hFc (fun r6 u t H1 locs ht hvm hp_r6 hB hz1 hk1 hS => ?_)
      obtain ⟨hP1, hD1⟩ := hB
      rw [ht] at hP1
      obtain ⟨hP, hD⟩ := va_join (wr := []) (w1 := [(h0, .inr (11, MO ma sv_thrown sv_length sv_nodes sv_many sv_directories sv_runsFrom sv_runs sv_read sv_wrong sv_isNamed sv_goes sv_goesSize sv_goesAt sv_targetParts sv_isRoot)), ((ma 16), .inl (cJ, 46080, .inr (.inl F)))]) hP hD [0, 1] [] rfl rfl (by decide +kernel) (by decide +kernel) hk1 hFc hP1 hD1
      clear hPc hDc hFc hP1 hD1 hk1 hz1 hkc hks
      generalize H1 = H at hP hS ⊢
      have hP : va_P D CL [(h0, .inr (11, MO ma sv_thrown sv_length sv_nodes sv_many sv_directories sv_runsFrom sv_runs sv_read sv_wrong sv_isNamed sv_goes sv_goesSize sv_goesAt sv_targetParts sv_isRoot)), ((ma 16), .inl (cJ, 46080, .inr (.inl F)))] H := hP
      have hD : va_D A [(h0, .inr (11, MO ma sv_thrown sv_length sv_nodes sv_many sv_directories sv_runsFrom sv_runs sv_read sv_wrong sv_isNamed sv_goes sv_goesSize sv_goesAt sv_targetParts sv_isRoot)), ((ma 16), .inl (cJ, 46080, .inr (.inl F)))] := hD
      try dsimp only at hp_r6
      obtain ⟨hr_7, hv_8, hw_9⟩ := hp_r6
      refine lv_bipush (v := 67) hx hb d_DiscMakerModel_descriptor_28 (by decide) ?_
      refine lv_icmp_ne (tgt := 102) hx hb d_DiscMakerModel_descriptor_30 (by decide) (fun h_9 => ?_) (fun h_9 => ?_)
      · skip
        have g30_29 : ¬ r6.toInt = 67 := fun h8 => h_9 ((i_eq rfl (by decide)).mpr h8)
        refine lv_iconst (v := 0) hx hb d_DiscMakerModel_descriptor_102 (by decide) ?_
        refine lv_istore hx hb d_DiscMakerModel_descriptor_103 hl (by decide) rfl (fun ls hl => ?_)
        have hl : lv_has ls 7 [(5, .int 0), (4, .int v1), (0, .ref h0), (1, .int x), (2, .int wa), (3, .int sx)] := hl
        refine lv_iload hx hb d_DiscMakerModel_descriptor_105 (lv_at hl 0 rfl) ?_
        refine lv_if_ne (tgt := 119) hx hb d_DiscMakerModel_descriptor_107 (by decide) (fun h_9 => absurd (by decide) h_9) (fun _ => ?_)
        refine lv_aload_n hx hb d_DiscMakerModel_descriptor_110 rfl (lv_at hl 2 rfl) ?_
        refine lv_iload hx hb d_DiscMakerModel_descriptor_111 (lv_at hl 1 rfl) ?_
        have hPc := hP.sub (ws' := [(h0, .inr (11, MO ma sv_thrown sv_length sv_nodes sv_many sv_directories sv_runsFrom sv_runs sv_read sv_wrong sv_isNamed sv_goes sv_goesSize sv_goesAt sv_targetParts sv_isRoot))]) [0] rfl
        have hDc := hD.sub (ws' := [(h0, .inr (11, MO ma sv_thrown sv_length sv_nodes sv_many sv_directories sv_runsFrom sv_runs sv_read sv_wrong sv_isNamed sv_goes sv_goesSize sv_goesAt sv_targetParts sv_isRoot))]) [0] (by decide +kernel) rfl
        have hFc := va_free (wc := [(h0, .inr (11, MO ma sv_thrown sv_length sv_nodes sv_many sv_directories sv_runsFrom sv_runs sv_read sv_wrong sv_isNamed sv_goes sv_goesSize sv_goesAt sv_targetParts sv_isRoot))]) hD hS hA [0] rfl
        have hkc : 0 ≤ 0 := by decide
        have hks : 0 ≤ 0 := by decide
        refine va_calli (va_runV (C := "DiscMakerModel") (As := [.int v1]) (rest := []) ⟨hx, hb, hml, hown, hts⟩ (m_isWrong l D cB cI cJ cZ cN cF H.size h0 ma sv_thrown sv_length sv_nodes sv_many sv_directories sv_runsFrom sv_runs sv_read sv_wrong sv_isNamed sv_goes sv_goesSize sv_goesAt sv_targetParts sv_isRoot v1) (cwV 1 hts (lg_goodV k1833 k1835 k98 k125 kc_DiscMakerModel_isWrong) rfl rfl rfl (by decide +kernel) ⟨Nat.le_of_ble_eq_true rfl, Nat.le_of_ble_eq_true rfl⟩) ⟨fun a U g mk q => by obtain ⟨q0, q1, qP, qK, qN, qD⟩ := q; exact ⟨q0, q1, qP, va_K.moved (u := U) (U := U.calling g mk a) (Vm.Alike.refl U.vm) qK, qN.calling, qD⟩, va_recv hK hP (ci := 11) (q0 := 0) rfl rfl, fun U hU hW => ⟨rfl, by rw [hU], by rw [hU]; exact hPc, va_K.moved hW.alike hK, NN.warm hW hN, hDc.weaken (fun _ _ _ _ => trivial)⟩⟩ rfl rfl hl.1 rfl (lv_room (Nat.le_of_ble_eq_true rfl)) d_DiscMakerModel_descriptor_113 ⟨hkc, hks⟩) hS (fun q _ h => hFc q h) hFc (fun r10 u t H1 locs ht hvm hp_r10 hB hz1 hk1 hS => ?_)
        obtain ⟨wr_11, rfl⟩ : ∃ z, z = u := ⟨_, rfl⟩
        obtain ⟨hP1, hD1⟩ := hB
        rw [ht] at hP1
        obtain ⟨hP, hD⟩ := va_join (wr := [((ma 16), .inl (cJ, 46080, .inr (.inl F)))]) (w1 := [(h0, .inr (11, MO ma sv_thrown sv_length sv_nodes sv_many sv_directories sv_runsFrom sv_runs sv_read wr_11 sv_isNamed sv_goes sv_goesSize sv_goesAt sv_targetParts sv_isRoot))]) hP hD [0] [1] rfl rfl (by decide +kernel) (by decide +kernel) hk1 hFc hP1 hD1
        clear hPc hDc hFc hP1 hD1 hk1 hz1 hkc hks
        generalize H1 = H at hP hS ⊢
        have hP : va_P D CL [((ma 16), .inl (cJ, 46080, .inr (.inl F))), (h0, .inr (11, MO ma sv_thrown sv_length sv_nodes sv_many sv_directories sv_runsFrom sv_runs sv_read wr_11 sv_isNamed sv_goes sv_goesSize sv_goesAt sv_targetParts sv_isRoot))] H := hP
        have hD : va_D A [((ma 16), .inl (cJ, 46080, .inr (.inl F))), (h0, .inr (11, MO ma sv_thrown sv_length sv_nodes sv_many sv_directories sv_runsFrom sv_runs sv_read wr_11 sv_isNamed sv_goes sv_goesSize sv_goesAt sv_targetParts sv_isRoot))] := hD
        try dsimp only at hp_r10
        have hr_12 := hp_r10
        refine lv_pop hx hb d_DiscMakerModel_descriptor_116 rfl ?_
        refine lv_iconst (v := (-1)) hx hb d_DiscMakerModel_descriptor_117 (by decide) ?_
        have hP9 := hP.sub (ws' := [(h0, .inr (11, MO ma sv_thrown sv_length sv_nodes sv_many sv_directories sv_runsFrom sv_runs sv_read wr_11 sv_isNamed sv_goes sv_goesSize sv_goesAt sv_targetParts sv_isRoot)), ((ma 16), .inl (cJ, 46080, .inr (.inl F)))]) [1, 0] rfl
        have hD9 := hD.sub (ws' := [(h0, .inr (11, MO ma sv_thrown sv_length sv_nodes sv_many sv_directories sv_runsFrom sv_runs sv_read wr_11 sv_isNamed sv_goes sv_goesSize sv_goesAt sv_targetParts sv_isRoot)), ((ma 16), .inl (cJ, 46080, .inr (.inl F)))]) [1, 0] (by decide +kernel) rfl
        exact W.iret (v := (-1)) hx hb hr (fun t ht hW => ⟨⟨(-1), wr_11, rfl, (by (try dsimp only); first | assumption | omega | trivial), by rw [ht]; exact hP9, hD9⟩, hS.F ht⟩) hS.2.2 d_DiscMakerModel_descriptor_118
      · skip
        have g30_29 : r6.toInt = 67 := (i_eq rfl (by decide)).mp h_9
        refine lv_aload_n hx hb d_DiscMakerModel_descriptor_33 rfl (lv_at hl 1 rfl) ?_
        refine lv_iload hx hb d_DiscMakerModel_descriptor_34 (lv_at hl 0 rfl) ?_
        refine lv_iconst (v := 2) hx hb d_DiscMakerModel_descriptor_36 (by decide) ?_
        refine lv_iadd hx hb d_DiscMakerModel_descriptor_37 ?_
        refine lv_topi (fun v13 e_v13 => ?_)
        have t_v13 : v13.toInt = v1.toInt + 2 := by rw [e_v13]; exact i_add rfl (by decide) (by omega) (by omega)
        have hPc := hP.sub (ws' := [(h0, .inr (11, MO ma sv_thrown sv_length sv_nodes sv_many sv_directories sv_runsFrom sv_runs sv_read sv_wrong sv_isNamed sv_goes sv_goesSize sv_goesAt sv_targetParts sv_isRoot)), ((ma 16), .inl (cJ, 46080, .inr (.inl F)))]) [0, 1] rfl
        have hDc := hD.sub (ws' := [(h0, .inr (11, MO ma sv_thrown sv_length sv_nodes sv_many sv_directories sv_runsFrom sv_runs sv_read sv_wrong sv_isNamed sv_goes sv_goesSize sv_goesAt sv_targetParts sv_isRoot)), ((ma 16), .inl (cJ, 46080, .inr (.inl F)))]) [0, 1] (by decide +kernel) rfl
        have hFc := va_free (wc := [(h0, .inr (11, MO ma sv_thrown sv_length sv_nodes sv_many sv_directories sv_runsFrom sv_runs sv_read sv_wrong sv_isNamed sv_goes sv_goesSize sv_goesAt sv_targetParts sv_isRoot)), ((ma 16), .inl (cJ, 46080, .inr (.inl F)))]) hD hS hA [0, 1] rfl
        have hkc : 0 ≤ 0 := by decide
        have hks : 0 ≤ 0 := by decide
        refine va_calli (va_runV (C := "DiscMakerModel") (As := [.int v13]) (rest := []) ⟨hx, hb, hml, hown, hts⟩ (m_at l D cB cI cJ cZ cN cF H.size h0 ma sv_thrown sv_length sv_nodes sv_many sv_directories sv_runsFrom sv_runs sv_read sv_wrong sv_isNamed sv_goes sv_goesSize sv_goesAt sv_targetParts sv_isRoot F v13 (by (try dsimp only); first | assumption | omega | trivial) (by (try dsimp only); first | assumption | omega | trivial)) (cwV 1 hts (lg_goodV k1809 k1811 k95 k125 kc_DiscMakerModel_at) rfl rfl rfl (by decide +kernel) ⟨Nat.le_of_ble_eq_true rfl, Nat.le_of_ble_eq_true rfl⟩) ⟨fun a U g mk q => by obtain ⟨q0, q1, qP, qK, qN, qD⟩ := q; exact ⟨q0, q1, qP, va_K.moved (u := U) (U := U.calling g mk a) (Vm.Alike.refl U.vm) qK, qN.calling, qD⟩, va_recv hK hP (ci := 11) (q0 := 0) rfl rfl, fun U hU hW => ⟨rfl, by rw [hU], by rw [hU]; exact hPc, va_K.moved hW.alike hK, NN.warm hW hN, hDc.weaken (fun _ _ _ _ => trivial)⟩⟩ rfl rfl hl.1 rfl (lv_room (Nat.le_of_ble_eq_true rfl)) d_DiscMakerModel_descriptor_38 ⟨hkc, hks⟩) hS (fun q _ h => hFc q h) hFc (fun r14 u t H1 locs ht hvm hp_r14 hB hz1 hk1 hS => ?_)
        obtain ⟨hP1, hD1⟩ := hB
        rw [ht] at hP1
        obtain ⟨hP, hD⟩ := va_join (wr := []) (w1 := [(h0, .inr (11, MO ma sv_thrown sv_length sv_nodes sv_many sv_directories sv_runsFrom sv_runs sv_read sv_wrong sv_isNamed sv_goes sv_goesSize sv_goesAt sv_targetParts sv_isRoot)), ((ma 16), .inl (cJ, 46080, .inr (.inl F)))]) hP hD [0, 1] [] rfl rfl (by decide +kernel) (by decide +kernel) hk1 hFc hP1 hD1
        clear hPc hDc hFc hP1 hD1 hk1 hz1 hkc hks
        generalize H1 = H at hP hS ⊢
        have hP : va_P D CL [(h0, .inr (11, MO ma sv_thrown sv_length sv_nodes sv_many sv_directories sv_runsFrom sv_runs sv_read sv_wrong sv_isNamed sv_goes sv_goesSize sv_goesAt sv_targetParts sv_isRoot)), ((ma 16), .inl (cJ, 46080, .inr (.inl F)))] H := hP
        have hD : va_D A [(h0, .inr (11, MO ma sv_thrown sv_length sv_nodes sv_many sv_directories sv_runsFrom sv_runs sv_read sv_wrong sv_isNamed sv_goes sv_goesSize sv_goesAt sv_targetParts sv_isRoot)), ((ma 16), .inl (cJ, 46080, .inr (.inl F)))] := hD
        try dsimp only at hp_r14
        obtain ⟨hr_15, hv_16, hw_17⟩ := hp_r14
        refine lv_bipush (v := 68) hx hb d_DiscMakerModel_descriptor_41 (by decide) ?_
        refine lv_icmp_ne (tgt := 102) hx hb d_DiscMakerModel_descriptor_43 (by decide) (fun h_9 => ?_) (fun h_9 => ?_)
        · skip
          have g43_46 : ¬ r14.toInt = 68 := fun h8 => h_9 ((i_eq rfl (by decide)).mpr h8)
          refine lv_iconst (v := 0) hx hb d_DiscMakerModel_descriptor_102 (by decide) ?_
          refine lv_istore hx hb d_DiscMakerModel_descriptor_103 hl (by decide) rfl (fun ls hl => ?_)
          have hl : lv_has ls 7 [(5, .int 0), (4, .int v1), (0, .ref h0), (1, .int x), (2, .int wa), (3, .int sx)] := hl
          refine lv_iload hx hb d_DiscMakerModel_descriptor_105 (lv_at hl 0 rfl) ?_
          refine lv_if_ne (tgt := 119) hx hb d_DiscMakerModel_descriptor_107 (by decide) (fun h_9 => absurd (by decide) h_9) (fun _ => ?_)
          refine lv_aload_n hx hb d_DiscMakerModel_descriptor_110 rfl (lv_at hl 2 rfl) ?_
          refine lv_iload hx hb d_DiscMakerModel_descriptor_111 (lv_at hl 1 rfl) ?_
          have hPc := hP.sub (ws' := [(h0, .inr (11, MO ma sv_thrown sv_length sv_nodes sv_many sv_directories sv_runsFrom sv_runs sv_read sv_wrong sv_isNamed sv_goes sv_goesSize sv_goesAt sv_targetParts sv_isRoot))]) [0] rfl
          have hDc := hD.sub (ws' := [(h0, .inr (11, MO ma sv_thrown sv_length sv_nodes sv_many sv_directories sv_runsFrom sv_runs sv_read sv_wrong sv_isNamed sv_goes sv_goesSize sv_goesAt sv_targetParts sv_isRoot))]) [0] (by decide +kernel) rfl
          have hFc := va_free (wc := [(h0, .inr (11, MO ma sv_thrown sv_length sv_nodes sv_many sv_directories sv_runsFrom sv_runs sv_read sv_wrong sv_isNamed sv_goes sv_goesSize sv_goesAt sv_targetParts sv_isRoot))]) hD hS hA [0] rfl
          have hkc : 0 ≤ 0 := by decide
          have hks : 0 ≤ 0 := by decide
          refine va_calli (va_runV (C := "DiscMakerModel") (As := [.int v1]) (rest := []) ⟨hx, hb, hml, hown, hts⟩ (m_isWrong l D cB cI cJ cZ cN cF H.size h0 ma sv_thrown sv_length sv_nodes sv_many sv_directories sv_runsFrom sv_runs sv_read sv_wrong sv_isNamed sv_goes sv_goesSize sv_goesAt sv_targetParts sv_isRoot v1) (cwV 1 hts (lg_goodV k1833 k1835 k98 k125 kc_DiscMakerModel_isWrong) rfl rfl rfl (by decide +kernel) ⟨Nat.le_of_ble_eq_true rfl, Nat.le_of_ble_eq_true rfl⟩) ⟨fun a U g mk q => by obtain ⟨q0, q1, qP, qK, qN, qD⟩ := q; exact ⟨q0, q1, qP, va_K.moved (u := U) (U := U.calling g mk a) (Vm.Alike.refl U.vm) qK, qN.calling, qD⟩, va_recv hK hP (ci := 11) (q0 := 0) rfl rfl, fun U hU hW => ⟨rfl, by rw [hU], by rw [hU]; exact hPc, va_K.moved hW.alike hK, NN.warm hW hN, hDc.weaken (fun _ _ _ _ => trivial)⟩⟩ rfl rfl hl.1 rfl (lv_room (Nat.le_of_ble_eq_true rfl)) d_DiscMakerModel_descriptor_113 ⟨hkc, hks⟩) hS (fun q _ h => hFc q h) hFc (fun r18 u t H1 locs ht hvm hp_r18 hB hz1 hk1 hS => ?_)
          obtain ⟨wr_19, rfl⟩ : ∃ z, z = u := ⟨_, rfl⟩
          obtain ⟨hP1, hD1⟩ := hB
          rw [ht] at hP1
          obtain ⟨hP, hD⟩ := va_join (wr := [((ma 16), .inl (cJ, 46080, .inr (.inl F)))]) (w1 := [(h0, .inr (11, MO ma sv_thrown sv_length sv_nodes sv_many sv_directories sv_runsFrom sv_runs sv_read wr_19 sv_isNamed sv_goes sv_goesSize sv_goesAt sv_targetParts sv_isRoot))]) hP hD [0] [1] rfl rfl (by decide +kernel) (by decide +kernel) hk1 hFc hP1 hD1
          clear hPc hDc hFc hP1 hD1 hk1 hz1 hkc hks
          generalize H1 = H at hP hS ⊢
          have hP : va_P D CL [((ma 16), .inl (cJ, 46080, .inr (.inl F))), (h0, .inr (11, MO ma sv_thrown sv_length sv_nodes sv_many sv_directories sv_runsFrom sv_runs sv_read wr_19 sv_isNamed sv_goes sv_goesSize sv_goesAt sv_targetParts sv_isRoot))] H := hP
          have hD : va_D A [((ma 16), .inl (cJ, 46080, .inr (.inl F))), (h0, .inr (11, MO ma sv_thrown sv_length sv_nodes sv_many sv_directories sv_runsFrom sv_runs sv_read wr_19 sv_isNamed sv_goes sv_goesSize sv_goesAt sv_targetParts sv_isRoot))] := hD
          try dsimp only at hp_r18
          have hr_20 := hp_r18
          refine lv_pop hx hb d_DiscMakerModel_descriptor_116 rfl ?_
          refine lv_iconst (v := (-1)) hx hb d_DiscMakerModel_descriptor_117 (by decide) ?_
          have hP9 := hP.sub (ws' := [(h0, .inr (11, MO ma sv_thrown sv_length sv_nodes sv_many sv_directories sv_runsFrom sv_runs sv_read wr_19 sv_isNamed sv_goes sv_goesSize sv_goesAt sv_targetParts sv_isRoot)), ((ma 16), .inl (cJ, 46080, .inr (.inl F)))]) [1, 0] rfl
          have hD9 := hD.sub (ws' := [(h0, .inr (11, MO ma sv_thrown sv_length sv_nodes sv_many sv_directories sv_runsFrom sv_runs sv_read wr_19 sv_isNamed sv_goes sv_goesSize sv_goesAt sv_targetParts sv_isRoot)), ((ma 16), .inl (cJ, 46080, .inr (.inl F)))]) [1, 0] (by decide +kernel) rfl
          exact W.iret (v := (-1)) hx hb hr (fun t ht hW => ⟨⟨(-1), wr_19, rfl, (by (try dsimp only); first | assumption | omega | trivial), by rw [ht]; exact hP9, hD9⟩, hS.F ht⟩) hS.2.2 d_DiscMakerModel_descriptor_118
        · skip
          have g43_46 : r14.toInt = 68 := (i_eq rfl (by decide)).mp h_9
          refine lv_aload_n hx hb d_DiscMakerModel_descriptor_46 rfl (lv_at hl 1 rfl) ?_
          refine lv_iload hx hb d_DiscMakerModel_descriptor_47 (lv_at hl 0 rfl) ?_
          refine lv_iconst (v := 3) hx hb d_DiscMakerModel_descriptor_49 (by decide) ?_
          refine lv_iadd hx hb d_DiscMakerModel_descriptor_50 ?_
          refine lv_topi (fun v21 e_v21 => ?_)
          have t_v21 : v21.toInt = v1.toInt + 3 := by rw [e_v21]; exact i_add rfl (by decide) (by omega) (by omega)
          have hPc := hP.sub (ws' := [(h0, .inr (11, MO ma sv_thrown sv_length sv_nodes sv_many sv_directories sv_runsFrom sv_runs sv_read sv_wrong sv_isNamed sv_goes sv_goesSize sv_goesAt sv_targetParts sv_isRoot)), ((ma 16), .inl (cJ, 46080, .inr (.inl F)))]) [0, 1] rfl
          have hDc := hD.sub (ws' := [(h0, .inr (11, MO ma sv_thrown sv_length sv_nodes sv_many sv_directories sv_runsFrom sv_runs sv_read sv_wrong sv_isNamed sv_goes sv_goesSize sv_goesAt sv_targetParts sv_isRoot)), ((ma 16), .inl (cJ, 46080, .inr (.inl F)))]) [0, 1] (by decide +kernel) rfl
          have hFc := va_free (wc := [(h0, .inr (11, MO ma sv_thrown sv_length sv_nodes sv_many sv_directories sv_runsFrom sv_runs sv_read sv_wrong sv_isNamed sv_goes sv_goesSize sv_goesAt sv_targetParts sv_isRoot)), ((ma 16), .inl (cJ, 46080, .inr (.inl F)))]) hD hS hA [0, 1] rfl
          have hkc : 0 ≤ 0 := by decide
          have hks : 0 ≤ 0 := by decide
          refine va_calli (va_runV (C := "DiscMakerModel") (As := [.int v21]) (rest := []) ⟨hx, hb, hml, hown, hts⟩ (m_at l D cB cI cJ cZ cN cF H.size h0 ma sv_thrown sv_length sv_nodes sv_many sv_directories sv_runsFrom sv_runs sv_read sv_wrong sv_isNamed sv_goes sv_goesSize sv_goesAt sv_targetParts sv_isRoot F v21 (by (try dsimp only); first | assumption | omega | trivial) (by (try dsimp only); first | assumption | omega | trivial)) (cwV 1 hts (lg_goodV k1809 k1811 k95 k125 kc_DiscMakerModel_at) rfl rfl rfl (by decide +kernel) ⟨Nat.le_of_ble_eq_true rfl, Nat.le_of_ble_eq_true rfl⟩) ⟨fun a U g mk q => by obtain ⟨q0, q1, qP, qK, qN, qD⟩ := q; exact ⟨q0, q1, qP, va_K.moved (u := U) (U := U.calling g mk a) (Vm.Alike.refl U.vm) qK, qN.calling, qD⟩, va_recv hK hP (ci := 11) (q0 := 0) rfl rfl, fun U hU hW => ⟨rfl, by rw [hU], by rw [hU]; exact hPc, va_K.moved hW.alike hK, NN.warm hW hN, hDc.weaken (fun _ _ _ _ => trivial)⟩⟩ rfl rfl hl.1 rfl (lv_room (Nat.le_of_ble_eq_true rfl)) d_DiscMakerModel_descriptor_51 ⟨hkc, hks⟩) hS (fun q _ h => hFc q h) hFc (fun r22 u t H1 locs ht hvm hp_r22 hB hz1 hk1 hS => ?_)
          obtain ⟨hP1, hD1⟩ := hB
          rw [ht] at hP1
          obtain ⟨hP, hD⟩ := va_join (wr := []) (w1 := [(h0, .inr (11, MO ma sv_thrown sv_length sv_nodes sv_many sv_directories sv_runsFrom sv_runs sv_read sv_wrong sv_isNamed sv_goes sv_goesSize sv_goesAt sv_targetParts sv_isRoot)), ((ma 16), .inl (cJ, 46080, .inr (.inl F)))]) hP hD [0, 1] [] rfl rfl (by decide +kernel) (by decide +kernel) hk1 hFc hP1 hD1
          clear hPc hDc hFc hP1 hD1 hk1 hz1 hkc hks
          generalize H1 = H at hP hS ⊢
          have hP : va_P D CL [(h0, .inr (11, MO ma sv_thrown sv_length sv_nodes sv_many sv_directories sv_runsFrom sv_runs sv_read sv_wrong sv_isNamed sv_goes sv_goesSize sv_goesAt sv_targetParts sv_isRoot)), ((ma 16), .inl (cJ, 46080, .inr (.inl F)))] H := hP
          have hD : va_D A [(h0, .inr (11, MO ma sv_thrown sv_length sv_nodes sv_many sv_directories sv_runsFrom sv_runs sv_read sv_wrong sv_isNamed sv_goes sv_goesSize sv_goesAt sv_targetParts sv_isRoot)), ((ma 16), .inl (cJ, 46080, .inr (.inl F)))] := hD
          try dsimp only at hp_r22
          obtain ⟨hr_23, hv_24, hw_25⟩ := hp_r22
          refine lv_bipush (v := 48) hx hb d_DiscMakerModel_descriptor_54 (by decide) ?_
          refine lv_icmp_ne (tgt := 102) hx hb d_DiscMakerModel_descriptor_56 (by decide) (fun h_9 => ?_) (fun h_9 => ?_)
          · skip
            have g56_63 : ¬ r22.toInt = 48 := fun h8 => h_9 ((i_eq rfl (by decide)).mpr h8)
            refine lv_iconst (v := 0) hx hb d_DiscMakerModel_descriptor_102 (by decide) ?_
            refine lv_istore hx hb d_DiscMakerModel_descriptor_103 hl (by decide) rfl (fun ls hl => ?_)
            have hl : lv_has ls 7 [(5, .int 0), (4, .int v1), (0, .ref h0), (1, .int x), (2, .int wa), (3, .int sx)] := hl
            refine lv_iload hx hb d_DiscMakerModel_descriptor_105 (lv_at hl 0 rfl) ?_
            refine lv_if_ne (tgt := 119) hx hb d_DiscMakerModel_descriptor_107 (by decide) (fun h_9 => absurd (by decide) h_9) (fun _ => ?_)
            refine lv_aload_n hx hb d_DiscMakerModel_descriptor_110 rfl (lv_at hl 2 rfl) ?_
            refine lv_iload hx hb d_DiscMakerModel_descriptor_111 (lv_at hl 1 rfl) ?_
            have hPc := hP.sub (ws' := [(h0, .inr (11, MO ma sv_thrown sv_length sv_nodes sv_many sv_directories sv_runsFrom sv_runs sv_read sv_wrong sv_isNamed sv_goes sv_goesSize sv_goesAt sv_targetParts sv_isRoot))]) [0] rfl
            have hDc := hD.sub (ws' := [(h0, .inr (11, MO ma sv_thrown sv_length sv_nodes sv_many sv_directories sv_runsFrom sv_runs sv_read sv_wrong sv_isNamed sv_goes sv_goesSize sv_goesAt sv_targetParts sv_isRoot))]) [0] (by decide +kernel) rfl
            have hFc := va_free (wc := [(h0, .inr (11, MO ma sv_thrown sv_length sv_nodes sv_many sv_directories sv_runsFrom sv_runs sv_read sv_wrong sv_isNamed sv_goes sv_goesSize sv_goesAt sv_targetParts sv_isRoot))]) hD hS hA [0] rfl
            have hkc : 0 ≤ 0 := by decide
            have hks : 0 ≤ 0 := by decide
            refine va_calli (va_runV (C := "DiscMakerModel") (As := [.int v1]) (rest := []) ⟨hx, hb, hml, hown, hts⟩ (m_isWrong l D cB cI cJ cZ cN cF H.size h0 ma sv_thrown sv_length sv_nodes sv_many sv_directories sv_runsFrom sv_runs sv_read sv_wrong sv_isNamed sv_goes sv_goesSize sv_goesAt sv_targetParts sv_isRoot v1) (cwV 1 hts (lg_goodV k1833 k1835 k98 k125 kc_DiscMakerModel_isWrong) rfl rfl rfl (by decide +kernel) ⟨Nat.le_of_ble_eq_true rfl, Nat.le_of_ble_eq_true rfl⟩) ⟨fun a U g mk q => by obtain ⟨q0, q1, qP, qK, qN, qD⟩ := q; exact ⟨q0, q1, qP, va_K.moved (u := U) (U := U.calling g mk a) (Vm.Alike.refl U.vm) qK, qN.calling, qD⟩, va_recv hK hP (ci := 11) (q0 := 0) rfl rfl, fun U hU hW => ⟨rfl, by rw [hU], by rw [hU]; exact hPc, va_K.moved hW.alike hK, NN.warm hW hN, hDc.weaken (fun _ _ _ _ => trivial)⟩⟩ rfl rfl hl.1 rfl (lv_room (Nat.le_of_ble_eq_true rfl)) d_DiscMakerModel_descriptor_113 ⟨hkc, hks⟩) hS (fun q _ h => hFc q h) hFc (fun r26 u t H1 locs ht hvm hp_r26 hB hz1 hk1 hS => ?_)
            obtain ⟨wr_27, rfl⟩ : ∃ z, z = u := ⟨_, rfl⟩
            obtain ⟨hP1, hD1⟩ := hB
            rw [ht] at hP1
            obtain ⟨hP, hD⟩ := va_join (wr := [((ma 16), .inl (cJ, 46080, .inr (.inl F)))]) (w1 := [(h0, .inr (11, MO ma sv_thrown sv_length sv_nodes sv_many sv_directories sv_runsFrom sv_runs sv_read wr_27 sv_isNamed sv_goes sv_goesSize sv_goesAt sv_targetParts sv_isRoot))]) hP hD [0] [1] rfl rfl (by decide +kernel) (by decide +kernel) hk1 hFc hP1 hD1
            clear hPc hDc hFc hP1 hD1 hk1 hz1 hkc hks
            generalize H1 = H at hP hS ⊢
            have hP : va_P D CL [((ma 16), .inl (cJ, 46080, .inr (.inl F))), (h0, .inr (11, MO ma sv_thrown sv_length sv_nodes sv_many sv_directories sv_runsFrom sv_runs sv_read wr_27 sv_isNamed sv_goes sv_goesSize sv_goesAt sv_targetParts sv_isRoot))] H := hP
            have hD : va_D A [((ma 16), .inl (cJ, 46080, .inr (.inl F))), (h0, .inr (11, MO ma sv_thrown sv_length sv_nodes sv_many sv_directories sv_runsFrom sv_runs sv_read wr_27 sv_isNamed sv_goes sv_goesSize sv_goesAt sv_targetParts sv_isRoot))] := hD
            try dsimp only at hp_r26
            have hr_28 := hp_r26
            refine lv_pop hx hb d_DiscMakerModel_descriptor_116 rfl ?_
            refine lv_iconst (v := (-1)) hx hb d_DiscMakerModel_descriptor_117 (by decide) ?_
            have hP9 := hP.sub (ws' := [(h0, .inr (11, MO ma sv_thrown sv_length sv_nodes sv_many sv_directories sv_runsFrom sv_runs sv_read wr_27 sv_isNamed sv_goes sv_goesSize sv_goesAt sv_targetParts sv_isRoot)), ((ma 16), .inl (cJ, 46080, .inr (.inl F)))]) [1, 0] rfl
            have hD9 := hD.sub (ws' := [(h0, .inr (11, MO ma sv_thrown sv_length sv_nodes sv_many sv_directories sv_runsFrom sv_runs sv_read wr_27 sv_isNamed sv_goes sv_goesSize sv_goesAt sv_targetParts sv_isRoot)), ((ma 16), .inl (cJ, 46080, .inr (.inl F)))]) [1, 0] (by decide +kernel) rfl
            exact W.iret (v := (-1)) hx hb hr (fun t ht hW => ⟨⟨(-1), wr_27, rfl, (by (try dsimp only); first | assumption | omega | trivial), by rw [ht]; exact hP9, hD9⟩, hS.F ht⟩) hS.2.2 d_DiscMakerModel_descriptor_118
          · skip
            have g56_63 : r22.toInt = 48 := (i_eq rfl (by decide)).mp h_9
            refine lv_aload_n hx hb d_DiscMakerModel_descriptor_59 rfl (lv_at hl 1 rfl) ?_
            refine lv_iload hx hb d_DiscMakerModel_descriptor_60 (lv_at hl 0 rfl) ?_
            refine lv_iconst (v := 4) hx hb d_DiscMakerModel_descriptor_62 (by decide) ?_
            refine lv_iadd hx hb d_DiscMakerModel_descriptor_63 ?_
            refine lv_topi (fun v29 e_v29 => ?_)
            have t_v29 : v29.toInt = v1.toInt + 4 := by rw [e_v29]; exact i_add rfl (by decide) (by omega) (by omega)
            have hPc := hP.sub (ws' := [(h0, .inr (11, MO ma sv_thrown sv_length sv_nodes sv_many sv_directories sv_runsFrom sv_runs sv_read sv_wrong sv_isNamed sv_goes sv_goesSize sv_goesAt sv_targetParts sv_isRoot)), ((ma 16), .inl (cJ, 46080, .inr (.inl F)))]) [0, 1] rfl
            have hDc := hD.sub (ws' := [(h0, .inr (11, MO ma sv_thrown sv_length sv_nodes sv_many sv_directories sv_runsFrom sv_runs sv_read sv_wrong sv_isNamed sv_goes sv_goesSize sv_goesAt sv_targetParts sv_isRoot)), ((ma 16), .inl (cJ, 46080, .inr (.inl F)))]) [0, 1] (by decide +kernel) rfl
            have hFc := va_free (wc := [(h0, .inr (11, MO ma sv_thrown sv_length sv_nodes sv_many sv_directories sv_runsFrom sv_runs sv_read sv_wrong sv_isNamed sv_goes sv_goesSize sv_goesAt sv_targetParts sv_isRoot)), ((ma 16), .inl (cJ, 46080, .inr (.inl F)))]) hD hS hA [0, 1] rfl
            have hkc : 0 ≤ 0 := by decide
            have hks : 0 ≤ 0 := by decide
            refine va_calli (va_runV (C := "DiscMakerModel") (As := [.int v29]) (rest := []) ⟨hx, hb, hml, hown, hts⟩ (m_at l D cB cI cJ cZ cN cF H.size h0 ma sv_thrown sv_length sv_nodes sv_many sv_directories sv_runsFrom sv_runs sv_read sv_wrong sv_isNamed sv_goes sv_goesSize sv_goesAt sv_targetParts sv_isRoot F v29 (by (try dsimp only); first | assumption | omega | trivial) (by (try dsimp only); first | assumption | omega | trivial)) (cwV 1 hts (lg_goodV k1809 k1811 k95 k125 kc_DiscMakerModel_at) rfl rfl rfl (by decide +kernel) ⟨Nat.le_of_ble_eq_true rfl, Nat.le_of_ble_eq_true rfl⟩) ⟨fun a U g mk q => by obtain ⟨q0, q1, qP, qK, qN, qD⟩ := q; exact ⟨q0, q1, qP, va_K.moved (u := U) (U := U.calling g mk a) (Vm.Alike.refl U.vm) qK, qN.calling, qD⟩, va_recv hK hP (ci := 11) (q0 := 0) rfl rfl, fun U hU hW => ⟨rfl, by rw [hU], by rw [hU]; exact hPc, va_K.moved hW.alike hK, NN.warm hW hN, hDc.weaken (fun _ _ _ _ => trivial)⟩⟩ rfl rfl hl.1 rfl (lv_room (Nat.le_of_ble_eq_true rfl)) d_DiscMakerModel_descriptor_64 ⟨hkc, hks⟩) hS (fun q _ h => hFc q h) hFc (fun r30 u t H1 locs ht hvm hp_r30 hB hz1 hk1 hS => ?_)
            obtain ⟨hP1, hD1⟩ := hB
            rw [ht] at hP1
            obtain ⟨hP, hD⟩ := va_join (wr := []) (w1 := [(h0, .inr (11, MO ma sv_thrown sv_length sv_nodes sv_many sv_directories sv_runsFrom sv_runs sv_read sv_wrong sv_isNamed sv_goes sv_goesSize sv_goesAt sv_targetParts sv_isRoot)), ((ma 16), .inl (cJ, 46080, .inr (.inl F)))]) hP hD [0, 1] [] rfl rfl (by decide +kernel) (by decide +kernel) hk1 hFc hP1 hD1
            clear hPc hDc hFc hP1 hD1 hk1 hz1 hkc hks
            generalize H1 = H at hP hS ⊢
            have hP : va_P D CL [(h0, .inr (11, MO ma sv_thrown sv_length sv_nodes sv_many sv_directories sv_runsFrom sv_runs sv_read sv_wrong sv_isNamed sv_goes sv_goesSize sv_goesAt sv_targetParts sv_isRoot)), ((ma 16), .inl (cJ, 46080, .inr (.inl F)))] H := hP
            have hD : va_D A [(h0, .inr (11, MO ma sv_thrown sv_length sv_nodes sv_many sv_directories sv_runsFrom sv_runs sv_read sv_wrong sv_isNamed sv_goes sv_goesSize sv_goesAt sv_targetParts sv_isRoot)), ((ma 16), .inl (cJ, 46080, .inr (.inl F)))] := hD
            try dsimp only at hp_r30
            obtain ⟨hr_31, hv_32, hw_33⟩ := hp_r30
            refine lv_bipush (v := 48) hx hb d_DiscMakerModel_descriptor_67 (by decide) ?_
            refine lv_icmp_ne (tgt := 102) hx hb d_DiscMakerModel_descriptor_69 (by decide) (fun h_9 => ?_) (fun h_9 => ?_)
            · skip
              have g69_80 : ¬ r30.toInt = 48 := fun h8 => h_9 ((i_eq rfl (by decide)).mpr h8)
              refine lv_iconst (v := 0) hx hb d_DiscMakerModel_descriptor_102 (by decide) ?_
              refine lv_istore hx hb d_DiscMakerModel_descriptor_103 hl (by decide) rfl (fun ls hl => ?_)
              have hl : lv_has ls 7 [(5, .int 0), (4, .int v1), (0, .ref h0), (1, .int x), (2, .int wa), (3, .int sx)] := hl
              refine lv_iload hx hb d_DiscMakerModel_descriptor_105 (lv_at hl 0 rfl) ?_
              refine lv_if_ne (tgt := 119) hx hb d_DiscMakerModel_descriptor_107 (by decide) (fun h_9 => absurd (by decide) h_9) (fun _ => ?_)
              refine lv_aload_n hx hb d_DiscMakerModel_descriptor_110 rfl (lv_at hl 2 rfl) ?_
              refine lv_iload hx hb d_DiscMakerModel_descriptor_111 (lv_at hl 1 rfl) ?_
              have hPc := hP.sub (ws' := [(h0, .inr (11, MO ma sv_thrown sv_length sv_nodes sv_many sv_directories sv_runsFrom sv_runs sv_read sv_wrong sv_isNamed sv_goes sv_goesSize sv_goesAt sv_targetParts sv_isRoot))]) [0] rfl
              have hDc := hD.sub (ws' := [(h0, .inr (11, MO ma sv_thrown sv_length sv_nodes sv_many sv_directories sv_runsFrom sv_runs sv_read sv_wrong sv_isNamed sv_goes sv_goesSize sv_goesAt sv_targetParts sv_isRoot))]) [0] (by decide +kernel) rfl
              have hFc := va_free (wc := [(h0, .inr (11, MO ma sv_thrown sv_length sv_nodes sv_many sv_directories sv_runsFrom sv_runs sv_read sv_wrong sv_isNamed sv_goes sv_goesSize sv_goesAt sv_targetParts sv_isRoot))]) hD hS hA [0] rfl
              have hkc : 0 ≤ 0 := by decide
              have hks : 0 ≤ 0 := by decide
              refine va_calli (va_runV (C := "DiscMakerModel") (As := [.int v1]) (rest := []) ⟨hx, hb, hml, hown, hts⟩ (m_isWrong l D cB cI cJ cZ cN cF H.size h0 ma sv_thrown sv_length sv_nodes sv_many sv_directories sv_runsFrom sv_runs sv_read sv_wrong sv_isNamed sv_goes sv_goesSize sv_goesAt sv_targetParts sv_isRoot v1) (cwV 1 hts (lg_goodV k1833 k1835 k98 k125 kc_DiscMakerModel_isWrong) rfl rfl rfl (by decide +kernel) ⟨Nat.le_of_ble_eq_true rfl, Nat.le_of_ble_eq_true rfl⟩) ⟨fun a U g mk q => by obtain ⟨q0, q1, qP, qK, qN, qD⟩ := q; exact ⟨q0, q1, qP, va_K.moved (u := U) (U := U.calling g mk a) (Vm.Alike.refl U.vm) qK, qN.calling, qD⟩, va_recv hK hP (ci := 11) (q0 := 0) rfl rfl, fun U hU hW => ⟨rfl, by rw [hU], by rw [hU]; exact hPc, va_K.moved hW.alike hK, NN.warm hW hN, hDc.weaken (fun _ _ _ _ => trivial)⟩⟩ rfl rfl hl.1 rfl (lv_room (Nat.le_of_ble_eq_true rfl)) d_DiscMakerModel_descriptor_113 ⟨hkc, hks⟩) hS (fun q _ h => hFc q h) hFc (fun r34 u t H1 locs ht hvm hp_r34 hB hz1 hk1 hS => ?_)
              obtain ⟨wr_35, rfl⟩ : ∃ z, z = u := ⟨_, rfl⟩
              obtain ⟨hP1, hD1⟩ := hB
              rw [ht] at hP1
              obtain ⟨hP, hD⟩ := va_join (wr := [((ma 16), .inl (cJ, 46080, .inr (.inl F)))]) (w1 := [(h0, .inr (11, MO ma sv_thrown sv_length sv_nodes sv_many sv_directories sv_runsFrom sv_runs sv_read wr_35 sv_isNamed sv_goes sv_goesSize sv_goesAt sv_targetParts sv_isRoot))]) hP hD [0] [1] rfl rfl (by decide +kernel) (by decide +kernel) hk1 hFc hP1 hD1
              clear hPc hDc hFc hP1 hD1 hk1 hz1 hkc hks
              generalize H1 = H at hP hS ⊢
              have hP : va_P D CL [((ma 16), .inl (cJ, 46080, .inr (.inl F))), (h0, .inr (11, MO ma sv_thrown sv_length sv_nodes sv_many sv_directories sv_runsFrom sv_runs sv_read wr_35 sv_isNamed sv_goes sv_goesSize sv_goesAt sv_targetParts sv_isRoot))] H := hP
              have hD : va_D A [((ma 16), .inl (cJ, 46080, .inr (.inl F))), (h0, .inr (11, MO ma sv_thrown sv_length sv_nodes sv_many sv_directories sv_runsFrom sv_runs sv_read wr_35 sv_isNamed sv_goes sv_goesSize sv_goesAt sv_targetParts sv_isRoot))] := hD
              try dsimp only at hp_r34
              have hr_36 := hp_r34
              refine lv_pop hx hb d_DiscMakerModel_descriptor_116 rfl ?_
              refine lv_iconst (v := (-1)) hx hb d_DiscMakerModel_descriptor_117 (by decide) ?_
              have hP9 := hP.sub (ws' := [(h0, .inr (11, MO ma sv_thrown sv_length sv_nodes sv_many sv_directories sv_runsFrom sv_runs sv_read wr_35 sv_isNamed sv_goes sv_goesSize sv_goesAt sv_targetParts sv_isRoot)), ((ma 16), .inl (cJ, 46080, .inr (.inl F)))]) [1, 0] rfl
              have hD9 := hD.sub (ws' := [(h0, .inr (11, MO ma sv_thrown sv_length sv_nodes sv_many sv_directories sv_runsFrom sv_runs sv_read wr_35 sv_isNamed sv_goes sv_goesSize sv_goesAt sv_targetParts sv_isRoot)), ((ma 16), .inl (cJ, 46080, .inr (.inl F)))]) [1, 0] (by decide +kernel) rfl
              exact W.iret (v := (-1)) hx hb hr (fun t ht hW => ⟨⟨(-1), wr_35, rfl, (by (try dsimp only); first | assumption | omega | trivial), by rw [ht]; exact hP9, hD9⟩, hS.F ht⟩) hS.2.2 d_DiscMakerModel_descriptor_118
            · skip
              have g69_80 : r30.toInt = 48 := (i_eq rfl (by decide)).mp h_9
              refine lv_aload_n hx hb d_DiscMakerModel_descriptor_72 rfl (lv_at hl 1 rfl) ?_
              refine lv_iload hx hb d_DiscMakerModel_descriptor_73 (lv_at hl 0 rfl) ?_
              refine lv_iconst (v := 5) hx hb d_DiscMakerModel_descriptor_75 (by decide) ?_
              refine lv_iadd hx hb d_DiscMakerModel_descriptor_76 ?_
              refine lv_topi (fun v37 e_v37 => ?_)
              have t_v37 : v37.toInt = v1.toInt + 5 := by rw [e_v37]; exact i_add rfl (by decide) (by omega) (by omega)
              have hPc := hP.sub (ws' := [(h0, .inr (11, MO ma sv_thrown sv_length sv_nodes sv_many sv_directories sv_runsFrom sv_runs sv_read sv_wrong sv_isNamed sv_goes sv_goesSize sv_goesAt sv_targetParts sv_isRoot)), ((ma 16), .inl (cJ, 46080, .inr (.inl F)))]) [0, 1] rfl
              have hDc := hD.sub (ws' := [(h0, .inr (11, MO ma sv_thrown sv_length sv_nodes sv_many sv_directories sv_runsFrom sv_runs sv_read sv_wrong sv_isNamed sv_goes sv_goesSize sv_goesAt sv_targetParts sv_isRoot)), ((ma 16), .inl (cJ, 46080, .inr (.inl F)))]) [0, 1] (by decide +kernel) rfl
              have hFc := va_free (wc := [(h0, .inr (11, MO ma sv_thrown sv_length sv_nodes sv_many sv_directories sv_runsFrom sv_runs sv_read sv_wrong sv_isNamed sv_goes sv_goesSize sv_goesAt sv_targetParts sv_isRoot)), ((ma 16), .inl (cJ, 46080, .inr (.inl F)))]) hD hS hA [0, 1] rfl
              have hkc : 0 ≤ 0 := by decide
              have hks : 0 ≤ 0 := by decide
              refine va_calli (va_runV (C := "DiscMakerModel") (As := [.int v37]) (rest := []) ⟨hx, hb, hml, hown, hts⟩ (m_at l D cB cI cJ cZ cN cF H.size h0 ma sv_thrown sv_length sv_nodes sv_many sv_directories sv_runsFrom sv_runs sv_read sv_wrong sv_isNamed sv_goes sv_goesSize sv_goesAt sv_targetParts sv_isRoot F v37 (by (try dsimp only); first | assumption | omega | trivial) (by (try dsimp only); first | assumption | omega | trivial)) (cwV 1 hts (lg_goodV k1809 k1811 k95 k125 kc_DiscMakerModel_at) rfl rfl rfl (by decide +kernel) ⟨Nat.le_of_ble_eq_true rfl, Nat.le_of_ble_eq_true rfl⟩) ⟨fun a U g mk q => by obtain ⟨q0, q1, qP, qK, qN, qD⟩ := q; exact ⟨q0, q1, qP, va_K.moved (u := U) (U := U.calling g mk a) (Vm.Alike.refl U.vm) qK, qN.calling, qD⟩, va_recv hK hP (ci := 11) (q0 := 0) rfl rfl, fun U hU hW => ⟨rfl, by rw [hU], by rw [hU]; exact hPc, va_K.moved hW.alike hK, NN.warm hW hN, hDc.weaken (fun _ _ _ _ => trivial)⟩⟩ rfl rfl hl.1 rfl (lv_room (Nat.le_of_ble_eq_true rfl)) d_DiscMakerModel_descriptor_77 ⟨hkc, hks⟩) hS (fun q _ h => hFc q h) hFc (fun r38 u t H1 locs ht hvm hp_r38 hB hz1 hk1 hS => ?_)
              obtain ⟨hP1, hD1⟩ := hB
              rw [ht] at hP1
              obtain ⟨hP, hD⟩ := va_join (wr := []) (w1 := [(h0, .inr (11, MO ma sv_thrown sv_length sv_nodes sv_many sv_directories sv_runsFrom sv_runs sv_read sv_wrong sv_isNamed sv_goes sv_goesSize sv_goesAt sv_targetParts sv_isRoot)), ((ma 16), .inl (cJ, 46080, .inr (.inl F)))]) hP hD [0, 1] [] rfl rfl (by decide +kernel) (by decide +kernel) hk1 hFc hP1 hD1
              clear hPc hDc hFc hP1 hD1 hk1 hz1 hkc hks
              generalize H1 = H at hP hS ⊢
              have hP : va_P D CL [(h0, .inr (11, MO ma sv_thrown sv_length sv_nodes sv_many sv_directories sv_runsFrom sv_runs sv_read sv_wrong sv_isNamed sv_goes sv_goesSize sv_goesAt sv_targetParts sv_isRoot)), ((ma 16), .inl (cJ, 46080, .inr (.inl F)))] H := hP
              have hD : va_D A [(h0, .inr (11, MO ma sv_thrown sv_length sv_nodes sv_many sv_directories sv_runsFrom sv_runs sv_read sv_wrong sv_isNamed sv_goes sv_goesSize sv_goesAt sv_targetParts sv_isRoot)), ((ma 16), .inl (cJ, 46080, .inr (.inl F)))] := hD
              try dsimp only at hp_r38
              obtain ⟨hr_39, hv_40, hw_41⟩ := hp_r38
              refine lv_bipush (v := 49) hx hb d_DiscMakerModel_descriptor_80 (by decide) ?_
              refine lv_icmp_ne (tgt := 102) hx hb d_DiscMakerModel_descriptor_82 (by decide) (fun h_9 => ?_) (fun h_9 => ?_)
              · skip
                have g82_97 : ¬ r38.toInt = 49 := fun h8 => h_9 ((i_eq rfl (by decide)).mpr h8)
                refine lv_iconst (v := 0) hx hb d_DiscMakerModel_descriptor_102 (by decide) ?_
                refine lv_istore hx hb d_DiscMakerModel_descriptor_103 hl (by decide) rfl (fun ls hl => ?_)
                have hl : lv_has ls 7 [(5, .int 0), (4, .int v1), (0, .ref h0), (1, .int x), (2, .int wa), (3, .int sx)] := hl
                refine lv_iload hx hb d_DiscMakerModel_descriptor_105 (lv_at hl 0 rfl) ?_
                refine lv_if_ne (tgt := 119) hx hb d_DiscMakerModel_descriptor_107 (by decide) (fun h_9 => absurd (by decide) h_9) (fun _ => ?_)
                refine lv_aload_n hx hb d_DiscMakerModel_descriptor_110 rfl (lv_at hl 2 rfl) ?_
                refine lv_iload hx hb d_DiscMakerModel_descriptor_111 (lv_at hl 1 rfl) ?_
                have hPc := hP.sub (ws' := [(h0, .inr (11, MO ma sv_thrown sv_length sv_nodes sv_many sv_directories sv_runsFrom sv_runs sv_read sv_wrong sv_isNamed sv_goes sv_goesSize sv_goesAt sv_targetParts sv_isRoot))]) [0] rfl
                have hDc := hD.sub (ws' := [(h0, .inr (11, MO ma sv_thrown sv_length sv_nodes sv_many sv_directories sv_runsFrom sv_runs sv_read sv_wrong sv_isNamed sv_goes sv_goesSize sv_goesAt sv_targetParts sv_isRoot))]) [0] (by decide +kernel) rfl
                have hFc := va_free (wc := [(h0, .inr (11, MO ma sv_thrown sv_length sv_nodes sv_many sv_directories sv_runsFrom sv_runs sv_read sv_wrong sv_isNamed sv_goes sv_goesSize sv_goesAt sv_targetParts sv_isRoot))]) hD hS hA [0] rfl
                have hkc : 0 ≤ 0 := by decide
                have hks : 0 ≤ 0 := by decide
                refine va_calli (va_runV (C := "DiscMakerModel") (As := [.int v1]) (rest := []) ⟨hx, hb, hml, hown, hts⟩ (m_isWrong l D cB cI cJ cZ cN cF H.size h0 ma sv_thrown sv_length sv_nodes sv_many sv_directories sv_runsFrom sv_runs sv_read sv_wrong sv_isNamed sv_goes sv_goesSize sv_goesAt sv_targetParts sv_isRoot v1) (cwV 1 hts (lg_goodV k1833 k1835 k98 k125 kc_DiscMakerModel_isWrong) rfl rfl rfl (by decide +kernel) ⟨Nat.le_of_ble_eq_true rfl, Nat.le_of_ble_eq_true rfl⟩) ⟨fun a U g mk q => by obtain ⟨q0, q1, qP, qK, qN, qD⟩ := q; exact ⟨q0, q1, qP, va_K.moved (u := U) (U := U.calling g mk a) (Vm.Alike.refl U.vm) qK, qN.calling, qD⟩, va_recv hK hP (ci := 11) (q0 := 0) rfl rfl, fun U hU hW => ⟨rfl, by rw [hU], by rw [hU]; exact hPc, va_K.moved hW.alike hK, NN.warm hW hN, hDc.weaken (fun _ _ _ _ => trivial)⟩⟩ rfl rfl hl.1 rfl (lv_room (Nat.le_of_ble_eq_true rfl)) d_DiscMakerModel_descriptor_113 ⟨hkc, hks⟩) hS (fun q _ h => hFc q h) hFc (fun r42 u t H1 locs ht hvm hp_r42 hB hz1 hk1 hS => ?_)
                obtain ⟨wr_43, rfl⟩ : ∃ z, z = u := ⟨_, rfl⟩
                obtain ⟨hP1, hD1⟩ := hB
                rw [ht] at hP1
                obtain ⟨hP, hD⟩ := va_join (wr := [((ma 16), .inl (cJ, 46080, .inr (.inl F)))]) (w1 := [(h0, .inr (11, MO ma sv_thrown sv_length sv_nodes sv_many sv_directories sv_runsFrom sv_runs sv_read wr_43 sv_isNamed sv_goes sv_goesSize sv_goesAt sv_targetParts sv_isRoot))]) hP hD [0] [1] rfl rfl (by decide +kernel) (by decide +kernel) hk1 hFc hP1 hD1
                clear hPc hDc hFc hP1 hD1 hk1 hz1 hkc hks
                generalize H1 = H at hP hS ⊢
                have hP : va_P D CL [((ma 16), .inl (cJ, 46080, .inr (.inl F))), (h0, .inr (11, MO ma sv_thrown sv_length sv_nodes sv_many sv_directories sv_runsFrom sv_runs sv_read wr_43 sv_isNamed sv_goes sv_goesSize sv_goesAt sv_targetParts sv_isRoot))] H := hP
                have hD : va_D A [((ma 16), .inl (cJ, 46080, .inr (.inl F))), (h0, .inr (11, MO ma sv_thrown sv_length sv_nodes sv_many sv_directories sv_runsFrom sv_runs sv_read wr_43 sv_isNamed sv_goes sv_goesSize sv_goesAt sv_targetParts sv_isRoot))] := hD
                try dsimp only at hp_r42
                have hr_44 := hp_r42
                refine lv_pop hx hb d_DiscMakerModel_descriptor_116 rfl ?_
                refine lv_iconst (v := (-1)) hx hb d_DiscMakerModel_descriptor_117 (by decide) ?_
                have hP9 := hP.sub (ws' := [(h0, .inr (11, MO ma sv_thrown sv_length sv_nodes sv_many sv_directories sv_runsFrom sv_runs sv_read wr_43 sv_isNamed sv_goes sv_goesSize sv_goesAt sv_targetParts sv_isRoot)), ((ma 16), .inl (cJ, 46080, .inr (.inl F)))]) [1, 0] rfl
                have hD9 := hD.sub (ws' := [(h0, .inr (11, MO ma sv_thrown sv_length sv_nodes sv_many sv_directories sv_runsFrom sv_runs sv_read wr_43 sv_isNamed sv_goes sv_goesSize sv_goesAt sv_targetParts sv_isRoot)), ((ma 16), .inl (cJ, 46080, .inr (.inl F)))]) [1, 0] (by decide +kernel) rfl
                exact W.iret (v := (-1)) hx hb hr (fun t ht hW => ⟨⟨(-1), wr_43, rfl, (by (try dsimp only); first | assumption | omega | trivial), by rw [ht]; exact hP9, hD9⟩, hS.F ht⟩) hS.2.2 d_DiscMakerModel_descriptor_118
              · skip
                have g82_97 : r38.toInt = 49 := (i_eq rfl (by decide)).mp h_9
                refine lv_aload_n hx hb d_DiscMakerModel_descriptor_85 rfl (lv_at hl 1 rfl) ?_
                refine lv_iload hx hb d_DiscMakerModel_descriptor_86 (lv_at hl 0 rfl) ?_
                refine lv_bipush (v := 6) hx hb d_DiscMakerModel_descriptor_88 (by decide) ?_
                refine lv_iadd hx hb d_DiscMakerModel_descriptor_90 ?_
                refine lv_topi (fun v45 e_v45 => ?_)
                have t_v45 : v45.toInt = v1.toInt + 6 := by rw [e_v45]; exact i_add rfl (by decide) (by omega) (by omega)
                have hPc := hP.sub (ws' := [(h0, .inr (11, MO ma sv_thrown sv_length sv_nodes sv_many sv_directories sv_runsFrom sv_runs sv_read sv_wrong sv_isNamed sv_goes sv_goesSize sv_goesAt sv_targetParts sv_isRoot)), ((ma 16), .inl (cJ, 46080, .inr (.inl F)))]) [0, 1] rfl
                have hDc := hD.sub (ws' := [(h0, .inr (11, MO ma sv_thrown sv_length sv_nodes sv_many sv_directories sv_runsFrom sv_runs sv_read sv_wrong sv_isNamed sv_goes sv_goesSize sv_goesAt sv_targetParts sv_isRoot)), ((ma 16), .inl (cJ, 46080, .inr (.inl F)))]) [0, 1] (by decide +kernel) rfl
                have hFc := va_free (wc := [(h0, .inr (11, MO ma sv_thrown sv_length sv_nodes sv_many sv_directories sv_runsFrom sv_runs sv_read sv_wrong sv_isNamed sv_goes sv_goesSize sv_goesAt sv_targetParts sv_isRoot)), ((ma 16), .inl (cJ, 46080, .inr (.inl F)))]) hD hS hA [0, 1] rfl
                have hkc : 0 ≤ 0 := by decide
                have hks : 0 ≤ 0 := by decide
                refine va_calli (va_runV (C := "DiscMakerModel") (As := [.int v45]) (rest := []) ⟨hx, hb, hml, hown, hts⟩ (m_at l D cB cI cJ cZ cN cF H.size h0 ma sv_thrown sv_length sv_nodes sv_many sv_directories sv_runsFrom sv_runs sv_read sv_wrong sv_isNamed sv_goes sv_goesSize sv_goesAt sv_targetParts sv_isRoot F v45 (by (try dsimp only); first | assumption | omega | trivial) (by (try dsimp only); first | assumption | omega | trivial)) (cwV 1 hts (lg_goodV k1809 k1811 k95 k125 kc_DiscMakerModel_at) rfl rfl rfl (by decide +kernel) ⟨Nat.le_of_ble_eq_true rfl, Nat.le_of_ble_eq_true rfl⟩) ⟨fun a U g mk q => by obtain ⟨q0, q1, qP, qK, qN, qD⟩ := q; exact ⟨q0, q1, qP, va_K.moved (u := U) (U := U.calling g mk a) (Vm.Alike.refl U.vm) qK, qN.calling, qD⟩, va_recv hK hP (ci := 11) (q0 := 0) rfl rfl, fun U hU hW => ⟨rfl, by rw [hU], by rw [hU]; exact hPc, va_K.moved hW.alike hK, NN.warm hW hN, hDc.weaken (fun _ _ _ _ => trivial)⟩⟩ rfl rfl hl.1 rfl (lv_room (Nat.le_of_ble_eq_true rfl)) d_DiscMakerModel_descriptor_91 ⟨hkc, hks⟩) hS (fun q _ h => hFc q h) hFc (fun r46 u t H1 locs ht hvm hp_r46 hB hz1 hk1 hS => ?_)
                obtain ⟨hP1, hD1⟩ := hB
                rw [ht] at hP1
                obtain ⟨hP, hD⟩ := va_join (wr := []) (w1 := [(h0, .inr (11, MO ma sv_thrown sv_length sv_nodes sv_many sv_directories sv_runsFrom sv_runs sv_read sv_wrong sv_isNamed sv_goes sv_goesSize sv_goesAt sv_targetParts sv_isRoot)), ((ma 16), .inl (cJ, 46080, .inr (.inl F)))]) hP hD [0, 1] [] rfl rfl (by decide +kernel) (by decide +kernel) hk1 hFc hP1 hD1
                clear hPc hDc hFc hP1 hD1 hk1 hz1 hkc hks
                generalize H1 = H at hP hS ⊢
                have hP : va_P D CL [(h0, .inr (11, MO ma sv_thrown sv_length sv_nodes sv_many sv_directories sv_runsFrom sv_runs sv_read sv_wrong sv_isNamed sv_goes sv_goesSize sv_goesAt sv_targetParts sv_isRoot)), ((ma 16), .inl (cJ, 46080, .inr (.inl F)))] H := hP
                have hD : va_D A [(h0, .inr (11, MO ma sv_thrown sv_length sv_nodes sv_many sv_directories sv_runsFrom sv_runs sv_read sv_wrong sv_isNamed sv_goes sv_goesSize sv_goesAt sv_targetParts sv_isRoot)), ((ma 16), .inl (cJ, 46080, .inr (.inl F)))] := hD
                try dsimp only at hp_r46
                obtain ⟨hr_47, hv_48, hw_49⟩ := hp_r46
                refine lv_iconst (v := 1) hx hb d_DiscMakerModel_descriptor_94 (by decide) ?_
                refine lv_icmp_ne (tgt := 102) hx hb d_DiscMakerModel_descriptor_95 (by decide) (fun h_9 => ?_) (fun h_9 => ?_)
                · skip
                  have g95_114 : ¬ r46.toInt = 1 := fun h8 => h_9 ((i_eq rfl (by decide)).mpr h8)
                  refine lv_iconst (v := 0) hx hb d_DiscMakerModel_descriptor_102 (by decide) ?_
                  refine lv_istore hx hb d_DiscMakerModel_descriptor_103 hl (by decide) rfl (fun ls hl => ?_)
                  have hl : lv_has ls 7 [(5, .int 0), (4, .int v1), (0, .ref h0), (1, .int x), (2, .int wa), (3, .int sx)] := hl
                  refine lv_iload hx hb d_DiscMakerModel_descriptor_105 (lv_at hl 0 rfl) ?_
                  refine lv_if_ne (tgt := 119) hx hb d_DiscMakerModel_descriptor_107 (by decide) (fun h_9 => absurd (by decide) h_9) (fun _ => ?_)
                  refine lv_aload_n hx hb d_DiscMakerModel_descriptor_110 rfl (lv_at hl 2 rfl) ?_
                  refine lv_iload hx hb d_DiscMakerModel_descriptor_111 (lv_at hl 1 rfl) ?_
                  have hPc := hP.sub (ws' := [(h0, .inr (11, MO ma sv_thrown sv_length sv_nodes sv_many sv_directories sv_runsFrom sv_runs sv_read sv_wrong sv_isNamed sv_goes sv_goesSize sv_goesAt sv_targetParts sv_isRoot))]) [0] rfl
                  have hDc := hD.sub (ws' := [(h0, .inr (11, MO ma sv_thrown sv_length sv_nodes sv_many sv_directories sv_runsFrom sv_runs sv_read sv_wrong sv_isNamed sv_goes sv_goesSize sv_goesAt sv_targetParts sv_isRoot))]) [0] (by decide +kernel) rfl
                  have hFc := va_free (wc := [(h0, .inr (11, MO ma sv_thrown sv_length sv_nodes sv_many sv_directories sv_runsFrom sv_runs sv_read sv_wrong sv_isNamed sv_goes sv_goesSize sv_goesAt sv_targetParts sv_isRoot))]) hD hS hA [0] rfl
                  have hkc : 0 ≤ 0 := by decide
                  have hks : 0 ≤ 0 := by decide
                  refine va_calli (va_runV (C := "DiscMakerModel") (As := [.int v1]) (rest := []) ⟨hx, hb, hml, hown, hts⟩ (m_isWrong l D cB cI cJ cZ cN cF H.size h0 ma sv_thrown sv_length sv_nodes sv_many sv_directories sv_runsFrom sv_runs sv_read sv_wrong sv_isNamed sv_goes sv_goesSize sv_goesAt sv_targetParts sv_isRoot v1) (cwV 1 hts (lg_goodV k1833 k1835 k98 k125 kc_DiscMakerModel_isWrong) rfl rfl rfl (by decide +kernel) ⟨Nat.le_of_ble_eq_true rfl, Nat.le_of_ble_eq_true rfl⟩) ⟨fun a U g mk q => by obtain ⟨q0, q1, qP, qK, qN, qD⟩ := q; exact ⟨q0, q1, qP, va_K.moved (u := U) (U := U.calling g mk a) (Vm.Alike.refl U.vm) qK, qN.calling, qD⟩, va_recv hK hP (ci := 11) (q0 := 0) rfl rfl, fun U hU hW => ⟨rfl, by rw [hU], by rw [hU]; exact hPc, va_K.moved hW.alike hK, NN.warm hW hN, hDc.weaken (fun _ _ _ _ => trivial)⟩⟩ rfl rfl hl.1 rfl (lv_room (Nat.le_of_ble_eq_true rfl)) d_DiscMakerModel_descriptor_113 ⟨hkc, hks⟩) hS (fun q _ h => hFc q h) hFc (fun r50 u t H1 locs ht hvm hp_r50 hB hz1 hk1 hS => ?_)
                  obtain ⟨wr_51, rfl⟩ : ∃ z, z = u := ⟨_, rfl⟩
                  obtain ⟨hP1, hD1⟩ := hB
                  rw [ht] at hP1
                  obtain ⟨hP, hD⟩ := va_join (wr := [((ma 16), .inl (cJ, 46080, .inr (.inl F)))]) (w1 := [(h0, .inr (11, MO ma sv_thrown sv_length sv_nodes sv_many sv_directories sv_runsFrom sv_runs sv_read wr_51 sv_isNamed sv_goes sv_goesSize sv_goesAt sv_targetParts sv_isRoot))]) hP hD [0] [1] rfl rfl (by decide +kernel) (by decide +kernel) hk1 hFc hP1 hD1
                  clear hPc hDc hFc hP1 hD1 hk1 hz1 hkc hks
                  generalize H1 = H at hP hS ⊢
                  have hP : va_P D CL [((ma 16), .inl (cJ, 46080, .inr (.inl F))), (h0, .inr (11, MO ma sv_thrown sv_length sv_nodes sv_many sv_directories sv_runsFrom sv_runs sv_read wr_51 sv_isNamed sv_goes sv_goesSize sv_goesAt sv_targetParts sv_isRoot))] H := hP
                  have hD : va_D A [((ma 16), .inl (cJ, 46080, .inr (.inl F))), (h0, .inr (11, MO ma sv_thrown sv_length sv_nodes sv_many sv_directories sv_runsFrom sv_runs sv_read wr_51 sv_isNamed sv_goes sv_goesSize sv_goesAt sv_targetParts sv_isRoot))] := hD
                  try dsimp only at hp_r50
                  have hr_52 := hp_r50
                  refine lv_pop hx hb d_DiscMakerModel_descriptor_116 rfl ?_
                  refine lv_iconst (v := (-1)) hx hb d_DiscMakerModel_descriptor_117 (by decide) ?_
                  have hP9 := hP.sub (ws' := [(h0, .inr (11, MO ma sv_thrown sv_length sv_nodes sv_many sv_directories sv_runsFrom sv_runs sv_read wr_51 sv_isNamed sv_goes sv_goesSize sv_goesAt sv_targetParts sv_isRoot)), ((ma 16), .inl (cJ, 46080, .inr (.inl F)))]) [1, 0] rfl
                  have hD9 := hD.sub (ws' := [(h0, .inr (11, MO ma sv_thrown sv_length sv_nodes sv_many sv_directories sv_runsFrom sv_runs sv_read wr_51 sv_isNamed sv_goes sv_goesSize sv_goesAt sv_targetParts sv_isRoot)), ((ma 16), .inl (cJ, 46080, .inr (.inl F)))]) [1, 0] (by decide +kernel) rfl
                  exact W.iret (v := (-1)) hx hb hr (fun t ht hW => ⟨⟨(-1), wr_51, rfl, (by (try dsimp only); first | assumption | omega | trivial), by rw [ht]; exact hP9, hD9⟩, hS.F ht⟩) hS.2.2 d_DiscMakerModel_descriptor_118
                · skip
                  have g95_114 : r46.toInt = 1 := (i_eq rfl (by decide)).mp h_9
                  refine lv_iconst (v := 1) hx hb d_DiscMakerModel_descriptor_98 (by decide) ?_
                  refine lv_goto (tgt := 103) hx hb d_DiscMakerModel_descriptor_99 (by decide) ?_
                  refine lv_istore hx hb d_DiscMakerModel_descriptor_103 hl (by decide) rfl (fun ls hl => ?_)
                  have hl : lv_has ls 7 [(5, .int 1), (4, .int v1), (0, .ref h0), (1, .int x), (2, .int wa), (3, .int sx)] := hl
                  refine lv_iload hx hb d_DiscMakerModel_descriptor_105 (lv_at hl 0 rfl) ?_
                  refine lv_if_ne (tgt := 119) hx hb d_DiscMakerModel_descriptor_107 (by decide) (fun _ => ?_) (fun h_9 => absurd h_9 (by decide))
                  refine lv_aload_n hx hb d_DiscMakerModel_descriptor_119 rfl (lv_at hl 2 rfl) ?_
                  refine lv_iload hx hb d_DiscMakerModel_descriptor_120 (lv_at hl 1 rfl) ?_
                  have hPc := hP.sub (ws' := [(h0, .inr (11, MO ma sv_thrown sv_length sv_nodes sv_many sv_directories sv_runsFrom sv_runs sv_read sv_wrong sv_isNamed sv_goes sv_goesSize sv_goesAt sv_targetParts sv_isRoot)), ((ma 16), .inl (cJ, 46080, .inr (.inl F)))]) [0, 1] rfl
                  have hDc := hD.sub (ws' := [(h0, .inr (11, MO ma sv_thrown sv_length sv_nodes sv_many sv_directories sv_runsFrom sv_runs sv_read sv_wrong sv_isNamed sv_goes sv_goesSize sv_goesAt sv_targetParts sv_isRoot)), ((ma 16), .inl (cJ, 46080, .inr (.inl F)))]) [0, 1] (by decide +kernel) rfl
                  have hFc := va_free (wc := [(h0, .inr (11, MO ma sv_thrown sv_length sv_nodes sv_many sv_directories sv_runsFrom sv_runs sv_read sv_wrong sv_isNamed sv_goes sv_goesSize sv_goesAt sv_targetParts sv_isRoot)), ((ma 16), .inl (cJ, 46080, .inr (.inl F)))]) hD hS hA [0, 1] rfl
                  have hkc : 0 ≤ 0 := by decide
                  have hks : 0 ≤ 0 := by decide
                  refine va_calli (va_runV (C := "DiscMakerModel") (As := [.int v1]) (rest := []) ⟨hx, hb, hml, hown, hts⟩ (m_at l D cB cI cJ cZ cN cF H.size h0 ma sv_thrown sv_length sv_nodes sv_many sv_directories sv_runsFrom sv_runs sv_read sv_wrong sv_isNamed sv_goes sv_goesSize sv_goesAt sv_targetParts sv_isRoot F v1 (by (try dsimp only); first | assumption | omega | trivial) (by (try dsimp only); first | assumption | omega | trivial)) (cwV 1 hts (lg_goodV k1809 k1811 k95 k125 kc_DiscMakerModel_at) rfl rfl rfl (by decide +kernel) ⟨Nat.le_of_ble_eq_true rfl, Nat.le_of_ble_eq_true rfl⟩) ⟨fun a U g mk q => by obtain ⟨q0, q1, qP, qK, qN, qD⟩ := q; exact ⟨q0, q1, qP, va_K.moved (u := U) (U := U.calling g mk a) (Vm.Alike.refl U.vm) qK, qN.calling, qD⟩, va_recv hK hP (ci := 11) (q0 := 0) rfl rfl, fun U hU hW => ⟨rfl, by rw [hU], by rw [hU]; exact hPc, va_K.moved hW.alike hK, NN.warm hW hN, hDc.weaken (fun _ _ _ _ => trivial)⟩⟩ rfl rfl hl.1 rfl (lv_room (Nat.le_of_ble_eq_true rfl)) d_DiscMakerModel_descriptor_122 ⟨hkc, hks⟩) hS (fun q _ h => hFc q h) hFc (fun r53 u t H1 locs ht hvm hp_r53 hB hz1 hk1 hS => ?_)
                  obtain ⟨hP1, hD1⟩ := hB
                  rw [ht] at hP1
                  obtain ⟨hP, hD⟩ := va_join (wr := []) (w1 := [(h0, .inr (11, MO ma sv_thrown sv_length sv_nodes sv_many sv_directories sv_runsFrom sv_runs sv_read sv_wrong sv_isNamed sv_goes sv_goesSize sv_goesAt sv_targetParts sv_isRoot)), ((ma 16), .inl (cJ, 46080, .inr (.inl F)))]) hP hD [0, 1] [] rfl rfl (by decide +kernel) (by decide +kernel) hk1 hFc hP1 hD1
                  clear hPc hDc hFc hP1 hD1 hk1 hz1 hkc hks
                  generalize H1 = H at hP hS ⊢
                  have hP : va_P D CL [(h0, .inr (11, MO ma sv_thrown sv_length sv_nodes sv_many sv_directories sv_runsFrom sv_runs sv_read sv_wrong sv_isNamed sv_goes sv_goesSize sv_goesAt sv_targetParts sv_isRoot)), ((ma 16), .inl (cJ, 46080, .inr (.inl F)))] H := hP
                  have hD : va_D A [(h0, .inr (11, MO ma sv_thrown sv_length sv_nodes sv_many sv_directories sv_runsFrom sv_runs sv_read sv_wrong sv_isNamed sv_goes sv_goesSize sv_goesAt sv_targetParts sv_isRoot)), ((ma 16), .inl (cJ, 46080, .inr (.inl F)))] := hD
                  try dsimp only at hp_r53
                  obtain ⟨hr_54, hv_55, hw_56⟩ := hp_r53
                  refine lv_sipush (v := 255) hx hb d_DiscMakerModel_descriptor_125 (by decide) ?_
                  refine lv_icmp_ne (tgt := 144) hx hb d_DiscMakerModel_descriptor_128 (by decide) (fun h_9 => ?_) (fun h_9 => ?_)
                  · skip
                    have g128_134 : ¬ r53.toInt = 255 := fun h8 => h_9 ((i_eq rfl (by decide)).mpr h8)
                    refine lv_iload_n hx hb d_DiscMakerModel_descriptor_144 rfl (lv_at hl 3 rfl) ?_
                    refine lv_if_ne (tgt := 166) hx hb d_DiscMakerModel_descriptor_145 (by decide) (fun h_9 => ?_) (fun h_9 => ?_)
                    · skip
                      have g145_136 : ¬ x.toInt = 0 := fun h8 => h_9 ((i_eq rfl (by decide)).mpr h8)
                      refine lv_aload_n hx hb d_DiscMakerModel_descriptor_166 rfl (lv_at hl 2 rfl) ?_
                      refine lv_iload hx hb d_DiscMakerModel_descriptor_167 (lv_at hl 1 rfl) ?_
                      have hPc := hP.sub (ws' := [(h0, .inr (11, MO ma sv_thrown sv_length sv_nodes sv_many sv_directories sv_runsFrom sv_runs sv_read sv_wrong sv_isNamed sv_goes sv_goesSize sv_goesAt sv_targetParts sv_isRoot)), ((ma 16), .inl (cJ, 46080, .inr (.inl F)))]) [0, 1] rfl
                      have hDc := hD.sub (ws' := [(h0, .inr (11, MO ma sv_thrown sv_length sv_nodes sv_many sv_directories sv_runsFrom sv_runs sv_read sv_wrong sv_isNamed sv_goes sv_goesSize sv_goesAt sv_targetParts sv_isRoot)), ((ma 16), .inl (cJ, 46080, .inr (.inl F)))]) [0, 1] (by decide +kernel) rfl
                      have hFc := va_free (wc := [(h0, .inr (11, MO ma sv_thrown sv_length sv_nodes sv_many sv_directories sv_runsFrom sv_runs sv_read sv_wrong sv_isNamed sv_goes sv_goesSize sv_goesAt sv_targetParts sv_isRoot)), ((ma 16), .inl (cJ, 46080, .inr (.inl F)))]) hD hS hA [0, 1] rfl
                      have hkc : 0 ≤ 0 := by decide
                      have hks : 0 ≤ 0 := by decide
                      refine va_calli (va_runV (C := "DiscMakerModel") (As := [.int v1]) (rest := []) ⟨hx, hb, hml, hown, hts⟩ (m_at l D cB cI cJ cZ cN cF H.size h0 ma sv_thrown sv_length sv_nodes sv_many sv_directories sv_runsFrom sv_runs sv_read sv_wrong sv_isNamed sv_goes sv_goesSize sv_goesAt sv_targetParts sv_isRoot F v1 (by (try dsimp only); first | assumption | omega | trivial) (by (try dsimp only); first | assumption | omega | trivial)) (cwV 1 hts (lg_goodV k1809 k1811 k95 k125 kc_DiscMakerModel_at) rfl rfl rfl (by decide +kernel) ⟨Nat.le_of_ble_eq_true rfl, Nat.le_of_ble_eq_true rfl⟩) ⟨fun a U g mk q => by obtain ⟨q0, q1, qP, qK, qN, qD⟩ := q; exact ⟨q0, q1, qP, va_K.moved (u := U) (U := U.calling g mk a) (Vm.Alike.refl U.vm) qK, qN.calling, qD⟩, va_recv hK hP (ci := 11) (q0 := 0) rfl rfl, fun U hU hW => ⟨rfl, by rw [hU], by rw [hU]; exact hPc, va_K.moved hW.alike hK, NN.warm hW hN, hDc.weaken (fun _ _ _ _ => trivial)⟩⟩ rfl rfl hl.1 rfl (lv_room (Nat.le_of_ble_eq_true rfl)) d_DiscMakerModel_descriptor_169 ⟨hkc, hks⟩) hS (fun q _ h => hFc q h) hFc (fun r57 u t H1 locs ht hvm hp_r57 hB hz1 hk1 hS => ?_)
                      obtain ⟨hP1, hD1⟩ := hB
                      rw [ht] at hP1
                      obtain ⟨hP, hD⟩ := va_join (wr := []) (w1 := [(h0, .inr (11, MO ma sv_thrown sv_length sv_nodes sv_many sv_directories sv_runsFrom sv_runs sv_read sv_wrong sv_isNamed sv_goes sv_goesSize sv_goesAt sv_targetParts sv_isRoot)), ((ma 16), .inl (cJ, 46080, .inr (.inl F)))]) hP hD [0, 1] [] rfl rfl (by decide +kernel) (by decide +kernel) hk1 hFc hP1 hD1
                      clear hPc hDc hFc hP1 hD1 hk1 hz1 hkc hks
                      generalize H1 = H at hP hS ⊢
                      have hP : va_P D CL [(h0, .inr (11, MO ma sv_thrown sv_length sv_nodes sv_many sv_directories sv_runsFrom sv_runs sv_read sv_wrong sv_isNamed sv_goes sv_goesSize sv_goesAt sv_targetParts sv_isRoot)), ((ma 16), .inl (cJ, 46080, .inr (.inl F)))] H := hP
                      have hD : va_D A [(h0, .inr (11, MO ma sv_thrown sv_length sv_nodes sv_many sv_directories sv_runsFrom sv_runs sv_read sv_wrong sv_isNamed sv_goes sv_goesSize sv_goesAt sv_targetParts sv_isRoot)), ((ma 16), .inl (cJ, 46080, .inr (.inl F)))] := hD
                      try dsimp only at hp_r57
                      obtain ⟨hr_58, hv_59, hw_60⟩ := hp_r57
                      refine lv_iconst (v := 2) hx hb d_DiscMakerModel_descriptor_172 (by decide) ?_
                      refine lv_icmp_ne (tgt := 222) hx hb d_DiscMakerModel_descriptor_173 (by decide) (fun h_9 => ?_) (fun h_9 => ?_)
                      · skip
                        have g173_141 : ¬ r57.toInt = 2 := fun h8 => h_9 ((i_eq rfl (by decide)).mpr h8)
                        refine lv_iconst (v := 0) hx hb d_DiscMakerModel_descriptor_222 (by decide) ?_
                        refine lv_istore hx hb d_DiscMakerModel_descriptor_223 hl (by decide) rfl (fun ls hl => ?_)
                        have hl : lv_has ls 7 [(6, .int 0), (5, .int 1), (4, .int v1), (0, .ref h0), (1, .int x), (2, .int wa), (3, .int sx)] := hl
                        refine lv_iload hx hb d_DiscMakerModel_descriptor_225 (lv_at hl 0 rfl) ?_
                        refine lv_if_eq (tgt := 237) hx hb d_DiscMakerModel_descriptor_227 (by decide) (fun _ => ?_) (fun h_9 => absurd (by decide) h_9)
                        obtain ⟨v61, e_v61⟩ : ∃ z : Int32, z = sx + 1 := ⟨_, rfl⟩
                        refine lv_iinc (v := v61) hx hb d_DiscMakerModel_descriptor_237 hl (k := 6) rfl e_v61.symm (by decide +kernel) rfl (fun ls hl => ?_)
                        have t_v61 : v61.toInt = sx.toInt + 1 := by rw [e_v61]; exact i_add rfl (by decide) (by omega) (by omega)
                        have hl : lv_has ls 7 [(3, .int v61), (6, .int 0), (5, .int 1), (4, .int v1), (0, .ref h0), (1, .int x), (2, .int wa)] := hl
                        refine lv_goto (tgt := 5) hx hb d_DiscMakerModel_descriptor_240 (by decide) ?_
                        have hP := hP.sub (ws' := [(h0, .inr (11, MO ma sv_thrown sv_length sv_nodes sv_many sv_directories sv_runsFrom sv_runs sv_read sv_wrong sv_isNamed sv_goes sv_goesSize sv_goesAt sv_targetParts sv_isRoot)), ((ma 16), .inl (cJ, 46080, .inr (.inl F)))]) [0, 1] rfl
                        have hD := hD.sub (ws' := [(h0, .inr (11, MO ma sv_thrown sv_length sv_nodes sv_many sv_directories sv_runsFrom sv_runs sv_read sv_wrong sv_isNamed sv_goes sv_goesSize sv_goesAt sv_targetParts sv_isRoot)), ((ma 16), .inl (cJ, 46080, .inr (.inl F)))]) [0, 1] (by decide +kernel) rfl
                        have hl := lv_sub hl [4, 5, 6, 0] rfl
                        exact ih5 _ (by first | omega | (dsimp only; omega)) wa v61 _ _ _ rfl ((by (try dsimp only); first | assumption | omega | trivial)) ((by (try dsimp only); first | assumption | omega | trivial)) ((by (try dsimp only); first | assumption | omega | trivial)) hP hD hS hl
                      · skip
                        have g173_141 : r57.toInt = 2 := (i_eq rfl (by decide)).mp h_9
                        refine lv_aload_n hx hb d_DiscMakerModel_descriptor_176 rfl (lv_at hl 2 rfl) ?_
                        refine lv_iload hx hb d_DiscMakerModel_descriptor_177 (lv_at hl 1 rfl) ?_
                        refine lv_bipush (v := 88) hx hb d_DiscMakerModel_descriptor_179 (by decide) ?_
                        refine lv_iadd hx hb d_DiscMakerModel_descriptor_181 ?_
                        refine lv_topi (fun v62 e_v62 => ?_)
                        have t_v62 : v62.toInt = v1.toInt + 88 := by rw [e_v62]; exact i_add rfl (by decide) (by omega) (by omega)
                        have hPc := hP.sub (ws' := [(h0, .inr (11, MO ma sv_thrown sv_length sv_nodes sv_many sv_directories sv_runsFrom sv_runs sv_read sv_wrong sv_isNamed sv_goes sv_goesSize sv_goesAt sv_targetParts sv_isRoot)), ((ma 16), .inl (cJ, 46080, .inr (.inl F)))]) [0, 1] rfl
                        have hDc := hD.sub (ws' := [(h0, .inr (11, MO ma sv_thrown sv_length sv_nodes sv_many sv_directories sv_runsFrom sv_runs sv_read sv_wrong sv_isNamed sv_goes sv_goesSize sv_goesAt sv_targetParts sv_isRoot)), ((ma 16), .inl (cJ, 46080, .inr (.inl F)))]) [0, 1] (by decide +kernel) rfl
                        have hFc := va_free (wc := [(h0, .inr (11, MO ma sv_thrown sv_length sv_nodes sv_many sv_directories sv_runsFrom sv_runs sv_read sv_wrong sv_isNamed sv_goes sv_goesSize sv_goesAt sv_targetParts sv_isRoot)), ((ma 16), .inl (cJ, 46080, .inr (.inl F)))]) hD hS hA [0, 1] rfl
                        have hkc : 0 ≤ 0 := by decide
                        have hks : 0 ≤ 0 := by decide
                        refine va_calli (va_runV (C := "DiscMakerModel") (As := [.int v62]) (rest := []) ⟨hx, hb, hml, hown, hts⟩ (m_at l D cB cI cJ cZ cN cF H.size h0 ma sv_thrown sv_length sv_nodes sv_many sv_directories sv_runsFrom sv_runs sv_read sv_wrong sv_isNamed sv_goes sv_goesSize sv_goesAt sv_targetParts sv_isRoot F v62 (by (try dsimp only); first | assumption | omega | trivial) (by (try dsimp only); first | assumption | omega | trivial)) (cwV 1 hts (lg_goodV k1809 k1811 k95 k125 kc_DiscMakerModel_at) rfl rfl rfl (by decide +kernel) ⟨Nat.le_of_ble_eq_true rfl, Nat.le_of_ble_eq_true rfl⟩) ⟨fun a U g mk q => by obtain ⟨q0, q1, qP, qK, qN, qD⟩ := q; exact ⟨q0, q1, qP, va_K.moved (u := U) (U := U.calling g mk a) (Vm.Alike.refl U.vm) qK, qN.calling, qD⟩, va_recv hK hP (ci := 11) (q0 := 0) rfl rfl, fun U hU hW => ⟨rfl, by rw [hU], by rw [hU]; exact hPc, va_K.moved hW.alike hK, NN.warm hW hN, hDc.weaken (fun _ _ _ _ => trivial)⟩⟩ rfl rfl hl.1 rfl (lv_room (Nat.le_of_ble_eq_true rfl)) d_DiscMakerModel_descriptor_182 ⟨hkc, hks⟩) hS (fun q _ h => hFc q h) hFc (fun r63 u t H1 locs ht hvm hp_r63 hB hz1 hk1 hS => ?_)
                        obtain ⟨hP1, hD1⟩ := hB
                        rw [ht] at hP1
                        obtain ⟨hP, hD⟩ := va_join (wr := []) (w1 := [(h0, .inr (11, MO ma sv_thrown sv_length sv_nodes sv_many sv_directories sv_runsFrom sv_runs sv_read sv_wrong sv_isNamed sv_goes sv_goesSize sv_goesAt sv_targetParts sv_isRoot)), ((ma 16), .inl (cJ, 46080, .inr (.inl F)))]) hP hD [0, 1] [] rfl rfl (by decide +kernel) (by decide +kernel) hk1 hFc hP1 hD1
                        clear hPc hDc hFc hP1 hD1 hk1 hz1 hkc hks
                        generalize H1 = H at hP hS ⊢
                        have hP : va_P D CL [(h0, .inr (11, MO ma sv_thrown sv_length sv_nodes sv_many sv_directories sv_runsFrom sv_runs sv_read sv_wrong sv_isNamed sv_goes sv_goesSize sv_goesAt sv_targetParts sv_isRoot)), ((ma 16), .inl (cJ, 46080, .inr (.inl F)))] H := hP
                        have hD : va_D A [(h0, .inr (11, MO ma sv_thrown sv_length sv_nodes sv_many sv_directories sv_runsFrom sv_runs sv_read sv_wrong sv_isNamed sv_goes sv_goesSize sv_goesAt sv_targetParts sv_isRoot)), ((ma 16), .inl (cJ, 46080, .inr (.inl F)))] := hD
                        try dsimp only at hp_r63
                        obtain ⟨hr_64, hv_65, hw_66⟩ := hp_r63
                        refine lv_bipush (v := 37) hx hb d_DiscMakerModel_descriptor_185 (by decide) ?_
                        refine lv_icmp_ne (tgt := 222) hx hb d_DiscMakerModel_descriptor_187 (by decide) (fun h_9 => ?_) (fun h_9 => ?_)
                        · skip
                          have g187_155 : ¬ r63.toInt = 37 := fun h8 => h_9 ((i_eq rfl (by decide)).mpr h8)
                          refine lv_iconst (v := 0) hx hb d_DiscMakerModel_descriptor_222 (by decide) ?_
                          refine lv_istore hx hb d_DiscMakerModel_descriptor_223 hl (by decide) rfl (fun ls hl => ?_)
                          have hl : lv_has ls 7 [(6, .int 0), (5, .int 1), (4, .int v1), (0, .ref h0), (1, .int x), (2, .int wa), (3, .int sx)] := hl
                          refine lv_iload hx hb d_DiscMakerModel_descriptor_225 (lv_at hl 0 rfl) ?_
                          refine lv_if_eq (tgt := 237) hx hb d_DiscMakerModel_descriptor_227 (by decide) (fun _ => ?_) (fun h_9 => absurd (by decide) h_9)
                          obtain ⟨v67, e_v67⟩ : ∃ z : Int32, z = sx + 1 := ⟨_, rfl⟩
                          refine lv_iinc (v := v67) hx hb d_DiscMakerModel_descriptor_237 hl (k := 6) rfl e_v67.symm (by decide +kernel) rfl (fun ls hl => ?_)
                          have t_v67 : v67.toInt = sx.toInt + 1 := by rw [e_v67]; exact i_add rfl (by decide) (by omega) (by omega)
                          have hl : lv_has ls 7 [(3, .int v67), (6, .int 0), (5, .int 1), (4, .int v1), (0, .ref h0), (1, .int x), (2, .int wa)] := hl
                          refine lv_goto (tgt := 5) hx hb d_DiscMakerModel_descriptor_240 (by decide) ?_
                          have hP := hP.sub (ws' := [(h0, .inr (11, MO ma sv_thrown sv_length sv_nodes sv_many sv_directories sv_runsFrom sv_runs sv_read sv_wrong sv_isNamed sv_goes sv_goesSize sv_goesAt sv_targetParts sv_isRoot)), ((ma 16), .inl (cJ, 46080, .inr (.inl F)))]) [0, 1] rfl
                          have hD := hD.sub (ws' := [(h0, .inr (11, MO ma sv_thrown sv_length sv_nodes sv_many sv_directories sv_runsFrom sv_runs sv_read sv_wrong sv_isNamed sv_goes sv_goesSize sv_goesAt sv_targetParts sv_isRoot)), ((ma 16), .inl (cJ, 46080, .inr (.inl F)))]) [0, 1] (by decide +kernel) rfl
                          have hl := lv_sub hl [4, 5, 6, 0] rfl
                          exact ih5 _ (by first | omega | (dsimp only; omega)) wa v67 _ _ _ rfl ((by (try dsimp only); first | assumption | omega | trivial)) ((by (try dsimp only); first | assumption | omega | trivial)) ((by (try dsimp only); first | assumption | omega | trivial)) hP hD hS hl
                        · skip
                          have g187_155 : r63.toInt = 37 := (i_eq rfl (by decide)).mp h_9
                          refine lv_aload_n hx hb d_DiscMakerModel_descriptor_190 rfl (lv_at hl 2 rfl) ?_
                          refine lv_iload hx hb d_DiscMakerModel_descriptor_191 (lv_at hl 1 rfl) ?_
                          refine lv_bipush (v := 89) hx hb d_DiscMakerModel_descriptor_193 (by decide) ?_
                          refine lv_iadd hx hb d_DiscMakerModel_descriptor_195 ?_
                          refine lv_topi (fun v68 e_v68 => ?_)
                          have t_v68 : v68.toInt = v1.toInt + 89 := by rw [e_v68]; exact i_add rfl (by decide) (by omega) (by omega)
                          have hPc := hP.sub (ws' := [(h0, .inr (11, MO ma sv_thrown sv_length sv_nodes sv_many sv_directories sv_runsFrom sv_runs sv_read sv_wrong sv_isNamed sv_goes sv_goesSize sv_goesAt sv_targetParts sv_isRoot)), ((ma 16), .inl (cJ, 46080, .inr (.inl F)))]) [0, 1] rfl
                          have hDc := hD.sub (ws' := [(h0, .inr (11, MO ma sv_thrown sv_length sv_nodes sv_many sv_directories sv_runsFrom sv_runs sv_read sv_wrong sv_isNamed sv_goes sv_goesSize sv_goesAt sv_targetParts sv_isRoot)), ((ma 16), .inl (cJ, 46080, .inr (.inl F)))]) [0, 1] (by decide +kernel) rfl
                          have hFc := va_free (wc := [(h0, .inr (11, MO ma sv_thrown sv_length sv_nodes sv_many sv_directories sv_runsFrom sv_runs sv_read sv_wrong sv_isNamed sv_goes sv_goesSize sv_goesAt sv_targetParts sv_isRoot)), ((ma 16), .inl (cJ, 46080, .inr (.inl F)))]) hD hS hA [0, 1] rfl
                          have hkc : 0 ≤ 0 := by decide
                          have hks : 0 ≤ 0 := by decide
                          refine va_calli (va_runV (C := "DiscMakerModel") (As := [.int v68]) (rest := []) ⟨hx, hb, hml, hown, hts⟩ (m_at l D cB cI cJ cZ cN cF H.size h0 ma sv_thrown sv_length sv_nodes sv_many sv_directories sv_runsFrom sv_runs sv_read sv_wrong sv_isNamed sv_goes sv_goesSize sv_goesAt sv_targetParts sv_isRoot F v68 (by (try dsimp only); first | assumption | omega | trivial) (by (try dsimp only); first | assumption | omega | trivial)) (cwV 1 hts (lg_goodV k1809 k1811 k95 k125 kc_DiscMakerModel_at) rfl rfl rfl (by decide +kernel) ⟨Nat.le_of_ble_eq_true rfl, Nat.le_of_ble_eq_true rfl⟩) ⟨fun a U g mk q => by obtain ⟨q0, q1, qP, qK, qN, qD⟩ := q; exact ⟨q0, q1, qP, va_K.moved (u := U) (U := U.calling g mk a) (Vm.Alike.refl U.vm) qK, qN.calling, qD⟩, va_recv hK hP (ci := 11) (q0 := 0) rfl rfl, fun U hU hW => ⟨rfl, by rw [hU], by rw [hU]; exact hPc, va_K.moved hW.alike hK, NN.warm hW hN, hDc.weaken (fun _ _ _ _ => trivial)⟩⟩ rfl rfl hl.1 rfl (lv_room (Nat.le_of_ble_eq_true rfl)) d_DiscMakerModel_descriptor_196 ⟨hkc, hks⟩) hS (fun q _ h => hFc q h) hFc (fun r69 u t H1 locs ht hvm hp_r69 hB hz1 hk1 hS => ?_)
                          obtain ⟨hP1, hD1⟩ := hB
                          rw [ht] at hP1
                          obtain ⟨hP, hD⟩ := va_join (wr := []) (w1 := [(h0, .inr (11, MO ma sv_thrown sv_length sv_nodes sv_many sv_directories sv_runsFrom sv_runs sv_read sv_wrong sv_isNamed sv_goes sv_goesSize sv_goesAt sv_targetParts sv_isRoot)), ((ma 16), .inl (cJ, 46080, .inr (.inl F)))]) hP hD [0, 1] [] rfl rfl (by decide +kernel) (by decide +kernel) hk1 hFc hP1 hD1
                          clear hPc hDc hFc hP1 hD1 hk1 hz1 hkc hks
                          generalize H1 = H at hP hS ⊢
                          have hP : va_P D CL [(h0, .inr (11, MO ma sv_thrown sv_length sv_nodes sv_many sv_directories sv_runsFrom sv_runs sv_read sv_wrong sv_isNamed sv_goes sv_goesSize sv_goesAt sv_targetParts sv_isRoot)), ((ma 16), .inl (cJ, 46080, .inr (.inl F)))] H := hP
                          have hD : va_D A [(h0, .inr (11, MO ma sv_thrown sv_length sv_nodes sv_many sv_directories sv_runsFrom sv_runs sv_read sv_wrong sv_isNamed sv_goes sv_goesSize sv_goesAt sv_targetParts sv_isRoot)), ((ma 16), .inl (cJ, 46080, .inr (.inl F)))] := hD
                          try dsimp only at hp_r69
                          obtain ⟨hr_70, hv_71, hw_72⟩ := hp_r69
                          refine lv_bipush (v := 47) hx hb d_DiscMakerModel_descriptor_199 (by decide) ?_
                          refine lv_icmp_ne (tgt := 222) hx hb d_DiscMakerModel_descriptor_201 (by decide) (fun h_9 => ?_) (fun h_9 => ?_)
                          · skip
                            have g201_169 : ¬ r69.toInt = 47 := fun h8 => h_9 ((i_eq rfl (by decide)).mpr h8)
                            refine lv_iconst (v := 0) hx hb d_DiscMakerModel_descriptor_222 (by decide) ?_
                            refine lv_istore hx hb d_DiscMakerModel_descriptor_223 hl (by decide) rfl (fun ls hl => ?_)
                            have hl : lv_has ls 7 [(6, .int 0), (5, .int 1), (4, .int v1), (0, .ref h0), (1, .int x), (2, .int wa), (3, .int sx)] := hl
                            refine lv_iload hx hb d_DiscMakerModel_descriptor_225 (lv_at hl 0 rfl) ?_
                            refine lv_if_eq (tgt := 237) hx hb d_DiscMakerModel_descriptor_227 (by decide) (fun _ => ?_) (fun h_9 => absurd (by decide) h_9)
                            obtain ⟨v73, e_v73⟩ : ∃ z : Int32, z = sx + 1 := ⟨_, rfl⟩
                            refine lv_iinc (v := v73) hx hb d_DiscMakerModel_descriptor_237 hl (k := 6) rfl e_v73.symm (by decide +kernel) rfl (fun ls hl => ?_)
                            have t_v73 : v73.toInt = sx.toInt + 1 := by rw [e_v73]; exact i_add rfl (by decide) (by omega) (by omega)
                            have hl : lv_has ls 7 [(3, .int v73), (6, .int 0), (5, .int 1), (4, .int v1), (0, .ref h0), (1, .int x), (2, .int wa)] := hl
                            refine lv_goto (tgt := 5) hx hb d_DiscMakerModel_descriptor_240 (by decide) ?_
                            have hP := hP.sub (ws' := [(h0, .inr (11, MO ma sv_thrown sv_length sv_nodes sv_many sv_directories sv_runsFrom sv_runs sv_read sv_wrong sv_isNamed sv_goes sv_goesSize sv_goesAt sv_targetParts sv_isRoot)), ((ma 16), .inl (cJ, 46080, .inr (.inl F)))]) [0, 1] rfl
                            have hD := hD.sub (ws' := [(h0, .inr (11, MO ma sv_thrown sv_length sv_nodes sv_many sv_directories sv_runsFrom sv_runs sv_read sv_wrong sv_isNamed sv_goes sv_goesSize sv_goesAt sv_targetParts sv_isRoot)), ((ma 16), .inl (cJ, 46080, .inr (.inl F)))]) [0, 1] (by decide +kernel) rfl
                            have hl := lv_sub hl [4, 5, 6, 0] rfl
                            exact ih5 _ (by first | omega | (dsimp only; omega)) wa v73 _ _ _ rfl ((by (try dsimp only); first | assumption | omega | trivial)) ((by (try dsimp only); first | assumption | omega | trivial)) ((by (try dsimp only); first | assumption | omega | trivial)) hP hD hS hl
                          · skip
                            have g201_169 : r69.toInt = 47 := (i_eq rfl (by decide)).mp h_9
                            refine lv_aload_n hx hb d_DiscMakerModel_descriptor_204 rfl (lv_at hl 2 rfl) ?_
                            refine lv_iload hx hb d_DiscMakerModel_descriptor_205 (lv_at hl 1 rfl) ?_
                            refine lv_bipush (v := 90) hx hb d_DiscMakerModel_descriptor_207 (by decide) ?_
                            refine lv_iadd hx hb d_DiscMakerModel_descriptor_209 ?_
                            refine lv_topi (fun v74 e_v74 => ?_)
                            have t_v74 : v74.toInt = v1.toInt + 90 := by rw [e_v74]; exact i_add rfl (by decide) (by omega) (by omega)
                            have hPc := hP.sub (ws' := [(h0, .inr (11, MO ma sv_thrown sv_length sv_nodes sv_many sv_directories sv_runsFrom sv_runs sv_read sv_wrong sv_isNamed sv_goes sv_goesSize sv_goesAt sv_targetParts sv_isRoot)), ((ma 16), .inl (cJ, 46080, .inr (.inl F)))]) [0, 1] rfl
                            have hDc := hD.sub (ws' := [(h0, .inr (11, MO ma sv_thrown sv_length sv_nodes sv_many sv_directories sv_runsFrom sv_runs sv_read sv_wrong sv_isNamed sv_goes sv_goesSize sv_goesAt sv_targetParts sv_isRoot)), ((ma 16), .inl (cJ, 46080, .inr (.inl F)))]) [0, 1] (by decide +kernel) rfl
                            have hFc := va_free (wc := [(h0, .inr (11, MO ma sv_thrown sv_length sv_nodes sv_many sv_directories sv_runsFrom sv_runs sv_read sv_wrong sv_isNamed sv_goes sv_goesSize sv_goesAt sv_targetParts sv_isRoot)), ((ma 16), .inl (cJ, 46080, .inr (.inl F)))]) hD hS hA [0, 1] rfl
                            have hkc : 0 ≤ 0 := by decide
                            have hks : 0 ≤ 0 := by decide
                            refine va_calli (va_runV (C := "DiscMakerModel") (As := [.int v74]) (rest := []) ⟨hx, hb, hml, hown, hts⟩ (m_at l D cB cI cJ cZ cN cF H.size h0 ma sv_thrown sv_length sv_nodes sv_many sv_directories sv_runsFrom sv_runs sv_read sv_wrong sv_isNamed sv_goes sv_goesSize sv_goesAt sv_targetParts sv_isRoot F v74 (by (try dsimp only); first | assumption | omega | trivial) (by (try dsimp only); first | assumption | omega | trivial)) (cwV 1 hts (lg_goodV k1809 k1811 k95 k125 kc_DiscMakerModel_at) rfl rfl rfl (by decide +kernel) ⟨Nat.le_of_ble_eq_true rfl, Nat.le_of_ble_eq_true rfl⟩) ⟨fun a U g mk q => by obtain ⟨q0, q1, qP, qK, qN, qD⟩ := q; exact ⟨q0, q1, qP, va_K.moved (u := U) (U := U.calling g mk a) (Vm.Alike.refl U.vm) qK, qN.calling, qD⟩, va_recv hK hP (ci := 11) (q0 := 0) rfl rfl, fun U hU hW => ⟨rfl, by rw [hU], by rw [hU]; exact hPc, va_K.moved hW.alike hK, NN.warm hW hN, hDc.weaken (fun _ _ _ _ => trivial)⟩⟩ rfl rfl hl.1 rfl (lv_room (Nat.le_of_ble_eq_true rfl)) d_DiscMakerModel_descriptor_210 ⟨hkc, hks⟩) hS (fun q _ h => hFc q h) hFc (fun r75 u t H1 locs ht hvm hp_r75 hB hz1 hk1 hS => ?_)
                            obtain ⟨hP1, hD1⟩ := hB
                            rw [ht] at hP1
                            obtain ⟨hP, hD⟩ := va_join (wr := []) (w1 := [(h0, .inr (11, MO ma sv_thrown sv_length sv_nodes sv_many sv_directories sv_runsFrom sv_runs sv_read sv_wrong sv_isNamed sv_goes sv_goesSize sv_goesAt sv_targetParts sv_isRoot)), ((ma 16), .inl (cJ, 46080, .inr (.inl F)))]) hP hD [0, 1] [] rfl rfl (by decide +kernel) (by decide +kernel) hk1 hFc hP1 hD1
                            clear hPc hDc hFc hP1 hD1 hk1 hz1 hkc hks
                            generalize H1 = H at hP hS ⊢
                            have hP : va_P D CL [(h0, .inr (11, MO ma sv_thrown sv_length sv_nodes sv_many sv_directories sv_runsFrom sv_runs sv_read sv_wrong sv_isNamed sv_goes sv_goesSize sv_goesAt sv_targetParts sv_isRoot)), ((ma 16), .inl (cJ, 46080, .inr (.inl F)))] H := hP
                            have hD : va_D A [(h0, .inr (11, MO ma sv_thrown sv_length sv_nodes sv_many sv_directories sv_runsFrom sv_runs sv_read sv_wrong sv_isNamed sv_goes sv_goesSize sv_goesAt sv_targetParts sv_isRoot)), ((ma 16), .inl (cJ, 46080, .inr (.inl F)))] := hD
                            try dsimp only at hp_r75
                            obtain ⟨hr_76, hv_77, hw_78⟩ := hp_r75
                            refine lv_bipush (v := 69) hx hb d_DiscMakerModel_descriptor_213 (by decide) ?_
                            refine lv_icmp_ne (tgt := 222) hx hb d_DiscMakerModel_descriptor_215 (by decide) (fun h_9 => ?_) (fun h_9 => ?_)
                            · skip
                              have g215_183 : ¬ r75.toInt = 69 := fun h8 => h_9 ((i_eq rfl (by decide)).mpr h8)
                              refine lv_iconst (v := 0) hx hb d_DiscMakerModel_descriptor_222 (by decide) ?_
                              refine lv_istore hx hb d_DiscMakerModel_descriptor_223 hl (by decide) rfl (fun ls hl => ?_)
                              have hl : lv_has ls 7 [(6, .int 0), (5, .int 1), (4, .int v1), (0, .ref h0), (1, .int x), (2, .int wa), (3, .int sx)] := hl
                              refine lv_iload hx hb d_DiscMakerModel_descriptor_225 (lv_at hl 0 rfl) ?_
                              refine lv_if_eq (tgt := 237) hx hb d_DiscMakerModel_descriptor_227 (by decide) (fun _ => ?_) (fun h_9 => absurd (by decide) h_9)
                              obtain ⟨v79, e_v79⟩ : ∃ z : Int32, z = sx + 1 := ⟨_, rfl⟩
                              refine lv_iinc (v := v79) hx hb d_DiscMakerModel_descriptor_237 hl (k := 6) rfl e_v79.symm (by decide +kernel) rfl (fun ls hl => ?_)
                              have t_v79 : v79.toInt = sx.toInt + 1 := by rw [e_v79]; exact i_add rfl (by decide) (by omega) (by omega)
                              have hl : lv_has ls 7 [(3, .int v79), (6, .int 0), (5, .int 1), (4, .int v1), (0, .ref h0), (1, .int x), (2, .int wa)] := hl
                              refine lv_goto (tgt := 5) hx hb d_DiscMakerModel_descriptor_240 (by decide) ?_
                              have hP := hP.sub (ws' := [(h0, .inr (11, MO ma sv_thrown sv_length sv_nodes sv_many sv_directories sv_runsFrom sv_runs sv_read sv_wrong sv_isNamed sv_goes sv_goesSize sv_goesAt sv_targetParts sv_isRoot)), ((ma 16), .inl (cJ, 46080, .inr (.inl F)))]) [0, 1] rfl
                              have hD := hD.sub (ws' := [(h0, .inr (11, MO ma sv_thrown sv_length sv_nodes sv_many sv_directories sv_runsFrom sv_runs sv_read sv_wrong sv_isNamed sv_goes sv_goesSize sv_goesAt sv_targetParts sv_isRoot)), ((ma 16), .inl (cJ, 46080, .inr (.inl F)))]) [0, 1] (by decide +kernel) rfl
                              have hl := lv_sub hl [4, 5, 6, 0] rfl
                              exact ih5 _ (by first | omega | (dsimp only; omega)) wa v79 _ _ _ rfl ((by (try dsimp only); first | assumption | omega | trivial)) ((by (try dsimp only); first | assumption | omega | trivial)) ((by (try dsimp only); first | assumption | omega | trivial)) hP hD hS hl
                            · skip
                              have g215_183 : r75.toInt = 69 := (i_eq rfl (by decide)).mp h_9
                              refine lv_iconst (v := 1) hx hb d_DiscMakerModel_descriptor_218 (by decide) ?_
                              refine lv_goto (tgt := 223) hx hb d_DiscMakerModel_descriptor_219 (by decide) ?_
                              refine lv_istore hx hb d_DiscMakerModel_descriptor_223 hl (by decide) rfl (fun ls hl => ?_)
                              have hl : lv_has ls 7 [(6, .int 1), (5, .int 1), (4, .int v1), (0, .ref h0), (1, .int x), (2, .int wa), (3, .int sx)] := hl
                              refine lv_iload hx hb d_DiscMakerModel_descriptor_225 (lv_at hl 0 rfl) ?_
                              refine lv_if_eq (tgt := 237) hx hb d_DiscMakerModel_descriptor_227 (by decide) (fun h_9 => absurd h_9 (by decide)) (fun _ => ?_)
                              refine lv_iload_n hx hb d_DiscMakerModel_descriptor_230 rfl (lv_at hl 5 rfl) ?_
                              refine lv_if_ge (tgt := 237) hx hb d_DiscMakerModel_descriptor_231 (by decide) (fun h_9 => ?_) (fun h_9 => ?_)
                              · skip
                                have g231_197 : 0 ≤ wa.toInt := (i_le (by decide) rfl).mp h_9
                                obtain ⟨v80, e_v80⟩ : ∃ z : Int32, z = sx + 1 := ⟨_, rfl⟩
                                refine lv_iinc (v := v80) hx hb d_DiscMakerModel_descriptor_237 hl (k := 6) rfl e_v80.symm (by decide +kernel) rfl (fun ls hl => ?_)
                                have t_v80 : v80.toInt = sx.toInt + 1 := by rw [e_v80]; exact i_add rfl (by decide) (by omega) (by omega)
                                have hl : lv_has ls 7 [(3, .int v80), (6, .int 1), (5, .int 1), (4, .int v1), (0, .ref h0), (1, .int x), (2, .int wa)] := hl
                                refine lv_goto (tgt := 5) hx hb d_DiscMakerModel_descriptor_240 (by decide) ?_
                                have hP := hP.sub (ws' := [(h0, .inr (11, MO ma sv_thrown sv_length sv_nodes sv_many sv_directories sv_runsFrom sv_runs sv_read sv_wrong sv_isNamed sv_goes sv_goesSize sv_goesAt sv_targetParts sv_isRoot)), ((ma 16), .inl (cJ, 46080, .inr (.inl F)))]) [0, 1] rfl
                                have hD := hD.sub (ws' := [(h0, .inr (11, MO ma sv_thrown sv_length sv_nodes sv_many sv_directories sv_runsFrom sv_runs sv_read sv_wrong sv_isNamed sv_goes sv_goesSize sv_goesAt sv_targetParts sv_isRoot)), ((ma 16), .inl (cJ, 46080, .inr (.inl F)))]) [0, 1] (by decide +kernel) rfl
                                have hl := lv_sub hl [4, 5, 6, 0] rfl
                                exact ih5 _ (by first | omega | (dsimp only; omega)) wa v80 _ _ _ rfl ((by (try dsimp only); first | assumption | omega | trivial)) ((by (try dsimp only); first | assumption | omega | trivial)) ((by (try dsimp only); first | assumption | omega | trivial)) hP hD hS hl
                              · skip
                                have g231_197 : ¬ 0 ≤ wa.toInt := fun h8 => h_9 ((i_le (by decide) rfl).mpr h8)
                                refine lv_iload hx hb d_DiscMakerModel_descriptor_234 (lv_at hl 2 rfl) ?_
                                refine lv_istore_n hx hb d_DiscMakerModel_descriptor_236 rfl hl (by decide) rfl (fun ls hl => ?_)
                                have hl : lv_has ls 7 [(2, .int v1), (6, .int 1), (5, .int 1), (4, .int v1), (0, .ref h0), (1, .int x), (3, .int sx)] := hl
                                obtain ⟨v81, e_v81⟩ : ∃ z : Int32, z = sx + 1 := ⟨_, rfl⟩
                                refine lv_iinc (v := v81) hx hb d_DiscMakerModel_descriptor_237 hl (k := 6) rfl e_v81.symm (by decide +kernel) rfl (fun ls hl => ?_)
                                have t_v81 : v81.toInt = sx.toInt + 1 := by rw [e_v81]; exact i_add rfl (by decide) (by omega) (by omega)
                                have hl : lv_has ls 7 [(3, .int v81), (2, .int v1), (6, .int 1), (5, .int 1), (4, .int v1), (0, .ref h0), (1, .int x)] := hl
                                refine lv_goto (tgt := 5) hx hb d_DiscMakerModel_descriptor_240 (by decide) ?_
                                have hP := hP.sub (ws' := [(h0, .inr (11, MO ma sv_thrown sv_length sv_nodes sv_many sv_directories sv_runsFrom sv_runs sv_read sv_wrong sv_isNamed sv_goes sv_goesSize sv_goesAt sv_targetParts sv_isRoot)), ((ma 16), .inl (cJ, 46080, .inr (.inl F)))]) [0, 1] rfl
                                have hD := hD.sub (ws' := [(h0, .inr (11, MO ma sv_thrown sv_length sv_nodes sv_many sv_directories sv_runsFrom sv_runs sv_read sv_wrong sv_isNamed sv_goes sv_goesSize sv_goesAt sv_targetParts sv_isRoot)), ((ma 16), .inl (cJ, 46080, .inr (.inl F)))]) [0, 1] (by decide +kernel) rfl
                                have hl := lv_sub hl [5, 6, 1, 0] rfl
                                exact ih5 _ (by first | omega | (dsimp only; omega)) v1 v81 _ _ _ rfl ((by (try dsimp only); first | assumption | omega | trivial)) ((by (try dsimp only); first | assumption | omega | trivial)) ((by (try dsimp only); first | assumption | omega | trivial)) hP hD hS hl
                    · skip
                      have g145_136 : x.toInt = 0 := (i_eq rfl (by decide)).mp h_9
                      refine lv_aload_n hx hb d_DiscMakerModel_descriptor_148 rfl (lv_at hl 2 rfl) ?_
                      refine lv_iload hx hb d_DiscMakerModel_descriptor_149 (lv_at hl 1 rfl) ?_
                      have hPc := hP.sub (ws' := [(h0, .inr (11, MO ma sv_thrown sv_length sv_nodes sv_many sv_directories sv_runsFrom sv_runs sv_read sv_wrong sv_isNamed sv_goes sv_goesSize sv_goesAt sv_targetParts sv_isRoot)), ((ma 16), .inl (cJ, 46080, .inr (.inl F)))]) [0, 1] rfl
                      have hDc := hD.sub (ws' := [(h0, .inr (11, MO ma sv_thrown sv_length sv_nodes sv_many sv_directories sv_runsFrom sv_runs sv_read sv_wrong sv_isNamed sv_goes sv_goesSize sv_goesAt sv_targetParts sv_isRoot)), ((ma 16), .inl (cJ, 46080, .inr (.inl F)))]) [0, 1] (by decide +kernel) rfl
                      have hFc := va_free (wc := [(h0, .inr (11, MO ma sv_thrown sv_length sv_nodes sv_many sv_directories sv_runsFrom sv_runs sv_read sv_wrong sv_isNamed sv_goes sv_goesSize sv_goesAt sv_targetParts sv_isRoot)), ((ma 16), .inl (cJ, 46080, .inr (.inl F)))]) hD hS hA [0, 1] rfl
                      have hkc : 0 ≤ 0 := by decide
                      have hks : 0 ≤ 0 := by decide
                      refine va_calli (va_runV (C := "DiscMakerModel") (As := [.int v1]) (rest := []) ⟨hx, hb, hml, hown, hts⟩ (m_at l D cB cI cJ cZ cN cF H.size h0 ma sv_thrown sv_length sv_nodes sv_many sv_directories sv_runsFrom sv_runs sv_read sv_wrong sv_isNamed sv_goes sv_goesSize sv_goesAt sv_targetParts sv_isRoot F v1 (by (try dsimp only); first | assumption | omega | trivial) (by (try dsimp only); first | assumption | omega | trivial)) (cwV 1 hts (lg_goodV k1809 k1811 k95 k125 kc_DiscMakerModel_at) rfl rfl rfl (by decide +kernel) ⟨Nat.le_of_ble_eq_true rfl, Nat.le_of_ble_eq_true rfl⟩) ⟨fun a U g mk q => by obtain ⟨q0, q1, qP, qK, qN, qD⟩ := q; exact ⟨q0, q1, qP, va_K.moved (u := U) (U := U.calling g mk a) (Vm.Alike.refl U.vm) qK, qN.calling, qD⟩, va_recv hK hP (ci := 11) (q0 := 0) rfl rfl, fun U hU hW => ⟨rfl, by rw [hU], by rw [hU]; exact hPc, va_K.moved hW.alike hK, NN.warm hW hN, hDc.weaken (fun _ _ _ _ => trivial)⟩⟩ rfl rfl hl.1 rfl (lv_room (Nat.le_of_ble_eq_true rfl)) d_DiscMakerModel_descriptor_151 ⟨hkc, hks⟩) hS (fun q _ h => hFc q h) hFc (fun r82 u t H1 locs ht hvm hp_r82 hB hz1 hk1 hS => ?_)
                      obtain ⟨hP1, hD1⟩ := hB
                      rw [ht] at hP1
                      obtain ⟨hP, hD⟩ := va_join (wr := []) (w1 := [(h0, .inr (11, MO ma sv_thrown sv_length sv_nodes sv_many sv_directories sv_runsFrom sv_runs sv_read sv_wrong sv_isNamed sv_goes sv_goesSize sv_goesAt sv_targetParts sv_isRoot)), ((ma 16), .inl (cJ, 46080, .inr (.inl F)))]) hP hD [0, 1] [] rfl rfl (by decide +kernel) (by decide +kernel) hk1 hFc hP1 hD1
                      clear hPc hDc hFc hP1 hD1 hk1 hz1 hkc hks
                      generalize H1 = H at hP hS ⊢
                      have hP : va_P D CL [(h0, .inr (11, MO ma sv_thrown sv_length sv_nodes sv_many sv_directories sv_runsFrom sv_runs sv_read sv_wrong sv_isNamed sv_goes sv_goesSize sv_goesAt sv_targetParts sv_isRoot)), ((ma 16), .inl (cJ, 46080, .inr (.inl F)))] H := hP
                      have hD : va_D A [(h0, .inr (11, MO ma sv_thrown sv_length sv_nodes sv_many sv_directories sv_runsFrom sv_runs sv_read sv_wrong sv_isNamed sv_goes sv_goesSize sv_goesAt sv_targetParts sv_isRoot)), ((ma 16), .inl (cJ, 46080, .inr (.inl F)))] := hD
                      try dsimp only at hp_r82
                      obtain ⟨hr_83, hv_84, hw_85⟩ := hp_r82
                      refine lv_iconst (v := 1) hx hb d_DiscMakerModel_descriptor_154 (by decide) ?_
                      refine lv_icmp_ne (tgt := 162) hx hb d_DiscMakerModel_descriptor_155 (by decide) (fun h_9 => ?_) (fun h_9 => ?_)
                      · skip
                        have g155_210 : ¬ r82.toInt = 1 := fun h8 => h_9 ((i_eq rfl (by decide)).mpr h8)
                        refine lv_iconst (v := 0) hx hb d_DiscMakerModel_descriptor_162 (by decide) ?_
                        refine lv_goto (tgt := 223) hx hb d_DiscMakerModel_descriptor_163 (by decide) ?_
                        refine lv_istore hx hb d_DiscMakerModel_descriptor_223 hl (by decide) rfl (fun ls hl => ?_)
                        have hl : lv_has ls 7 [(6, .int 0), (5, .int 1), (4, .int v1), (0, .ref h0), (1, .int x), (2, .int wa), (3, .int sx)] := hl
                        refine lv_iload hx hb d_DiscMakerModel_descriptor_225 (lv_at hl 0 rfl) ?_
                        refine lv_if_eq (tgt := 237) hx hb d_DiscMakerModel_descriptor_227 (by decide) (fun _ => ?_) (fun h_9 => absurd (by decide) h_9)
                        obtain ⟨v86, e_v86⟩ : ∃ z : Int32, z = sx + 1 := ⟨_, rfl⟩
                        refine lv_iinc (v := v86) hx hb d_DiscMakerModel_descriptor_237 hl (k := 6) rfl e_v86.symm (by decide +kernel) rfl (fun ls hl => ?_)
                        have t_v86 : v86.toInt = sx.toInt + 1 := by rw [e_v86]; exact i_add rfl (by decide) (by omega) (by omega)
                        have hl : lv_has ls 7 [(3, .int v86), (6, .int 0), (5, .int 1), (4, .int v1), (0, .ref h0), (1, .int x), (2, .int wa)] := hl
                        refine lv_goto (tgt := 5) hx hb d_DiscMakerModel_descriptor_240 (by decide) ?_
                        have hP := hP.sub (ws' := [(h0, .inr (11, MO ma sv_thrown sv_length sv_nodes sv_many sv_directories sv_runsFrom sv_runs sv_read sv_wrong sv_isNamed sv_goes sv_goesSize sv_goesAt sv_targetParts sv_isRoot)), ((ma 16), .inl (cJ, 46080, .inr (.inl F)))]) [0, 1] rfl
                        have hD := hD.sub (ws' := [(h0, .inr (11, MO ma sv_thrown sv_length sv_nodes sv_many sv_directories sv_runsFrom sv_runs sv_read sv_wrong sv_isNamed sv_goes sv_goesSize sv_goesAt sv_targetParts sv_isRoot)), ((ma 16), .inl (cJ, 46080, .inr (.inl F)))]) [0, 1] (by decide +kernel) rfl
                        have hl := lv_sub hl [4, 5, 6, 0] rfl
                        exact ih5 _ (by first | omega | (dsimp only; omega)) wa v86 _ _ _ rfl ((by (try dsimp only); first | assumption | omega | trivial)) ((by (try dsimp only); first | assumption | omega | trivial)) ((by (try dsimp only); first | assumption | omega | trivial)) hP hD hS hl
                      · skip
                        have g155_210 : r82.toInt = 1 := (i_eq rfl (by decide)).mp h_9
                        refine lv_iconst (v := 1) hx hb d_DiscMakerModel_descriptor_158 (by decide) ?_
                        refine lv_goto (tgt := 223) hx hb d_DiscMakerModel_descriptor_159 (by decide) ?_
                        refine lv_istore hx hb d_DiscMakerModel_descriptor_223 hl (by decide) rfl (fun ls hl => ?_)
                        have hl : lv_has ls 7 [(6, .int 1), (5, .int 1), (4, .int v1), (0, .ref h0), (1, .int x), (2, .int wa), (3, .int sx)] := hl
                        refine lv_iload hx hb d_DiscMakerModel_descriptor_225 (lv_at hl 0 rfl) ?_
                        refine lv_if_eq (tgt := 237) hx hb d_DiscMakerModel_descriptor_227 (by decide) (fun h_9 => absurd h_9 (by decide)) (fun _ => ?_)
                        refine lv_iload_n hx hb d_DiscMakerModel_descriptor_230 rfl (lv_at hl 5 rfl) ?_
                        refine lv_if_ge (tgt := 237) hx hb d_DiscMakerModel_descriptor_231 (by decide) (fun h_9 => ?_) (fun h_9 => ?_)
                        · skip
                          have g231_225 : 0 ≤ wa.toInt := (i_le (by decide) rfl).mp h_9
                          obtain ⟨v87, e_v87⟩ : ∃ z : Int32, z = sx + 1 := ⟨_, rfl⟩
                          refine lv_iinc (v := v87) hx hb d_DiscMakerModel_descriptor_237 hl (k := 6) rfl e_v87.symm (by decide +kernel) rfl (fun ls hl => ?_)
                          have t_v87 : v87.toInt = sx.toInt + 1 := by rw [e_v87]; exact i_add rfl (by decide) (by omega) (by omega)
                          have hl : lv_has ls 7 [(3, .int v87), (6, .int 1), (5, .int 1), (4, .int v1), (0, .ref h0), (1, .int x), (2, .int wa)] := hl
                          refine lv_goto (tgt := 5) hx hb d_DiscMakerModel_descriptor_240 (by decide) ?_
                          have hP := hP.sub (ws' := [(h0, .inr (11, MO ma sv_thrown sv_length sv_nodes sv_many sv_directories sv_runsFrom sv_runs sv_read sv_wrong sv_isNamed sv_goes sv_goesSize sv_goesAt sv_targetParts sv_isRoot)), ((ma 16), .inl (cJ, 46080, .inr (.inl F)))]) [0, 1] rfl
                          have hD := hD.sub (ws' := [(h0, .inr (11, MO ma sv_thrown sv_length sv_nodes sv_many sv_directories sv_runsFrom sv_runs sv_read sv_wrong sv_isNamed sv_goes sv_goesSize sv_goesAt sv_targetParts sv_isRoot)), ((ma 16), .inl (cJ, 46080, .inr (.inl F)))]) [0, 1] (by decide +kernel) rfl
                          have hl := lv_sub hl [4, 5, 6, 0] rfl
                          exact ih5 _ (by first | omega | (dsimp only; omega)) wa v87 _ _ _ rfl ((by (try dsimp only); first | assumption | omega | trivial)) ((by (try dsimp only); first | assumption | omega | trivial)) ((by (try dsimp only); first | assumption | omega | trivial)) hP hD hS hl
                        · skip
                          have g231_225 : ¬ 0 ≤ wa.toInt := fun h8 => h_9 ((i_le (by decide) rfl).mpr h8)
                          refine lv_iload hx hb d_DiscMakerModel_descriptor_234 (lv_at hl 2 rfl) ?_
                          refine lv_istore_n hx hb d_DiscMakerModel_descriptor_236 rfl hl (by decide) rfl (fun ls hl => ?_)
                          have hl : lv_has ls 7 [(2, .int v1), (6, .int 1), (5, .int 1), (4, .int v1), (0, .ref h0), (1, .int x), (3, .int sx)] := hl
                          obtain ⟨v88, e_v88⟩ : ∃ z : Int32, z = sx + 1 := ⟨_, rfl⟩
                          refine lv_iinc (v := v88) hx hb d_DiscMakerModel_descriptor_237 hl (k := 6) rfl e_v88.symm (by decide +kernel) rfl (fun ls hl => ?_)
                          have t_v88 : v88.toInt = sx.toInt + 1 := by rw [e_v88]; exact i_add rfl (by decide) (by omega) (by omega)
                          have hl : lv_has ls 7 [(3, .int v88), (2, .int v1), (6, .int 1), (5, .int 1), (4, .int v1), (0, .ref h0), (1, .int x)] := hl
                          refine lv_goto (tgt := 5) hx hb d_DiscMakerModel_descriptor_240 (by decide) ?_
                          have hP := hP.sub (ws' := [(h0, .inr (11, MO ma sv_thrown sv_length sv_nodes sv_many sv_directories sv_runsFrom sv_runs sv_read sv_wrong sv_isNamed sv_goes sv_goesSize sv_goesAt sv_targetParts sv_isRoot)), ((ma 16), .inl (cJ, 46080, .inr (.inl F)))]) [0, 1] rfl
                          have hD := hD.sub (ws' := [(h0, .inr (11, MO ma sv_thrown sv_length sv_nodes sv_many sv_directories sv_runsFrom sv_runs sv_read sv_wrong sv_isNamed sv_goes sv_goesSize sv_goesAt sv_targetParts sv_isRoot)), ((ma 16), .inl (cJ, 46080, .inr (.inl F)))]) [0, 1] (by decide +kernel) rfl
                          have hl := lv_sub hl [5, 6, 1, 0] rfl
                          exact ih5 _ (by first | omega | (dsimp only; omega)) v1 v88 _ _ _ rfl ((by (try dsimp only); first | assumption | omega | trivial)) ((by (try dsimp only); first | assumption | omega | trivial)) ((by (try dsimp only); first | assumption | omega | trivial)) hP hD hS hl
                  · skip
                    have g128_134 : r53.toInt = 255 := (i_eq rfl (by decide)).mp h_9
                    refine lv_iload_n hx hb d_DiscMakerModel_descriptor_131 rfl (lv_at hl 4 rfl) ?_
                    refine lv_if_ge (tgt := 142) hx hb d_DiscMakerModel_descriptor_132 (by decide) (fun h_9 => ?_) (fun h_9 => ?_)
                    · skip
                      have g132_235 : 0 ≤ wa.toInt := (i_le (by decide) rfl).mp h_9
                      refine lv_iload_n hx hb d_DiscMakerModel_descriptor_142 rfl (lv_at hl 4 rfl) ?_
                      have hP9 := hP.sub (ws' := [(h0, .inr (11, MO ma sv_thrown sv_length sv_nodes sv_many sv_directories sv_runsFrom sv_runs sv_read sv_wrong sv_isNamed sv_goes sv_goesSize sv_goesAt sv_targetParts sv_isRoot)), ((ma 16), .inl (cJ, 46080, .inr (.inl F)))]) [0, 1] rfl
                      have hD9 := hD.sub (ws' := [(h0, .inr (11, MO ma sv_thrown sv_length sv_nodes sv_many sv_directories sv_runsFrom sv_runs sv_read sv_wrong sv_isNamed sv_goes sv_goesSize sv_goesAt sv_targetParts sv_isRoot)), ((ma 16), .inl (cJ, 46080, .inr (.inl F)))]) [0, 1] (by decide +kernel) rfl
                      exact W.iret (v := wa) hx hb hr (fun t ht hW => ⟨⟨wa, sv_wrong, rfl, (by (try dsimp only); first | assumption | omega | trivial), by rw [ht]; exact hP9, hD9⟩, hS.F ht⟩) hS.2.2 d_DiscMakerModel_descriptor_143
                    · skip
                      have g132_235 : ¬ 0 ≤ wa.toInt := fun h8 => h_9 ((i_le (by decide) rfl).mpr h8)
                      refine lv_aload_n hx hb d_DiscMakerModel_descriptor_135 rfl (lv_at hl 2 rfl) ?_
                      refine lv_iload hx hb d_DiscMakerModel_descriptor_136 (lv_at hl 1 rfl) ?_
                      have hPc := hP.sub (ws' := [(h0, .inr (11, MO ma sv_thrown sv_length sv_nodes sv_many sv_directories sv_runsFrom sv_runs sv_read sv_wrong sv_isNamed sv_goes sv_goesSize sv_goesAt sv_targetParts sv_isRoot))]) [0] rfl
                      have hDc := hD.sub (ws' := [(h0, .inr (11, MO ma sv_thrown sv_length sv_nodes sv_many sv_directories sv_runsFrom sv_runs sv_read sv_wrong sv_isNamed sv_goes sv_goesSize sv_goesAt sv_targetParts sv_isRoot))]) [0] (by decide +kernel) rfl
                      have hFc := va_free (wc := [(h0, .inr (11, MO ma sv_thrown sv_length sv_nodes sv_many sv_directories sv_runsFrom sv_runs sv_read sv_wrong sv_isNamed sv_goes sv_goesSize sv_goesAt sv_targetParts sv_isRoot))]) hD hS hA [0] rfl
                      have hkc : 0 ≤ 0 := by decide
                      have hks : 0 ≤ 0 := by decide
                      refine va_calli (va_runV (C := "DiscMakerModel") (As := [.int v1]) (rest := []) ⟨hx, hb, hml, hown, hts⟩ (m_isWrong l D cB cI cJ cZ cN cF H.size h0 ma sv_thrown sv_length sv_nodes sv_many sv_directories sv_runsFrom sv_runs sv_read sv_wrong sv_isNamed sv_goes sv_goesSize sv_goesAt sv_targetParts sv_isRoot v1) (cwV 1 hts (lg_goodV k1833 k1835 k98 k125 kc_DiscMakerModel_isWrong) rfl rfl rfl (by decide +kernel) ⟨Nat.le_of_ble_eq_true rfl, Nat.le_of_ble_eq_true rfl⟩) ⟨fun a U g mk q => by obtain ⟨q0, q1, qP, qK, qN, qD⟩ := q; exact ⟨q0, q1, qP, va_K.moved (u := U) (U := U.calling g mk a) (Vm.Alike.refl U.vm) qK, qN.calling, qD⟩, va_recv hK hP (ci := 11) (q0 := 0) rfl rfl, fun U hU hW => ⟨rfl, by rw [hU], by rw [hU]; exact hPc, va_K.moved hW.alike hK, NN.warm hW hN, hDc.weaken (fun _ _ _ _ => trivial)⟩⟩ rfl rfl hl.1 rfl (lv_room (Nat.le_of_ble_eq_true rfl)) d_DiscMakerModel_descriptor_138 ⟨hkc, hks⟩) hS (fun q _ h => hFc q h) hFc (fun r89 u t H1 locs ht hvm hp_r89 hB hz1 hk1 hS => ?_)
                      obtain ⟨wr_90, rfl⟩ : ∃ z, z = u := ⟨_, rfl⟩
                      obtain ⟨hP1, hD1⟩ := hB
                      rw [ht] at hP1
                      obtain ⟨hP, hD⟩ := va_join (wr := [((ma 16), .inl (cJ, 46080, .inr (.inl F)))]) (w1 := [(h0, .inr (11, MO ma sv_thrown sv_length sv_nodes sv_many sv_directories sv_runsFrom sv_runs sv_read wr_90 sv_isNamed sv_goes sv_goesSize sv_goesAt sv_targetParts sv_isRoot))]) hP hD [0] [1] rfl rfl (by decide +kernel) (by decide +kernel) hk1 hFc hP1 hD1
                      clear hPc hDc hFc hP1 hD1 hk1 hz1 hkc hks
                      generalize H1 = H at hP hS ⊢
                      have hP : va_P D CL [((ma 16), .inl (cJ, 46080, .inr (.inl F))), (h0, .inr (11, MO ma sv_thrown sv_length sv_nodes sv_many sv_directories sv_runsFrom sv_runs sv_read wr_90 sv_isNamed sv_goes sv_goesSize sv_goesAt sv_targetParts sv_isRoot))] H := hP
                      have hD : va_D A [((ma 16), .inl (cJ, 46080, .inr (.inl F))), (h0, .inr (11, MO ma sv_thrown sv_length sv_nodes sv_many sv_directories sv_runsFrom sv_runs sv_read wr_90 sv_isNamed sv_goes sv_goesSize sv_goesAt sv_targetParts sv_isRoot))] := hD
                      try dsimp only at hp_r89
                      have hr_91 := hp_r89
                      refine lv_pop hx hb d_DiscMakerModel_descriptor_141 rfl ?_
                      refine lv_iload_n hx hb d_DiscMakerModel_descriptor_142 rfl (lv_at hl 4 rfl) ?_
                      have hP9 := hP.sub (ws' := [(h0, .inr (11, MO ma sv_thrown sv_length sv_nodes sv_many sv_directories sv_runsFrom sv_runs sv_read wr_90 sv_isNamed sv_goes sv_goesSize sv_goesAt sv_targetParts sv_isRoot)), ((ma 16), .inl (cJ, 46080, .inr (.inl F)))]) [1, 0] rfl
                      have hD9 := hD.sub (ws' := [(h0, .inr (11, MO ma sv_thrown sv_length sv_nodes sv_many sv_directories sv_runsFrom sv_runs sv_read wr_90 sv_isNamed sv_goes sv_goesSize sv_goesAt sv_targetParts sv_isRoot)), ((ma 16), .inl (cJ, 46080, .inr (.inl F)))]) [1, 0] (by decide +kernel) rfl
                      exact W.iret (v := wa) hx hb hr (fun t ht hW => ⟨⟨wa, wr_90, rfl, (by (try dsimp only); first | assumption | omega | trivial), by rw [ht]; exact hP9, hD9⟩, hS.F ht⟩) hS.2.2 d_DiscMakerModel_descriptor_143
  · skip
    intro kk5
    have hP := hP.sub (ws' := [(h0, .inr (11, MO ma sv_thrown sv_length sv_nodes sv_many sv_directories sv_runsFrom sv_runs sv_read sv_wrong sv_isNamed sv_goes sv_goesSize sv_goesAt sv_targetParts sv_isRoot)), ((ma 16), .inl (cJ, 46080, .inr (.inl F)))]) [0, 1] rfl
    have hD := hD.sub (ws' := [(h0, .inr (11, MO ma sv_thrown sv_length sv_nodes sv_many sv_directories sv_runsFrom sv_runs sv_read sv_wrong sv_isNamed sv_goes sv_goesSize sv_goesAt sv_targetParts sv_isRoot)), ((ma 16), .inl (cJ, 46080, .inr (.inl F)))]) [0, 1] (by decide +kernel) rfl
    have hl := lv_sub hl [2, 3, 1, 0] rfl
    exact kk5 _ (-1) 16 _ _ _ rfl ((by (try dsimp only); first | assumption | omega | trivial)) ((by (try dsimp only); first | assumption | omega | trivial)) ((by (try dsimp only); first | assumption | omega | trivial)) hP hD hS hl
