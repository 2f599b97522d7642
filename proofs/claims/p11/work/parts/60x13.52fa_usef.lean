set_option maxHeartbeats 4000000 in
set_option maxRecDepth 100000 in
theorem c3_use_openF (l : Launch) (D : va_G) (cB cI cJ cZ cN cF : ClassId) (sz : Nat) (u0 : Nat) (pb : Nat) (pq : Nat) (en : Nat) (uc : Int32) (uk : Int32) (pL : Int32) (pf : Nat → Int32) (la9 : Int) (lb9 : Int) (x : Int32) (y : Int32) (hPL : 0 ≤ pL.toInt ∧ pL.toInt + y.toInt ≤ 400) (hy : 5 ≤ y.toInt) (hab : x.toInt = la9 * 256 + lb9 ∧ 0 ≤ la9 ∧ la9 < 256 ∧ 0 ≤ lb9 ∧ lb9 < 256) : Met l y_SystemUse_open w_SystemUse_open ({ frames := 1, cells := 0, slots := 0, locals := 29 }) (va_Pc [.ref u0, .int x, .int y] (fun U => U.heap.size = sz ∧ va_P D CL [(u0, .inr (8, [.ref pb, .ref en, .int uc, .int uk])), (pb, .inr (1, [.ref pq, .int pL])), (pq, .inl (cB, 400, .inl pf))] U.heap ∧ va_K D CL (TY cB cI cJ cZ cN cF) U ∧ NN U ∧ va_D (fun _ => True) [(u0, .inr (8, [.ref pb, .ref en, .int uc, .int uk])), (pb, .inr (1, [.ref pq, .int pL])), (pq, .inl (cB, 400, .inl pf))])) (va_Qi (fun (r : Int32) (u : Int32 × (Nat → Int32)) => match u with | (L2, g) => (r.toInt = pL.toInt) ∧ (L2.toInt = pL.toInt + y.toInt) ∧ (BL (imC pf) (imC g) pL.toInt (opL la9 lb9 y.toInt.toNat))) (fun (u : Int32 × (Nat → Int32)) (t : State) => match u with | (L2, g) => va_P D CL [(u0, .inr (8, [.ref pb, .ref en, .int uc, .int uk])), (pb, .inr (1, [.ref pq, .int L2])), (pq, .inl (cB, 400, .inl g))] t.heap ∧ va_D (va_A [(u0, .inr (8, [.ref pb, .ref en, .int uc, .int uk])), (pb, .inr (1, [.ref pq, .int pL])), (pq, .inl (cB, 400, .inl pf))] sz) [(u0, .inr (8, [.ref pb, .ref en, .int uc, .int uk])), (pb, .inr (1, [.ref pq, .int L2])), (pq, .inl (cB, 400, .inl g))]) (va_A [(u0, .inr (8, [.ref pb, .ref en, .int uc, .int uk])), (pb, .inr (1, [.ref pq, .int pL])), (pq, .inl (cB, 400, .inl pf))] sz)) 0 0 (va_A [(u0, .inr (8, [.ref pb, .ref en, .int uc, .int uk])), (pb, .inr (1, [.ref pq, .int pL])), (pq, .inl (cB, 400, .inl pf))] sz) := by
  refine Met.ofW (cc := b_SystemUse_open) (maxL := 4) (ret := some .int) (by decide +kernel) rfl ?_
  intro p e s m args below meth c s₁ B hml hv
  obtain ⟨rfl, hsz, hP, hK, hN, hD0⟩ := hv
  have hx := B.exec
  have hb := B.bytes
  have hr := B.returns
  have hts := atoms_spec (ws := w_SystemUse_open) B.pre
  have ht9 := fun (w : Cond) (h : w ∈ lw_g) => hts w (List.mem_cons_of_mem _ h)
  have hown : s.vm.findClass "DiscMaker$SystemUse" = some m.cls := findClass_of_methodNamed B.named
  have hlocks := B.notSynchronized
  subst hsz
  have hD := hD0.self (sz := s.heap.size)
  generalize hAe : va_A [(u0, .inr (8, [.ref pb, .ref en, .int uc, .int uk])), (pb, .inr (1, [.ref pq, .int pL])), (pq, .inl (cB, 400, .inl pf))] s.heap.size = A at hD ⊢
  have hA : ∀ q : Nat, s.heap.size ≤ q → A q := fun q h => by rw [← hAe]; exact Or.inr h
  have hS : va_S A s.heap s.heap [] := va_S.rf
  have hP : va_P D CL [(u0, .inr (8, [.ref pb, .ref en, .int uc, .int uk])), (pb, .inr (1, [.ref pq, .int pL])), (pq, .inl (cB, 400, .inl pf))] s.heap := hP
  have hl := lv_entry [.ref u0, .int x, .int y] (n := 4) (Nat.le_of_ble_eq_true rfl)
  rw [lg_entry_eq]
  generalize (lg_sl [.ref u0, .int x, .int y] ++ List.replicate (4 - (lg_sl [.ref u0, .int x, .int y]).length) Slot.unset).toArray = ls at hl ⊢
  have hl : lv_has ls 4 [(0, .ref u0), (1, .int x), (2, .int y)] := hl
  have L_m1 : ((-1) : Int32).toInt = (-1) := by decide
  have L_0 : (0 : Int32).toInt = 0 := by decide
  have L_1 : (1 : Int32).toInt = 1 := by decide
  have L_3 : (3 : Int32).toInt = 3 := by decide
  have L_8 : (8 : Int32).toInt = 8 := by decide
  have L_400 : (400 : Int32).toInt = 400 := by decide
  refine lv_aload_n hx hb d_SystemUse_open_0 rfl (lv_at hl 0 rfl) ?_
  refine va_get (D := D) (ci := 8) (v := .ref pb) (C := "DiscMaker$SystemUse") (T := F_SystemUse) (N := 4) hx hb ht9 in_SystemUse hown hK hP 0 rfl rfl 0 (by decide) (ht9 _ k330) (fun _ h9 => h9) rfl d_SystemUse_open_1 ?_
  refine lv_iload_n hx hb d_SystemUse_open_4 rfl (lv_at hl 2 rfl) ?_
  have hPc := hP.sub (ws' := [(pb, .inr (1, [.ref pq, .int pL])), (pq, .inl (cB, 400, .inl pf))]) [1, 2] rfl
  have hDc := hD.sub (ws' := [(pb, .inr (1, [.ref pq, .int pL])), (pq, .inl (cB, 400, .inl pf))]) [1, 2] (by decide +kernel) rfl
  have hFc := va_free (wc := [(pb, .inr (1, [.ref pq, .int pL])), (pq, .inl (cB, 400, .inl pf))]) hD hS hA [1, 2] rfl
  have hkc : 0 ≤ 0 := by decide
  have hks : 0 ≤ 0 := by decide
  refine va_calli (va_runV (C := "DiscMaker$Bytes") (As := [.int y]) (rest := []) ⟨hx, hb, hml, hown, hts⟩ (c3_extendF l D cB cI cJ cZ cN cF s.heap.size pb pq 400 pL pf y (by (try dsimp only); first | assumption | omega | trivial) (by (try dsimp only); first | assumption | omega | trivial) (by (try dsimp only); first | assumption | omega | trivial)) (cwV 1 hts (lg_goodV k907 k908 k909 k119 kc_Bytes_extend) rfl rfl rfl (by decide +kernel) ⟨Nat.le_of_ble_eq_true rfl, Nat.le_of_ble_eq_true rfl⟩) ⟨fun a U g mk q => by obtain ⟨q0, q1, qP, qK, qN, qD⟩ := q; exact ⟨q0, q1, qP, va_K.moved (u := U) (U := U.calling g mk a) (Vm.Alike.refl U.vm) qK, qN.calling, qD⟩, va_recv hK hP (ci := 1) (q0 := 1) rfl rfl, fun U hU hW => ⟨rfl, by rw [hU], by rw [hU]; exact hPc, va_K.moved hW.alike hK, NN.warm hW hN, hDc.weaken (fun _ _ _ _ => trivial)⟩⟩ rfl rfl hl.1 rfl (lv_room (Nat.le_of_ble_eq_true rfl)) d_SystemUse_open_5 ⟨hkc, hks⟩) hS (fun q _ h => hFc q h) hFc (fun r1 u t H1 locs ht hvm hp_r1 hB hz1 hk1 hS => ?_)
  obtain ⟨L2_2, g_3⟩ := u
  obtain ⟨hP1, hD1⟩ := hB
  rw [ht] at hP1
  obtain ⟨hP, hD⟩ := va_join (wr := [(u0, .inr (8, [.ref pb, .ref en, .int uc, .int uk]))]) (w1 := [(pb, .inr (1, [.ref pq, .int L2_2])), (pq, .inl (cB, 400, .inl g_3))]) hP hD [1, 2] [0] rfl rfl (by decide +kernel) (by decide +kernel) hk1 hFc hP1 hD1
  clear hPc hDc hFc hP1 hD1 hk1 hz1 hkc hks
  generalize H1 = H at hP hS ⊢
  have hP : va_P D CL [(u0, .inr (8, [.ref pb, .ref en, .int uc, .int uk])), (pb, .inr (1, [.ref pq, .int L2_2])), (pq, .inl (cB, 400, .inl g_3))] H := hP
  have hD : va_D A [(u0, .inr (8, [.ref pb, .ref en, .int uc, .int uk])), (pb, .inr (1, [.ref pq, .int L2_2])), (pq, .inl (cB, 400, .inl g_3))] := hD
  try dsimp only at hp_r1
  obtain ⟨hv_4, hE_5, hw_6⟩ := hp_r1
  refine lv_istore_n hx hb d_SystemUse_open_8 rfl hl (by decide) rfl (fun ls hl => ?_)
  have hl : lv_has ls 4 [(3, .int r1), (0, .ref u0), (1, .int x), (2, .int y)] := hl
  refine lv_aload_n hx hb d_SystemUse_open_9 rfl (lv_at hl 1 rfl) ?_
  refine va_get (D := D) (ci := 8) (v := .ref pb) (C := "DiscMaker$SystemUse") (T := F_SystemUse) (N := 4) hx hb ht9 in_SystemUse hown hK hP 0 rfl rfl 0 (by decide) (ht9 _ k330) (fun _ h9 => h9) rfl d_SystemUse_open_10 ?_
  refine lv_iload_n hx hb d_SystemUse_open_13 rfl (lv_at hl 0 rfl) ?_
  refine lv_iload_n hx hb d_SystemUse_open_14 rfl (lv_at hl 2 rfl) ?_
  refine lv_bipush (v := 8) hx hb d_SystemUse_open_15 (by decide) ?_
  refine lv_ishr hx hb d_SystemUse_open_17 ?_
  refine lv_topi (fun v7 e_v7 => ?_)
  have t_v7 : v7.toInt = x.toInt / 256 := by rw [e_v7]; exact i_shr (k := 8) rfl (by decide) (by decide)
  have hPc := hP.sub (ws' := [(pb, .inr (1, [.ref pq, .int L2_2])), (pq, .inl (cB, 400, .inl g_3))]) [1, 2] rfl
  have hDc := hD.sub (ws' := [(pb, .inr (1, [.ref pq, .int L2_2])), (pq, .inl (cB, 400, .inl g_3))]) [1, 2] (by decide +kernel) rfl
  have hFc := va_free (wc := [(pb, .inr (1, [.ref pq, .int L2_2])), (pq, .inl (cB, 400, .inl g_3))]) hD hS hA [1, 2] rfl
  have hkc : 0 ≤ 0 := by decide
  have hks : 0 ≤ 0 := by decide
  refine va_callv (va_runV (C := "DiscMaker$Bytes") (As := [.int r1, .int v7]) (rest := []) ⟨hx, hb, hml, hown, hts⟩ (c3_putF l D cB cI cJ cZ cN cF H.size pb pq 400 L2_2 g_3 r1 v7 (by (try dsimp only); first | assumption | omega | trivial) (by (try dsimp only); first | assumption | omega | trivial) (by (try dsimp only); first | assumption | omega | trivial)) (cwV 2 hts (lg_goodV k911 k912 k913 k119 kc_Bytes_put) rfl rfl rfl (by decide +kernel) ⟨Nat.le_of_ble_eq_true rfl, Nat.le_of_ble_eq_true rfl⟩) ⟨fun a U g mk q => by obtain ⟨q0, q1, qP, qK, qN, qD⟩ := q; exact ⟨q0, q1, qP, va_K.moved (u := U) (U := U.calling g mk a) (Vm.Alike.refl U.vm) qK, qN.calling, qD⟩, va_recv hK hP (ci := 1) (q0 := 1) rfl rfl, fun U hU hW => ⟨rfl, by rw [hU], by rw [hU]; exact hPc, va_K.moved hW.alike hK, NN.warm hW hN, hDc.weaken (fun _ _ _ _ => trivial)⟩⟩ rfl rfl hl.1 rfl (lv_room (Nat.le_of_ble_eq_true rfl)) d_SystemUse_open_18 ⟨hkc, hks⟩) hS (fun q _ h => hFc q h) hFc (fun u t H1 locs ht hvm hp_r8 hB hz1 hk1 hS => ?_)
  obtain ⟨g_9, rfl⟩ : ∃ z, z = u := ⟨_, rfl⟩
  obtain ⟨hP1, hD1⟩ := hB
  rw [ht] at hP1
  obtain ⟨hP, hD⟩ := va_join (wr := [(u0, .inr (8, [.ref pb, .ref en, .int uc, .int uk]))]) (w1 := [(pb, .inr (1, [.ref pq, .int L2_2])), (pq, .inl (cB, 400, .inl g_9))]) hP hD [1, 2] [0] rfl rfl (by decide +kernel) (by decide +kernel) hk1 hFc hP1 hD1
  clear hPc hDc hFc hP1 hD1 hk1 hz1 hkc hks
  generalize H1 = H at hP hS ⊢
  have hP : va_P D CL [(u0, .inr (8, [.ref pb, .ref en, .int uc, .int uk])), (pb, .inr (1, [.ref pq, .int L2_2])), (pq, .inl (cB, 400, .inl g_9))] H := hP
  have hD : va_D A [(u0, .inr (8, [.ref pb, .ref en, .int uc, .int uk])), (pb, .inr (1, [.ref pq, .int L2_2])), (pq, .inl (cB, 400, .inl g_9))] := hD
  try dsimp only at hp_r8
  have hw_10 := hp_r8
  refine lv_aload_n hx hb d_SystemUse_open_21 rfl (lv_at hl 1 rfl) ?_
  refine va_get (D := D) (ci := 8) (v := .ref pb) (C := "DiscMaker$SystemUse") (T := F_SystemUse) (N := 4) hx hb ht9 in_SystemUse hown hK hP 0 rfl rfl 0 (by decide) (ht9 _ k330) (fun _ h9 => h9) rfl d_SystemUse_open_22 ?_
  refine lv_iload_n hx hb d_SystemUse_open_25 rfl (lv_at hl 0 rfl) ?_
  refine lv_iconst (v := 1) hx hb d_SystemUse_open_26 (by decide) ?_
  refine lv_iadd hx hb d_SystemUse_open_27 ?_
  refine lv_topi (fun v11 e_v11 => ?_)
  have t_v11 : v11.toInt = r1.toInt + 1 := by rw [e_v11]; exact i_add rfl (by decide) (by omega) (by omega)
  refine lv_iload_n hx hb d_SystemUse_open_28 rfl (lv_at hl 2 rfl) ?_
  have hPc := hP.sub (ws' := [(pb, .inr (1, [.ref pq, .int L2_2])), (pq, .inl (cB, 400, .inl g_9))]) [1, 2] rfl
  have hDc := hD.sub (ws' := [(pb, .inr (1, [.ref pq, .int L2_2])), (pq, .inl (cB, 400, .inl g_9))]) [1, 2] (by decide +kernel) rfl
  have hFc := va_free (wc := [(pb, .inr (1, [.ref pq, .int L2_2])), (pq, .inl (cB, 400, .inl g_9))]) hD hS hA [1, 2] rfl
  have hkc : 0 ≤ 0 := by decide
  have hks : 0 ≤ 0 := by decide
  refine va_callv (va_runV (C := "DiscMaker$Bytes") (As := [.int v11, .int x]) (rest := []) ⟨hx, hb, hml, hown, hts⟩ (c3_putF l D cB cI cJ cZ cN cF H.size pb pq 400 L2_2 g_9 v11 x (by (try dsimp only); first | assumption | omega | trivial) (by (try dsimp only); first | assumption | omega | trivial) (by (try dsimp only); first | assumption | omega | trivial)) (cwV 2 hts (lg_goodV k911 k912 k913 k119 kc_Bytes_put) rfl rfl rfl (by decide +kernel) ⟨Nat.le_of_ble_eq_true rfl, Nat.le_of_ble_eq_true rfl⟩) ⟨fun a U g mk q => by obtain ⟨q0, q1, qP, qK, qN, qD⟩ := q; exact ⟨q0, q1, qP, va_K.moved (u := U) (U := U.calling g mk a) (Vm.Alike.refl U.vm) qK, qN.calling, qD⟩, va_recv hK hP (ci := 1) (q0 := 1) rfl rfl, fun U hU hW => ⟨rfl, by rw [hU], by rw [hU]; exact hPc, va_K.moved hW.alike hK, NN.warm hW hN, hDc.weaken (fun _ _ _ _ => trivial)⟩⟩ rfl rfl hl.1 rfl (lv_room (Nat.le_of_ble_eq_true rfl)) d_SystemUse_open_29 ⟨hkc, hks⟩) hS (fun q _ h => hFc q h) hFc (fun u t H1 locs ht hvm hp_r12 hB hz1 hk1 hS => ?_)
  obtain ⟨g_13, rfl⟩ : ∃ z, z = u := ⟨_, rfl⟩
  obtain ⟨hP1, hD1⟩ := hB
  rw [ht] at hP1
  obtain ⟨hP, hD⟩ := va_join (wr := [(u0, .inr (8, [.ref pb, .ref en, .int uc, .int uk]))]) (w1 := [(pb, .inr (1, [.ref pq, .int L2_2])), (pq, .inl (cB, 400, .inl g_13))]) hP hD [1, 2] [0] rfl rfl (by decide +kernel) (by decide +kernel) hk1 hFc hP1 hD1
  clear hPc hDc hFc hP1 hD1 hk1 hz1 hkc hks
  generalize H1 = H at hP hS ⊢
  have hP : va_P D CL [(u0, .inr (8, [.ref pb, .ref en, .int uc, .int uk])), (pb, .inr (1, [.ref pq, .int L2_2])), (pq, .inl (cB, 400, .inl g_13))] H := hP
  have hD : va_D A [(u0, .inr (8, [.ref pb, .ref en, .int uc, .int uk])), (pb, .inr (1, [.ref pq, .int L2_2])), (pq, .inl (cB, 400, .inl g_13))] := hD
  try dsimp only at hp_r12
  have hw_14 := hp_r12
  refine lv_aload_n hx hb d_SystemUse_open_32 rfl (lv_at hl 1 rfl) ?_
  refine va_get (D := D) (ci := 8) (v := .ref pb) (C := "DiscMaker$SystemUse") (T := F_SystemUse) (N := 4) hx hb ht9 in_SystemUse hown hK hP 0 rfl rfl 0 (by decide) (ht9 _ k330) (fun _ h9 => h9) rfl d_SystemUse_open_33 ?_
  refine lv_iload_n hx hb d_SystemUse_open_36 rfl (lv_at hl 0 rfl) ?_
  refine lv_iconst (v := 3) hx hb d_SystemUse_open_37 (by decide) ?_
  refine lv_iadd hx hb d_SystemUse_open_38 ?_
  refine lv_topi (fun v15 e_v15 => ?_)
  have t_v15 : v15.toInt = r1.toInt + 3 := by rw [e_v15]; exact i_add rfl (by decide) (by omega) (by omega)
  refine lv_iconst (v := 1) hx hb d_SystemUse_open_39 (by decide) ?_
  have hPc := hP.sub (ws' := [(pb, .inr (1, [.ref pq, .int L2_2])), (pq, .inl (cB, 400, .inl g_13))]) [1, 2] rfl
  have hDc := hD.sub (ws' := [(pb, .inr (1, [.ref pq, .int L2_2])), (pq, .inl (cB, 400, .inl g_13))]) [1, 2] (by decide +kernel) rfl
  have hFc := va_free (wc := [(pb, .inr (1, [.ref pq, .int L2_2])), (pq, .inl (cB, 400, .inl g_13))]) hD hS hA [1, 2] rfl
  have hkc : 0 ≤ 0 := by decide
  have hks : 0 ≤ 0 := by decide
  refine va_callv (va_runV (C := "DiscMaker$Bytes") (As := [.int v15, .int 1]) (rest := []) ⟨hx, hb, hml, hown, hts⟩ (c3_putF l D cB cI cJ cZ cN cF H.size pb pq 400 L2_2 g_13 v15 1 (by (try dsimp only); first | assumption | omega | trivial) (by (try dsimp only); first | assumption | omega | trivial) (by (try dsimp only); first | assumption | omega | trivial)) (cwV 2 hts (lg_goodV k911 k912 k913 k119 kc_Bytes_put) rfl rfl rfl (by decide +kernel) ⟨Nat.le_of_ble_eq_true rfl, Nat.le_of_ble_eq_true rfl⟩) ⟨fun a U g mk q => by obtain ⟨q0, q1, qP, qK, qN, qD⟩ := q; exact ⟨q0, q1, qP, va_K.moved (u := U) (U := U.calling g mk a) (Vm.Alike.refl U.vm) qK, qN.calling, qD⟩, va_recv hK hP (ci := 1) (q0 := 1) rfl rfl, fun U hU hW => ⟨rfl, by rw [hU], by rw [hU]; exact hPc, va_K.moved hW.alike hK, NN.warm hW hN, hDc.weaken (fun _ _ _ _ => trivial)⟩⟩ rfl rfl hl.1 rfl (lv_room (Nat.le_of_ble_eq_true rfl)) d_SystemUse_open_40 ⟨hkc, hks⟩) hS (fun q _ h => hFc q h) hFc (fun u t H1 locs ht hvm hp_r16 hB hz1 hk1 hS => ?_)
  obtain ⟨g_17, rfl⟩ : ∃ z, z = u := ⟨_, rfl⟩
  obtain ⟨hP1, hD1⟩ := hB
  rw [ht] at hP1
  obtain ⟨hP, hD⟩ := va_join (wr := [(u0, .inr (8, [.ref pb, .ref en, .int uc, .int uk]))]) (w1 := [(pb, .inr (1, [.ref pq, .int L2_2])), (pq, .inl (cB, 400, .inl g_17))]) hP hD [1, 2] [0] rfl rfl (by decide +kernel) (by decide +kernel) hk1 hFc hP1 hD1
  clear hPc hDc hFc hP1 hD1 hk1 hz1 hkc hks
  generalize H1 = H at hP hS ⊢
  have hP : va_P D CL [(u0, .inr (8, [.ref pb, .ref en, .int uc, .int uk])), (pb, .inr (1, [.ref pq, .int L2_2])), (pq, .inl (cB, 400, .inl g_17))] H := hP
  have hD : va_D A [(u0, .inr (8, [.ref pb, .ref en, .int uc, .int uk])), (pb, .inr (1, [.ref pq, .int L2_2])), (pq, .inl (cB, 400, .inl g_17))] := hD
  try dsimp only at hp_r16
  have hw_18 := hp_r16
  try rw [L_1] at hw_18
  refine lv_iload_n hx hb d_SystemUse_open_43 rfl (lv_at hl 0 rfl) ?_
  have hP9 := hP.sub (ws' := [(u0, .inr (8, [.ref pb, .ref en, .int uc, .int uk])), (pb, .inr (1, [.ref pq, .int L2_2])), (pq, .inl (cB, 400, .inl g_17))]) [0, 1, 2] rfl
  have hD9 := hD.sub (ws' := [(u0, .inr (8, [.ref pb, .ref en, .int uc, .int uk])), (pb, .inr (1, [.ref pq, .int L2_2])), (pq, .inl (cB, 400, .inl g_17))]) [0, 1, 2] (by decide +kernel) rfl
  exact W.iret (v := r1) hx hb hr (fun t ht hW => ⟨⟨r1, (L2_2, g_17), rfl, ⟨(by (try dsimp only); first | assumption | omega | trivial), (by (try dsimp only); first | assumption | omega | trivial), (op_of hw_6 hw_10 hw_14 hw_18 (by omega) (by omega) (by omega) (by omega) (by omega) (by omega) (by omega))⟩, by rw [ht]; exact hP9, hD9⟩, hS.F ht⟩) hS.2.2 d_SystemUse_open_44

set_option maxHeartbeats 4000000 in
set_option maxRecDepth 100000 in
theorem c3_closeF (l : Launch) (D : va_G) (cB cI cJ cZ cN cF : ClassId) (sz : Nat) (u0 : Nat) (pb : Nat) (pq : Nat) (en : Nat) (uc : Int32) (uk : Int32) (pL : Int32) (pf : Nat → Int32) (ef : Nat → Int32) (cs9 : List Int) (x : Int32) (hPL : 0 ≤ pL.toInt ∧ pL.toInt ≤ 400) (huc : 0 ≤ uc.toInt ∧ uc.toInt ≤ 4) (hen : EnOK uc.toInt pL.toInt ef) (hcs : EnL uc.toInt ef cs9) (hx : 0 ≤ x.toInt ∧ x.toInt + 4 ≤ pL.toInt) : Met l y_SystemUse_close w_SystemUse_close ({ frames := 1, cells := 0, slots := 0, locals := 28 }) (va_Pc [.ref u0, .int x] (fun U => U.heap.size = sz ∧ va_P D CL [(u0, .inr (8, [.ref pb, .ref en, .int uc, .int uk])), (pb, .inr (1, [.ref pq, .int pL])), (pq, .inl (cB, 400, .inl pf)), (en, .inl (cI, 4, .inl ef))] U.heap ∧ va_K D CL (TY cB cI cJ cZ cN cF) U ∧ NN U ∧ va_D (fun _ => True) [(u0, .inr (8, [.ref pb, .ref en, .int uc, .int uk])), (pb, .inr (1, [.ref pq, .int pL])), (pq, .inl (cB, 400, .inl pf)), (en, .inl (cI, 4, .inl ef))])) (va_Qv (fun (u : Int32 × (Nat → Int32) × (Nat → Int32)) => match u with | (uc2, g, ef2) => (0 ≤ uc2.toInt ∧ uc2.toInt ≤ 4) ∧ (EnOK uc2.toInt pL.toInt ef2) ∧ (uc.toInt < 4 → EnL uc2.toInt ef2 (cs9 ++ [pL.toInt])) ∧ (Pt (imC pf) (imC g) (x.toInt + 2) (pL.toInt - x.toInt))) (fun (u : Int32 × (Nat → Int32) × (Nat → Int32)) (t : State) => match u with | (uc2, g, ef2) => va_P D CL [(u0, .inr (8, [.ref pb, .ref en, .int uc2, .int uk])), (pb, .inr (1, [.ref pq, .int pL])), (pq, .inl (cB, 400, .inl g)), (en, .inl (cI, 4, .inl ef2))] t.heap ∧ va_D (va_A [(u0, .inr (8, [.ref pb, .ref en, .int uc, .int uk])), (pb, .inr (1, [.ref pq, .int pL])), (pq, .inl (cB, 400, .inl pf)), (en, .inl (cI, 4, .inl ef))] sz) [(u0, .inr (8, [.ref pb, .ref en, .int uc2, .int uk])), (pb, .inr (1, [.ref pq, .int pL])), (pq, .inl (cB, 400, .inl g)), (en, .inl (cI, 4, .inl ef2))]) (va_A [(u0, .inr (8, [.ref pb, .ref en, .int uc, .int uk])), (pb, .inr (1, [.ref pq, .int pL])), (pq, .inl (cB, 400, .inl pf)), (en, .inl (cI, 4, .inl ef))] sz)) 0 0 (va_A [(u0, .inr (8, [.ref pb, .ref en, .int uc, .int uk])), (pb, .inr (1, [.ref pq, .int pL])), (pq, .inl (cB, 400, .inl pf)), (en, .inl (cI, 4, .inl ef))] sz) := by
  refine Met.ofW (cc := b_SystemUse_close) (maxL := 2) (ret := none) (by decide +kernel) rfl ?_
  intro p e s m args below meth c s₁ B hml hv
  obtain ⟨rfl, hsz, hP, hK, hN, hD0⟩ := hv
  have hx := B.exec
  have hb := B.bytes
  have hr := B.returns
  have hts := atoms_spec (ws := w_SystemUse_close) B.pre
  have ht9 := fun (w : Cond) (h : w ∈ lw_g) => hts w (List.mem_cons_of_mem _ h)
  have hown : s.vm.findClass "DiscMaker$SystemUse" = some m.cls := findClass_of_methodNamed B.named
  have hlocks := B.notSynchronized
  subst hsz
  have hD := hD0.self (sz := s.heap.size)
  generalize hAe : va_A [(u0, .inr (8, [.ref pb, .ref en, .int uc, .int uk])), (pb, .inr (1, [.ref pq, .int pL])), (pq, .inl (cB, 400, .inl pf)), (en, .inl (cI, 4, .inl ef))] s.heap.size = A at hD ⊢
  have hA : ∀ q : Nat, s.heap.size ≤ q → A q := fun q h => by rw [← hAe]; exact Or.inr h
  have hS : va_S A s.heap s.heap [] := va_S.rf
  have hP : va_P D CL [(u0, .inr (8, [.ref pb, .ref en, .int uc, .int uk])), (pb, .inr (1, [.ref pq, .int pL])), (pq, .inl (cB, 400, .inl pf)), (en, .inl (cI, 4, .inl ef))] s.heap := hP
  have hl := lv_entry [.ref u0, .int x] (n := 2) (Nat.le_of_ble_eq_true rfl)
  rw [lg_entry_eq]
  generalize (lg_sl [.ref u0, .int x] ++ List.replicate (2 - (lg_sl [.ref u0, .int x]).length) Slot.unset).toArray = ls at hl ⊢
  have hl : lv_has ls 2 [(0, .ref u0), (1, .int x)] := hl
  have L_m1 : ((-1) : Int32).toInt = (-1) := by decide
  have L_0 : (0 : Int32).toInt = 0 := by decide
  have L_1 : (1 : Int32).toInt = 1 := by decide
  have L_2 : (2 : Int32).toInt = 2 := by decide
  refine lv_aload_n hx hb d_SystemUse_close_0 rfl (lv_at hl 0 rfl) ?_
  refine va_get (D := D) (ci := 8) (v := .ref pb) (C := "DiscMaker$SystemUse") (T := F_SystemUse) (N := 4) hx hb ht9 in_SystemUse hown hK hP 0 rfl rfl 0 (by decide) (ht9 _ k330) (fun _ h9 => h9) rfl d_SystemUse_close_1 ?_
  refine lv_iload_n hx hb d_SystemUse_close_4 rfl (lv_at hl 1 rfl) ?_
  refine lv_iconst (v := 2) hx hb d_SystemUse_close_5 (by decide) ?_
  refine lv_iadd hx hb d_SystemUse_close_6 ?_
  refine lv_topi (fun v1 e_v1 => ?_)
  have t_v1 : v1.toInt = x.toInt + 2 := by rw [e_v1]; exact i_add rfl (by decide) (by omega) (by omega)
  refine lv_aload_n hx hb d_SystemUse_close_7 rfl (lv_at hl 0 rfl) ?_
  refine va_get (D := D) (ci := 8) (v := .ref pb) (C := "DiscMaker$SystemUse") (T := F_SystemUse) (N := 4) hx hb ht9 in_SystemUse hown hK hP 0 rfl rfl 0 (by decide) (ht9 _ k330) (fun _ h9 => h9) rfl d_SystemUse_close_8 ?_
  refine va_getN (D := D) (ci := 1) (v := .int pL) (C := "DiscMaker$Bytes") (T := F_Bytes) (N := 2) hx hb ht9 in_Bytes hown hK hP 1 rfl rfl 1 (by decide) (va_Nw.use rfl (hN _ k259)) (fun _ h9 => h9) rfl d_SystemUse_close_11 ?_
  refine lv_iload_n hx hb d_SystemUse_close_14 rfl (lv_at hl 1 rfl) ?_
  refine lv_isub hx hb d_SystemUse_close_15 ?_
  refine lv_topi (fun v2 e_v2 => ?_)
  have t_v2 : v2.toInt = pL.toInt - x.toInt := by rw [e_v2]; exact i_sub rfl rfl (by omega) (by omega)
  have hPc := hP.sub (ws' := [(pb, .inr (1, [.ref pq, .int pL])), (pq, .inl (cB, 400, .inl pf))]) [1, 2] rfl
  have hDc := hD.sub (ws' := [(pb, .inr (1, [.ref pq, .int pL])), (pq, .inl (cB, 400, .inl pf))]) [1, 2] (by decide +kernel) rfl
  have hFc := va_free (wc := [(pb, .inr (1, [.ref pq, .int pL])), (pq, .inl (cB, 400, .inl pf))]) hD hS hA [1, 2] rfl
  have hkc : 0 ≤ 0 := by decide
  have hks : 0 ≤ 0 := by decide
  refine va_callv (va_runV (C := "DiscMaker$Bytes") (As := [.int v1, .int v2]) (rest := []) ⟨hx, hb, hml, hown, hts⟩ (c3_putF l D cB cI cJ cZ cN cF s.heap.size pb pq 400 pL pf v1 v2 (by (try dsimp only); first | assumption | omega | trivial) (by (try dsimp only); first | assumption | omega | trivial) (by (try dsimp only); first | assumption | omega | trivial)) (cwV 2 hts (lg_goodV k911 k912 k913 k119 kc_Bytes_put) rfl rfl rfl (by decide +kernel) ⟨Nat.le_of_ble_eq_true rfl, Nat.le_of_ble_eq_true rfl⟩) ⟨fun a U g mk q => by obtain ⟨q0, q1, qP, qK, qN, qD⟩ := q; exact ⟨q0, q1, qP, va_K.moved (u := U) (U := U.calling g mk a) (Vm.Alike.refl U.vm) qK, qN.calling, qD⟩, va_recv hK hP (ci := 1) (q0 := 1) rfl rfl, fun U hU hW => ⟨rfl, by rw [hU], by rw [hU]; exact hPc, va_K.moved hW.alike hK, NN.warm hW hN, hDc.weaken (fun _ _ _ _ => trivial)⟩⟩ rfl rfl hl.1 rfl (lv_room (Nat.le_of_ble_eq_true rfl)) d_SystemUse_close_16 ⟨hkc, hks⟩) hS (fun q _ h => hFc q h) hFc (fun u t H1 locs ht hvm hp_r3 hB hz1 hk1 hS => ?_)
  obtain ⟨g_4, rfl⟩ : ∃ z, z = u := ⟨_, rfl⟩
  obtain ⟨hP1, hD1⟩ := hB
  rw [ht] at hP1
  obtain ⟨hP, hD⟩ := va_join (wr := [(u0, .inr (8, [.ref pb, .ref en, .int uc, .int uk])), (en, .inl (cI, 4, .inl ef))]) (w1 := [(pb, .inr (1, [.ref pq, .int pL])), (pq, .inl (cB, 400, .inl g_4))]) hP hD [1, 2] [0, 3] rfl rfl (by decide +kernel) (by decide +kernel) hk1 hFc hP1 hD1
  clear hPc hDc hFc hP1 hD1 hk1 hz1 hkc hks
  generalize H1 = H at hP hS ⊢
  have hP : va_P D CL [(u0, .inr (8, [.ref pb, .ref en, .int uc, .int uk])), (en, .inl (cI, 4, .inl ef)), (pb, .inr (1, [.ref pq, .int pL])), (pq, .inl (cB, 400, .inl g_4))] H := hP
  have hD : va_D A [(u0, .inr (8, [.ref pb, .ref en, .int uc, .int uk])), (en, .inl (cI, 4, .inl ef)), (pb, .inr (1, [.ref pq, .int pL])), (pq, .inl (cB, 400, .inl g_4))] := hD
  try dsimp only at hp_r3
  have hw_5 := hp_r3
  refine lv_aload_n hx hb d_SystemUse_close_19 rfl (lv_at hl 0 rfl) ?_
  refine va_get (D := D) (ci := 8) (v := .int uc) (C := "DiscMaker$SystemUse") (T := F_SystemUse) (N := 4) hx hb ht9 in_SystemUse hown hK hP 0 rfl rfl 2 (by decide) (ht9 _ k333) (fun _ h9 => h9) rfl d_SystemUse_close_20 ?_
  refine lv_aload_n hx hb d_SystemUse_close_23 rfl (lv_at hl 0 rfl) ?_
  refine va_get (D := D) (ci := 8) (v := .ref en) (C := "DiscMaker$SystemUse") (T := F_SystemUse) (N := 4) hx hb ht9 in_SystemUse hown hK hP 0 rfl rfl 1 (by decide) (ht9 _ k332) (fun _ h9 => h9) rfl d_SystemUse_close_24 ?_
  refine va_alen (v := 4) hx hb hK hP 1 1 rfl rfl rfl d_SystemUse_close_27 ?_
  have L_4 : (4 : Int32).toInt = 4 := by decide
  refine lv_icmp_ge (tgt := 57) hx hb d_SystemUse_close_28 (by decide) (fun h_9 => ?_) (fun h_9 => ?_)
  · skip
    have g28_17 : 4 ≤ uc.toInt := (i_le (by decide) rfl).mp h_9
    have hw9 := hw_5
    rw [show v1.toInt = x.toInt + 2 by omega, show v2.toInt = pL.toInt - x.toInt by omega] at hw9
    have hP9 := hP.sub (ws' := [(u0, .inr (8, [.ref pb, .ref en, .int uc, .int uk])), (pb, .inr (1, [.ref pq, .int pL])), (pq, .inl (cB, 400, .inl g_4)), (en, .inl (cI, 4, .inl ef))]) [0, 2, 3, 1] rfl
    have hD9 := hD.sub (ws' := [(u0, .inr (8, [.ref pb, .ref en, .int uc, .int uk])), (pb, .inr (1, [.ref pq, .int pL])), (pq, .inl (cB, 400, .inl g_4)), (en, .inl (cI, 4, .inl ef))]) [0, 2, 3, 1] (by decide +kernel) rfl
    exact W.vret hx hb hr (fun t ht hW => ⟨⟨(uc, g_4, ef), rfl, ⟨(by (try dsimp only); first | assumption | omega | trivial), hen, (fun h7 => absurd h7 (by omega)), hw9⟩, by rw [ht]; exact hP9, hD9⟩, hS.F ht⟩) hS.2.2 d_SystemUse_close_57
  · skip
    have g28_17 : ¬ 4 ≤ uc.toInt := fun h8 => h_9 ((i_le (by decide) rfl).mpr h8)
    refine lv_aload_n hx hb d_SystemUse_close_31 rfl (lv_at hl 0 rfl) ?_
    refine va_get (D := D) (ci := 8) (v := .ref en) (C := "DiscMaker$SystemUse") (T := F_SystemUse) (N := 4) hx hb ht9 in_SystemUse hown hK hP 0 rfl rfl 1 (by decide) (ht9 _ k332) (fun _ h9 => h9) rfl d_SystemUse_close_32 ?_
    refine lv_aload_n hx hb d_SystemUse_close_35 rfl (lv_at hl 0 rfl) ?_
    refine va_get (D := D) (ci := 8) (v := .int uc) (C := "DiscMaker$SystemUse") (T := F_SystemUse) (N := 4) hx hb ht9 in_SystemUse hown hK hP 0 rfl rfl 2 (by decide) (ht9 _ k333) (fun _ h9 => h9) rfl d_SystemUse_close_36 ?_
    refine lv_aload_n hx hb d_SystemUse_close_39 rfl (lv_at hl 0 rfl) ?_
    refine va_get (D := D) (ci := 8) (v := .ref pb) (C := "DiscMaker$SystemUse") (T := F_SystemUse) (N := 4) hx hb ht9 in_SystemUse hown hK hP 0 rfl rfl 0 (by decide) (ht9 _ k330) (fun _ h9 => h9) rfl d_SystemUse_close_40 ?_
    refine va_getN (D := D) (ci := 1) (v := .int pL) (C := "DiscMaker$Bytes") (T := F_Bytes) (N := 2) hx hb ht9 in_Bytes hown hK hP 2 rfl rfl 1 (by decide) (va_Nw.use rfl (hN _ k259)) (fun _ h9 => h9) rfl d_SystemUse_close_43 ?_
    refine zq_iast hx hb hK hP hD hS 1 1 rfl rfl (vp_in_iff.mpr ⟨by omega, by omega⟩) d_SystemUse_close_46 (fun fz6 e_fz6 H locs hP hD hS => ?_)
    have hP : va_P D CL [(u0, .inr (8, [.ref pb, .ref en, .int uc, .int uk])), (en, .inl (cI, 4, .inl fz6)), (pb, .inr (1, [.ref pq, .int pL])), (pq, .inl (cB, 400, .inl g_4))] H := hP
    have hD : va_D A [(u0, .inr (8, [.ref pb, .ref en, .int uc, .int uk])), (en, .inl (cI, 4, .inl fz6)), (pb, .inr (1, [.ref pq, .int pL])), (pq, .inl (cB, 400, .inl g_4))] := hD
    have s_fz6 : fz6 uc.toNatClampNeg = pL := by rw [e_fz6]; unfold upd; rw [if_pos (by first | rfl | decide)]
    refine lv_aload_n hx hb d_SystemUse_close_47 rfl (lv_at hl 0 rfl) ?_
    refine lv_dup hx hb d_SystemUse_close_48 rfl ?_
    refine va_get (D := D) (ci := 8) (v := .int uc) (C := "DiscMaker$SystemUse") (T := F_SystemUse) (N := 4) hx hb ht9 in_SystemUse hown hK hP 0 rfl rfl 2 (by decide) (ht9 _ k333) (fun _ h9 => h9) rfl d_SystemUse_close_49 ?_
    refine lv_iconst (v := 1) hx hb d_SystemUse_close_52 (by decide) ?_
    refine lv_iadd hx hb d_SystemUse_close_53 ?_
    refine lv_topi (fun v7 e_v7 => ?_)
    have t_v7 : v7.toInt = uc.toInt + 1 := by rw [e_v7]; exact i_add rfl (by decide) (by omega) (by omega)
    refine va_put (D := D) (ci := 8) (v := .int v7) (ty := .int) (C := "DiscMaker$SystemUse") (T := F_SystemUse) (N := 4) hx hb ht9 in_SystemUse t_SystemUse t_SystemUse_ok n_SystemUse hown hK hP hD hS 0 rfl rfl 2 (by decide) (ht9 _ k333) (fun _ h9 => h9) rfl (by decide +kernel) rfl rfl (Nat.le_of_ble_eq_true rfl) d_SystemUse_close_54 (fun H locs hP hD hS => ?_)
    have hP : va_P D CL [(u0, .inr (8, [.ref pb, .ref en, .int v7, .int uk])), (en, .inl (cI, 4, .inl fz6)), (pb, .inr (1, [.ref pq, .int pL])), (pq, .inl (cB, 400, .inl g_4))] H := hP
    have hD : va_D A [(u0, .inr (8, [.ref pb, .ref en, .int v7, .int uk])), (en, .inl (cI, 4, .inl fz6)), (pb, .inr (1, [.ref pq, .int pL])), (pq, .inl (cB, 400, .inl g_4))] := hD
    have hw9 := hw_5
    rw [show v1.toInt = x.toInt + 2 by omega, show v2.toInt = pL.toInt - x.toInt by omega] at hw9
    have hP9 := hP.sub (ws' := [(u0, .inr (8, [.ref pb, .ref en, .int v7, .int uk])), (pb, .inr (1, [.ref pq, .int pL])), (pq, .inl (cB, 400, .inl g_4)), (en, .inl (cI, 4, .inl fz6))]) [0, 2, 3, 1] rfl
    have hD9 := hD.sub (ws' := [(u0, .inr (8, [.ref pb, .ref en, .int v7, .int uk])), (pb, .inr (1, [.ref pq, .int pL])), (pq, .inl (cB, 400, .inl g_4)), (en, .inl (cI, 4, .inl fz6))]) [0, 2, 3, 1] (by decide +kernel) rfl
    exact W.vret hx hb hr (fun t ht hW => ⟨⟨(v7, g_4, fz6), rfl, ⟨(by (try dsimp only); first | assumption | omega | trivial), (EnOK_push hen e_fz6 (i_cl (a := uc) (by omega)) (by omega) (by omega)), (fun _ => EnL_push hcs e_fz6 (i_cl (a := uc) (by omega)) (by omega) rfl), hw9⟩, by rw [ht]; exact hP9, hD9⟩, hS.F ht⟩) hS.2.2 d_SystemUse_close_57

set_option maxHeartbeats 4000000 in
set_option maxRecDepth 100000 in
theorem c3_addRootsMarkF (l : Launch) (D : va_G) (cB cI cJ cZ cN cF : ClassId) (sz : Nat) (u0 : Nat) (pb : Nat) (pq : Nat) (en : Nat) (uc : Int32) (uk : Int32) (pL : Int32) (pf : Nat → Int32) (ef : Nat → Int32) (cs9 : List Int) (hPL : 0 ≤ pL.toInt ∧ pL.toInt ≤ 400) (huc : 0 ≤ uc.toInt ∧ uc.toInt ≤ 4) (hen : EnOK uc.toInt pL.toInt ef) (hcs : EnL uc.toInt ef cs9) (hcap : pL.toInt + 7 ≤ 400) : Met l y_SystemUse_addRootsMark w_SystemUse_addRootsMark ({ frames := 2, cells := 0, slots := 0, locals := 58 }) (va_Pc [.ref u0] (fun U => U.heap.size = sz ∧ va_P D CL [(u0, .inr (8, [.ref pb, .ref en, .int uc, .int uk])), (pb, .inr (1, [.ref pq, .int pL])), (pq, .inl (cB, 400, .inl pf)), (en, .inl (cI, 4, .inl ef))] U.heap ∧ va_K D CL (TY cB cI cJ cZ cN cF) U ∧ NN U ∧ va_D (fun _ => True) [(u0, .inr (8, [.ref pb, .ref en, .int uc, .int uk])), (pb, .inr (1, [.ref pq, .int pL])), (pq, .inl (cB, 400, .inl pf)), (en, .inl (cI, 4, .inl ef))])) (va_Qv (fun (u : Int32 × Int32 × (Nat → Int32) × (Nat → Int32)) => match u with | (uc2, L2, g, ef2) => (L2.toInt = pL.toInt + 7) ∧ (0 ≤ uc2.toInt ∧ uc2.toInt ≤ 4) ∧ (EnOK uc2.toInt L2.toInt ef2) ∧ (uc.toInt < 4 → EnL uc2.toInt ef2 (cs9 ++ [L2.toInt])) ∧ (BL (imC pf) (imC g) pL.toInt ([83, 80, 7, 1, 190, 239, 0]))) (fun (u : Int32 × Int32 × (Nat → Int32) × (Nat → Int32)) (t : State) => match u with | (uc2, L2, g, ef2) => va_P D CL [(u0, .inr (8, [.ref pb, .ref en, .int uc2, .int uk])), (pb, .inr (1, [.ref pq, .int L2])), (pq, .inl (cB, 400, .inl g)), (en, .inl (cI, 4, .inl ef2))] t.heap ∧ va_D (va_A [(u0, .inr (8, [.ref pb, .ref en, .int uc, .int uk])), (pb, .inr (1, [.ref pq, .int pL])), (pq, .inl (cB, 400, .inl pf)), (en, .inl (cI, 4, .inl ef))] sz) [(u0, .inr (8, [.ref pb, .ref en, .int uc2, .int uk])), (pb, .inr (1, [.ref pq, .int L2])), (pq, .inl (cB, 400, .inl g)), (en, .inl (cI, 4, .inl ef2))]) (va_A [(u0, .inr (8, [.ref pb, .ref en, .int uc, .int uk])), (pb, .inr (1, [.ref pq, .int pL])), (pq, .inl (cB, 400, .inl pf)), (en, .inl (cI, 4, .inl ef))] sz)) 0 0 (va_A [(u0, .inr (8, [.ref pb, .ref en, .int uc, .int uk])), (pb, .inr (1, [.ref pq, .int pL])), (pq, .inl (cB, 400, .inl pf)), (en, .inl (cI, 4, .inl ef))] sz) := by
  refine Met.ofW (cc := b_SystemUse_addRootsMark) (maxL := 2) (ret := none) (by decide +kernel) rfl ?_
  intro p e s m args below meth c s₁ B hml hv
  obtain ⟨rfl, hsz, hP, hK, hN, hD0⟩ := hv
  have hx := B.exec
  have hb := B.bytes
  have hr := B.returns
  have hts := atoms_spec (ws := w_SystemUse_addRootsMark) B.pre
  have ht9 := fun (w : Cond) (h : w ∈ lw_g) => hts w (List.mem_cons_of_mem _ h)
  have hown : s.vm.findClass "DiscMaker$SystemUse" = some m.cls := findClass_of_methodNamed B.named
  have hlocks := B.notSynchronized
  subst hsz
  have hD := hD0.self (sz := s.heap.size)
  generalize hAe : va_A [(u0, .inr (8, [.ref pb, .ref en, .int uc, .int uk])), (pb, .inr (1, [.ref pq, .int pL])), (pq, .inl (cB, 400, .inl pf)), (en, .inl (cI, 4, .inl ef))] s.heap.size = A at hD ⊢
  have hA : ∀ q : Nat, s.heap.size ≤ q → A q := fun q h => by rw [← hAe]; exact Or.inr h
  have hS : va_S A s.heap s.heap [] := va_S.rf
  have hP : va_P D CL [(u0, .inr (8, [.ref pb, .ref en, .int uc, .int uk])), (pb, .inr (1, [.ref pq, .int pL])), (pq, .inl (cB, 400, .inl pf)), (en, .inl (cI, 4, .inl ef))] s.heap := hP
  have hl := lv_entry [.ref u0] (n := 2) (Nat.le_of_ble_eq_true rfl)
  rw [lg_entry_eq]
  generalize (lg_sl [.ref u0] ++ List.replicate (2 - (lg_sl [.ref u0]).length) Slot.unset).toArray = ls at hl ⊢
  have hl : lv_has ls 2 [(0, .ref u0)] := hl
  have L_m1 : ((-1) : Int32).toInt = (-1) := by decide
  have L_0 : (0 : Int32).toInt = 0 := by decide
  have L_1 : (1 : Int32).toInt = 1 := by decide
  have L_4 : (4 : Int32).toInt = 4 := by decide
  have L_5 : (5 : Int32).toInt = 5 := by decide
  have L_7 : (7 : Int32).toInt = 7 := by decide
  have L_190 : (190 : Int32).toInt = 190 := by decide
  have L_239 : (239 : Int32).toInt = 239 := by decide
  have L_21328 : (21328 : Int32).toInt = 21328 := by decide
  refine lv_aload_n hx hb d_SystemUse_addRootsMark_0 rfl (lv_at hl 0 rfl) ?_
  refine lv_sipush (v := 21328) hx hb d_SystemUse_addRootsMark_1 (by decide) ?_
  refine lv_bipush (v := 7) hx hb d_SystemUse_addRootsMark_4 (by decide) ?_
  have hPc := hP.sub (ws' := [(u0, .inr (8, [.ref pb, .ref en, .int uc, .int uk])), (pb, .inr (1, [.ref pq, .int pL])), (pq, .inl (cB, 400, .inl pf))]) [0, 1, 2] rfl
  have hDc := hD.sub (ws' := [(u0, .inr (8, [.ref pb, .ref en, .int uc, .int uk])), (pb, .inr (1, [.ref pq, .int pL])), (pq, .inl (cB, 400, .inl pf))]) [0, 1, 2] (by decide +kernel) rfl
  have hFc := va_free (wc := [(u0, .inr (8, [.ref pb, .ref en, .int uc, .int uk])), (pb, .inr (1, [.ref pq, .int pL])), (pq, .inl (cB, 400, .inl pf))]) hD hS hA [0, 1, 2] rfl
  have hkc : 0 ≤ 0 := by decide
  have hks : 0 ≤ 0 := by decide
  refine va_calli (va_runV (C := "DiscMaker$SystemUse") (As := [.int 21328, .int 7]) (rest := []) ⟨hx, hb, hml, hown, hts⟩ (c3_use_openF l D cB cI cJ cZ cN cF s.heap.size u0 pb pq en uc uk pL pf 83 80 21328 7 (by (try dsimp only); first | assumption | omega | trivial) (by (try dsimp only); first | assumption | omega | trivial) ((by omega))) (cwV 2 hts (lg_goodV k903 k905 k9 k122 kc_SystemUse_open) rfl rfl rfl (by decide +kernel) ⟨Nat.le_of_ble_eq_true rfl, Nat.le_of_ble_eq_true rfl⟩) ⟨fun a U g mk q => by obtain ⟨q0, q1, qP, qK, qN, qD⟩ := q; exact ⟨q0, q1, qP, va_K.moved (u := U) (U := U.calling g mk a) (Vm.Alike.refl U.vm) qK, qN.calling, qD⟩, va_recv hK hP (ci := 8) (q0 := 0) rfl rfl, fun U hU hW => ⟨rfl, by rw [hU], by rw [hU]; exact hPc, va_K.moved hW.alike hK, NN.warm hW hN, hDc.weaken (fun _ _ _ _ => trivial)⟩⟩ rfl rfl hl.1 rfl (lv_room (Nat.le_of_ble_eq_true rfl)) d_SystemUse_addRootsMark_6 ⟨hkc, hks⟩) hS (fun q _ h => hFc q h) hFc (fun r1 u t H1 locs ht hvm hp_r1 hB hz1 hk1 hS => ?_)
  obtain ⟨L2_2, g_3⟩ := u
  obtain ⟨hP1, hD1⟩ := hB
  rw [ht] at hP1
  obtain ⟨hP, hD⟩ := va_join (wr := [(en, .inl (cI, 4, .inl ef))]) (w1 := [(u0, .inr (8, [.ref pb, .ref en, .int uc, .int uk])), (pb, .inr (1, [.ref pq, .int L2_2])), (pq, .inl (cB, 400, .inl g_3))]) hP hD [0, 1, 2] [3] rfl rfl (by decide +kernel) (by decide +kernel) hk1 hFc hP1 hD1
  clear hPc hDc hFc hP1 hD1 hk1 hz1 hkc hks
  generalize H1 = H at hP hS ⊢
  have hP : va_P D CL [(en, .inl (cI, 4, .inl ef)), (u0, .inr (8, [.ref pb, .ref en, .int uc, .int uk])), (pb, .inr (1, [.ref pq, .int L2_2])), (pq, .inl (cB, 400, .inl g_3))] H := hP
  have hD : va_D A [(en, .inl (cI, 4, .inl ef)), (u0, .inr (8, [.ref pb, .ref en, .int uc, .int uk])), (pb, .inr (1, [.ref pq, .int L2_2])), (pq, .inl (cB, 400, .inl g_3))] := hD
  try dsimp only at hp_r1
  obtain ⟨hr_4, hE_5, hw_6⟩ := hp_r1
  try rw [L_7] at hE_5
  try rw [L_7] at hw_6
  refine lv_istore_n hx hb d_SystemUse_addRootsMark_9 rfl hl (by decide) rfl (fun ls hl => ?_)
  have hl : lv_has ls 2 [(1, .int r1), (0, .ref u0)] := hl
  refine lv_aload_n hx hb d_SystemUse_addRootsMark_10 rfl (lv_at hl 1 rfl) ?_
  refine va_get (D := D) (ci := 8) (v := .ref pb) (C := "DiscMaker$SystemUse") (T := F_SystemUse) (N := 4) hx hb ht9 in_SystemUse hown hK hP 1 rfl rfl 0 (by decide) (ht9 _ k330) (fun _ h9 => h9) rfl d_SystemUse_addRootsMark_11 ?_
  refine lv_iload_n hx hb d_SystemUse_addRootsMark_14 rfl (lv_at hl 0 rfl) ?_
  refine lv_iconst (v := 4) hx hb d_SystemUse_addRootsMark_15 (by decide) ?_
  refine lv_iadd hx hb d_SystemUse_addRootsMark_16 ?_
  refine lv_topi (fun v7 e_v7 => ?_)
  have t_v7 : v7.toInt = r1.toInt + 4 := by rw [e_v7]; exact i_add rfl (by decide) (by omega) (by omega)
  refine lv_sipush (v := 190) hx hb d_SystemUse_addRootsMark_17 (by decide) ?_
  have hPc := hP.sub (ws' := [(pb, .inr (1, [.ref pq, .int L2_2])), (pq, .inl (cB, 400, .inl g_3))]) [2, 3] rfl
  have hDc := hD.sub (ws' := [(pb, .inr (1, [.ref pq, .int L2_2])), (pq, .inl (cB, 400, .inl g_3))]) [2, 3] (by decide +kernel) rfl
  have hFc := va_free (wc := [(pb, .inr (1, [.ref pq, .int L2_2])), (pq, .inl (cB, 400, .inl g_3))]) hD hS hA [2, 3] rfl
  have hkc : 0 ≤ 0 := by decide
  have hks : 0 ≤ 0 := by decide
  refine va_callv (va_runV (C := "DiscMaker$Bytes") (As := [.int v7, .int 190]) (rest := []) ⟨hx, hb, hml, hown, hts⟩ (c3_putF l D cB cI cJ cZ cN cF H.size pb pq 400 L2_2 g_3 v7 190 (by (try dsimp only); first | assumption | omega | trivial) (by (try dsimp only); first | assumption | omega | trivial) (by (try dsimp only); first | assumption | omega | trivial)) (cwV 2 hts (lg_goodV k911 k912 k913 k119 kc_Bytes_put) rfl rfl rfl (by decide +kernel) ⟨Nat.le_of_ble_eq_true rfl, Nat.le_of_ble_eq_true rfl⟩) ⟨fun a U g mk q => by obtain ⟨q0, q1, qP, qK, qN, qD⟩ := q; exact ⟨q0, q1, qP, va_K.moved (u := U) (U := U.calling g mk a) (Vm.Alike.refl U.vm) qK, qN.calling, qD⟩, va_recv hK hP (ci := 1) (q0 := 2) rfl rfl, fun U hU hW => ⟨rfl, by rw [hU], by rw [hU]; exact hPc, va_K.moved hW.alike hK, NN.warm hW hN, hDc.weaken (fun _ _ _ _ => trivial)⟩⟩ rfl rfl hl.1 rfl (lv_room (Nat.le_of_ble_eq_true rfl)) d_SystemUse_addRootsMark_20 ⟨hkc, hks⟩) hS (fun q _ h => hFc q h) hFc (fun u t H1 locs ht hvm hp_r8 hB hz1 hk1 hS => ?_)
  obtain ⟨g_9, rfl⟩ : ∃ z, z = u := ⟨_, rfl⟩
  obtain ⟨hP1, hD1⟩ := hB
  rw [ht] at hP1
  obtain ⟨hP, hD⟩ := va_join (wr := [(en, .inl (cI, 4, .inl ef)), (u0, .inr (8, [.ref pb, .ref en, .int uc, .int uk]))]) (w1 := [(pb, .inr (1, [.ref pq, .int L2_2])), (pq, .inl (cB, 400, .inl g_9))]) hP hD [2, 3] [0, 1] rfl rfl (by decide +kernel) (by decide +kernel) hk1 hFc hP1 hD1
  clear hPc hDc hFc hP1 hD1 hk1 hz1 hkc hks
  generalize H1 = H at hP hS ⊢
  have hP : va_P D CL [(en, .inl (cI, 4, .inl ef)), (u0, .inr (8, [.ref pb, .ref en, .int uc, .int uk])), (pb, .inr (1, [.ref pq, .int L2_2])), (pq, .inl (cB, 400, .inl g_9))] H := hP
  have hD : va_D A [(en, .inl (cI, 4, .inl ef)), (u0, .inr (8, [.ref pb, .ref en, .int uc, .int uk])), (pb, .inr (1, [.ref pq, .int L2_2])), (pq, .inl (cB, 400, .inl g_9))] := hD
  try dsimp only at hp_r8
  have hw_10 := hp_r8
  try rw [L_190] at hw_10
  refine lv_aload_n hx hb d_SystemUse_addRootsMark_23 rfl (lv_at hl 1 rfl) ?_
  refine va_get (D := D) (ci := 8) (v := .ref pb) (C := "DiscMaker$SystemUse") (T := F_SystemUse) (N := 4) hx hb ht9 in_SystemUse hown hK hP 1 rfl rfl 0 (by decide) (ht9 _ k330) (fun _ h9 => h9) rfl d_SystemUse_addRootsMark_24 ?_
  refine lv_iload_n hx hb d_SystemUse_addRootsMark_27 rfl (lv_at hl 0 rfl) ?_
  refine lv_iconst (v := 5) hx hb d_SystemUse_addRootsMark_28 (by decide) ?_
  refine lv_iadd hx hb d_SystemUse_addRootsMark_29 ?_
  refine lv_topi (fun v11 e_v11 => ?_)
  have t_v11 : v11.toInt = r1.toInt + 5 := by rw [e_v11]; exact i_add rfl (by decide) (by omega) (by omega)
  refine lv_sipush (v := 239) hx hb d_SystemUse_addRootsMark_30 (by decide) ?_
  have hPc := hP.sub (ws' := [(pb, .inr (1, [.ref pq, .int L2_2])), (pq, .inl (cB, 400, .inl g_9))]) [2, 3] rfl
  have hDc := hD.sub (ws' := [(pb, .inr (1, [.ref pq, .int L2_2])), (pq, .inl (cB, 400, .inl g_9))]) [2, 3] (by decide +kernel) rfl
  have hFc := va_free (wc := [(pb, .inr (1, [.ref pq, .int L2_2])), (pq, .inl (cB, 400, .inl g_9))]) hD hS hA [2, 3] rfl
  have hkc : 0 ≤ 0 := by decide
  have hks : 0 ≤ 0 := by decide
  refine va_callv (va_runV (C := "DiscMaker$Bytes") (As := [.int v11, .int 239]) (rest := []) ⟨hx, hb, hml, hown, hts⟩ (c3_putF l D cB cI cJ cZ cN cF H.size pb pq 400 L2_2 g_9 v11 239 (by (try dsimp only); first | assumption | omega | trivial) (by (try dsimp only); first | assumption | omega | trivial) (by (try dsimp only); first | assumption | omega | trivial)) (cwV 2 hts (lg_goodV k911 k912 k913 k119 kc_Bytes_put) rfl rfl rfl (by decide +kernel) ⟨Nat.le_of_ble_eq_true rfl, Nat.le_of_ble_eq_true rfl⟩) ⟨fun a U g mk q => by obtain ⟨q0, q1, qP, qK, qN, qD⟩ := q; exact ⟨q0, q1, qP, va_K.moved (u := U) (U := U.calling g mk a) (Vm.Alike.refl U.vm) qK, qN.calling, qD⟩, va_recv hK hP (ci := 1) (q0 := 2) rfl rfl, fun U hU hW => ⟨rfl, by rw [hU], by rw [hU]; exact hPc, va_K.moved hW.alike hK, NN.warm hW hN, hDc.weaken (fun _ _ _ _ => trivial)⟩⟩ rfl rfl hl.1 rfl (lv_room (Nat.le_of_ble_eq_true rfl)) d_SystemUse_addRootsMark_33 ⟨hkc, hks⟩) hS (fun q _ h => hFc q h) hFc (fun u t H1 locs ht hvm hp_r12 hB hz1 hk1 hS => ?_)
  obtain ⟨g_13, rfl⟩ : ∃ z, z = u := ⟨_, rfl⟩
  obtain ⟨hP1, hD1⟩ := hB
  rw [ht] at hP1
  obtain ⟨hP, hD⟩ := va_join (wr := [(en, .inl (cI, 4, .inl ef)), (u0, .inr (8, [.ref pb, .ref en, .int uc, .int uk]))]) (w1 := [(pb, .inr (1, [.ref pq, .int L2_2])), (pq, .inl (cB, 400, .inl g_13))]) hP hD [2, 3] [0, 1] rfl rfl (by decide +kernel) (by decide +kernel) hk1 hFc hP1 hD1
  clear hPc hDc hFc hP1 hD1 hk1 hz1 hkc hks
  generalize H1 = H at hP hS ⊢
  have hP : va_P D CL [(en, .inl (cI, 4, .inl ef)), (u0, .inr (8, [.ref pb, .ref en, .int uc, .int uk])), (pb, .inr (1, [.ref pq, .int L2_2])), (pq, .inl (cB, 400, .inl g_13))] H := hP
  have hD : va_D A [(en, .inl (cI, 4, .inl ef)), (u0, .inr (8, [.ref pb, .ref en, .int uc, .int uk])), (pb, .inr (1, [.ref pq, .int L2_2])), (pq, .inl (cB, 400, .inl g_13))] := hD
  try dsimp only at hp_r12
  have hw_14 := hp_r12
  try rw [L_239] at hw_14
  refine lv_aload_n hx hb d_SystemUse_addRootsMark_36 rfl (lv_at hl 1 rfl) ?_
  refine lv_iload_n hx hb d_SystemUse_addRootsMark_37 rfl (lv_at hl 0 rfl) ?_
  have hPc := hP.sub (ws' := [(u0, .inr (8, [.ref pb, .ref en, .int uc, .int uk])), (pb, .inr (1, [.ref pq, .int L2_2])), (pq, .inl (cB, 400, .inl g_13)), (en, .inl (cI, 4, .inl ef))]) [1, 2, 3, 0] rfl
  have hDc := hD.sub (ws' := [(u0, .inr (8, [.ref pb, .ref en, .int uc, .int uk])), (pb, .inr (1, [.ref pq, .int L2_2])), (pq, .inl (cB, 400, .inl g_13)), (en, .inl (cI, 4, .inl ef))]) [1, 2, 3, 0] (by decide +kernel) rfl
  have hFc := va_free (wc := [(u0, .inr (8, [.ref pb, .ref en, .int uc, .int uk])), (pb, .inr (1, [.ref pq, .int L2_2])), (pq, .inl (cB, 400, .inl g_13)), (en, .inl (cI, 4, .inl ef))]) hD hS hA [1, 2, 3, 0] rfl
  have hkc : 0 ≤ 0 := by decide
  have hks : 0 ≤ 0 := by decide
  refine va_callv (va_runV (C := "DiscMaker$SystemUse") (As := [.int r1]) (rest := []) ⟨hx, hb, hml, hown, hts⟩ (c3_closeF l D cB cI cJ cZ cN cF H.size u0 pb pq en uc uk L2_2 g_13 ef cs9 r1 (by (try dsimp only); first | assumption | omega | trivial) (by (try dsimp only); first | assumption | omega | trivial) (EnOK_mono hen (by omega)) (hcs) (by (try dsimp only); first | assumption | omega | trivial)) (cwV 1 hts (lg_goodV k922 k924 k11 k122 kc_SystemUse_close) rfl rfl rfl (by decide +kernel) ⟨Nat.le_of_ble_eq_true rfl, Nat.le_of_ble_eq_true rfl⟩) ⟨fun a U g mk q => by obtain ⟨q0, q1, qP, qK, qN, qD⟩ := q; exact ⟨q0, q1, qP, va_K.moved (u := U) (U := U.calling g mk a) (Vm.Alike.refl U.vm) qK, qN.calling, qD⟩, va_recv hK hP (ci := 8) (q0 := 1) rfl rfl, fun U hU hW => ⟨rfl, by rw [hU], by rw [hU]; exact hPc, va_K.moved hW.alike hK, NN.warm hW hN, hDc.weaken (fun _ _ _ _ => trivial)⟩⟩ rfl rfl hl.1 rfl (lv_room (Nat.le_of_ble_eq_true rfl)) d_SystemUse_addRootsMark_38 ⟨hkc, hks⟩) hS (fun q _ h => hFc q h) hFc (fun u t H1 locs ht hvm hp_r15 hB hz1 hk1 hS => ?_)
  obtain ⟨uc2_16, g_17, ef2_18⟩ := u
  obtain ⟨hP1, hD1⟩ := hB
  rw [ht] at hP1
  obtain ⟨hP, hD⟩ := va_join (wr := []) (w1 := [(u0, .inr (8, [.ref pb, .ref en, .int uc2_16, .int uk])), (pb, .inr (1, [.ref pq, .int L2_2])), (pq, .inl (cB, 400, .inl g_17)), (en, .inl (cI, 4, .inl ef2_18))]) hP hD [1, 2, 3, 0] [] rfl rfl (by decide +kernel) (by decide +kernel) hk1 hFc hP1 hD1
  clear hPc hDc hFc hP1 hD1 hk1 hz1 hkc hks
  generalize H1 = H at hP hS ⊢
  have hP : va_P D CL [(u0, .inr (8, [.ref pb, .ref en, .int uc2_16, .int uk])), (pb, .inr (1, [.ref pq, .int L2_2])), (pq, .inl (cB, 400, .inl g_17)), (en, .inl (cI, 4, .inl ef2_18))] H := hP
  have hD : va_D A [(u0, .inr (8, [.ref pb, .ref en, .int uc2_16, .int uk])), (pb, .inr (1, [.ref pq, .int L2_2])), (pq, .inl (cB, 400, .inl g_17)), (en, .inl (cI, 4, .inl ef2_18))] := hD
  try dsimp only at hp_r15
  obtain ⟨huc2_19, hen2_20, hcs2_21, hw_22⟩ := hp_r15
  have hP9 := hP.sub (ws' := [(u0, .inr (8, [.ref pb, .ref en, .int uc2_16, .int uk])), (pb, .inr (1, [.ref pq, .int L2_2])), (pq, .inl (cB, 400, .inl g_17)), (en, .inl (cI, 4, .inl ef2_18))]) [0, 1, 2, 3] rfl
  have hD9 := hD.sub (ws' := [(u0, .inr (8, [.ref pb, .ref en, .int uc2_16, .int uk])), (pb, .inr (1, [.ref pq, .int L2_2])), (pq, .inl (cB, 400, .inl g_17)), (en, .inl (cI, 4, .inl ef2_18))]) [0, 1, 2, 3] (by decide +kernel) rfl
  exact W.vret hx hb hr (fun t ht hW => ⟨⟨(uc2_16, L2_2, g_17, ef2_18), rfl, ⟨(by (try dsimp only); first | assumption | omega | trivial), (by (try dsimp only); first | assumption | omega | trivial), hen2_20, hcs2_21, (sp_of hw_6 hw_10 hw_14 hw_22 (by omega) (by omega) (by omega) (by omega) (by omega) (by omega))⟩, by rw [ht]; exact hP9, hD9⟩, hS.F ht⟩) hS.2.2 d_SystemUse_addRootsMark_41

set_option maxHeartbeats 4000000 in
set_option maxRecDepth 100000 in
theorem c3_modeBitsF (l : Launch) (D : va_G) (cB cI cJ cZ cN cF : ClassId) (sz : Nat) (x : Int32) : Met l y_SystemUse_modeBits w_SystemUse_modeBits ({ frames := 0, cells := 0, slots := 0, locals := 0 }) (va_Pc [.int x] (fun U => U.heap.size = sz ∧ va_P D CL [] U.heap ∧ va_K D CL (TY cB cI cJ cZ cN cF) U ∧ NN U ∧ va_D (fun _ => True) [])) (va_Qi (fun (r : Int32) (u : Unit) => (r = if x.toInt = 0 then 16384 else if x.toInt = 1 then 32768 else 40960)) (fun (u : Unit) (t : State) => match u with | () => va_P D CL [] t.heap ∧ va_D (va_A [] sz) []) (va_A [] sz)) 0 0 (va_A [] sz) := by
  refine Met.ofW (cc := b_SystemUse_modeBits) (maxL := 1) (ret := some .int) (by decide +kernel) rfl ?_
  intro p e s m args below meth c s₁ B hml hv
  obtain ⟨rfl, hsz, hP, hK, hN, hD0⟩ := hv
  have hx := B.exec
  have hb := B.bytes
  have hr := B.returns
  have hts := atoms_spec (ws := w_SystemUse_modeBits) B.pre
  have ht9 := fun (w : Cond) (h : w ∈ lw_g) => hts w (List.mem_cons_of_mem _ h)
  have hown : s.vm.findClass "DiscMaker$SystemUse" = some m.cls := findClass_of_methodNamed B.named
  have hlocks := B.notSynchronized
  subst hsz
  have hD := hD0.self (sz := s.heap.size)
  generalize hAe : va_A [] s.heap.size = A at hD ⊢
  have hA : ∀ q : Nat, s.heap.size ≤ q → A q := fun q h => by rw [← hAe]; exact Or.inr h
  have hS : va_S A s.heap s.heap [] := va_S.rf
  have hP : va_P D CL [] s.heap := hP
  have hl := lv_entry [.int x] (n := 1) (Nat.le_of_ble_eq_true rfl)
  rw [lg_entry_eq]
  generalize (lg_sl [.int x] ++ List.replicate (1 - (lg_sl [.int x]).length) Slot.unset).toArray = ls at hl ⊢
  have hl : lv_has ls 1 [(0, .int x)] := hl
  have L_m1 : ((-1) : Int32).toInt = (-1) := by decide
  have L_0 : (0 : Int32).toInt = 0 := by decide
  have L_1 : (1 : Int32).toInt = 1 := by decide
  have L_16384 : (16384 : Int32).toInt = 16384 := by decide
  have L_32768 : (32768 : Int32).toInt = 32768 := by decide
  have L_40960 : (40960 : Int32).toInt = 40960 := by decide
  refine lv_iload_n hx hb d_SystemUse_modeBits_0 rfl (lv_at hl 0 rfl) ?_
  refine lv_if_ne (tgt := 10) hx hb d_SystemUse_modeBits_1 (by decide) (fun h_9 => ?_) (fun h_9 => ?_)
  · skip
    have g1_2 : ¬ x.toInt = 0 := fun h8 => h_9 ((i_eq rfl (by decide)).mpr h8)
    refine lv_iload_n hx hb d_SystemUse_modeBits_10 rfl (lv_at hl 0 rfl) ?_
    refine lv_iconst (v := 1) hx hb d_SystemUse_modeBits_11 (by decide) ?_
    refine lv_icmp_ne (tgt := 20) hx hb d_SystemUse_modeBits_12 (by decide) (fun h_9 => ?_) (fun h_9 => ?_)
    · skip
      have g12_5 : ¬ x.toInt = 1 := fun h8 => h_9 ((i_eq rfl (by decide)).mpr h8)
      refine lv_ldc (v := 40960) hx hb hown (ht9 _ k1021) d_SystemUse_modeBits_20 ?_
      have hP9 := hP.sub (ws' := []) [] rfl
      have hD9 := hD.sub (ws' := []) [] (by decide +kernel) rfl
      exact W.iret (v := 40960) hx hb hr (fun t ht hW => ⟨⟨40960, (), rfl, (by (try dsimp only); first | (rw [if_pos (by omega)]) | (rw [if_neg (by omega), if_pos (by omega)]) | (rw [if_neg (by omega), if_neg (by omega)])), by rw [ht]; exact hP9, hD9⟩, hS.F ht⟩) hS.2.2 d_SystemUse_modeBits_22
    · skip
      have g12_5 : x.toInt = 1 := (i_eq rfl (by decide)).mp h_9
      refine lv_ldc (v := 32768) hx hb hown (ht9 _ k1020) d_SystemUse_modeBits_15 ?_
      refine lv_goto (tgt := 22) hx hb d_SystemUse_modeBits_17 (by decide) ?_
      have hP9 := hP.sub (ws' := []) [] rfl
      have hD9 := hD.sub (ws' := []) [] (by decide +kernel) rfl
      exact W.iret (v := 32768) hx hb hr (fun t ht hW => ⟨⟨32768, (), rfl, (by (try dsimp only); first | (rw [if_pos (by omega)]) | (rw [if_neg (by omega), if_pos (by omega)]) | (rw [if_neg (by omega), if_neg (by omega)])), by rw [ht]; exact hP9, hD9⟩, hS.F ht⟩) hS.2.2 d_SystemUse_modeBits_22
  · skip
    have g1_2 : x.toInt = 0 := (i_eq rfl (by decide)).mp h_9
    refine lv_sipush (v := 16384) hx hb d_SystemUse_modeBits_4 (by decide) ?_
    refine lv_goto (tgt := 22) hx hb d_SystemUse_modeBits_7 (by decide) ?_
    have hP9 := hP.sub (ws' := []) [] rfl
    have hD9 := hD.sub (ws' := []) [] (by decide +kernel) rfl
    exact W.iret (v := 16384) hx hb hr (fun t ht hW => ⟨⟨16384, (), rfl, (by (try dsimp only); first | (rw [if_pos (by omega)]) | (rw [if_neg (by omega), if_pos (by omega)]) | (rw [if_neg (by omega), if_neg (by omega)])), by rw [ht]; exact hP9, hD9⟩, hS.F ht⟩) hS.2.2 d_SystemUse_modeBits_22

set_option maxHeartbeats 4000000 in
set_option maxRecDepth 100000 in
theorem c3_addOwnershipF (l : Launch) (D : va_G) (cB cI cJ cZ cN cF : ClassId) (sz : Nat) (u0 : Nat) (pb : Nat) (pq : Nat) (en : Nat) (uc : Int32) (uk : Int32) (pL : Int32) (pf : Nat → Int32) (ef : Nat → Int32) (cs9 : List Int) (h0 : Nat) (kna : Nat) (kke : Nat) (kta : Nat) (so : Int32) (nu : Int32) (pa : Int32) (ab : Int32) (mo : Int32) (ow : Int32) (gr : Int32) (si : Int32) (sd : Int32) (x : Int32) (hPL : 0 ≤ pL.toInt ∧ pL.toInt ≤ 400) (huc : 0 ≤ uc.toInt ∧ uc.toInt ≤ 4) (hen : EnOK uc.toInt pL.toInt ef) (hcs : EnL uc.toInt ef cs9) (hcap : pL.toInt + 36 ≤ 400) : Met l y_SystemUse_addOwnership w_SystemUse_addOwnership ({ frames := 2, cells := 0, slots := 0, locals := 58 }) (va_Pc [.ref u0, .ref h0, .int x] (fun U => U.heap.size = sz ∧ va_P D CL [(u0, .inr (8, [.ref pb, .ref en, .int uc, .int uk])), (pb, .inr (1, [.ref pq, .int pL])), (pq, .inl (cB, 400, .inl pf)), (en, .inl (cI, 4, .inl ef))] U.heap ∧ va_K D CL (TY cB cI cJ cZ cN cF) U ∧ NN U ∧ va_D (fun _ => True) [(u0, .inr (8, [.ref pb, .ref en, .int uc, .int uk])), (pb, .inr (1, [.ref pq, .int pL])), (pq, .inl (cB, 400, .inl pf)), (en, .inl (cI, 4, .inl ef))] ∧ RO D [(h0, .inr (5, [.int so, .ref kna, .ref kke, .ref kta, .int nu, .int pa, .int ab, .int mo, .int ow, .int gr, .int si, .int sd]))] (va_A [(u0, .inr (8, [.ref pb, .ref en, .int uc, .int uk])), (pb, .inr (1, [.ref pq, .int pL])), (pq, .inl (cB, 400, .inl pf)), (en, .inl (cI, 4, .inl ef))] sz) U U.heap)) (va_Qv (fun (u : Int32 × Int32 × (Nat → Int32) × (Nat → Int32)) => match u with | (uc2, L2, g, ef2) => (L2.toInt = pL.toInt + 36) ∧ (0 ≤ uc2.toInt ∧ uc2.toInt ≤ 4) ∧ (EnOK uc2.toInt L2.toInt ef2) ∧ (uc.toInt < 4 → EnL uc2.toInt ef2 (cs9 ++ [L2.toInt])) ∧ (BL (imC pf) (imC g) pL.toInt (pxL (mdW so mo).toInt x.toInt ow.toInt gr.toInt))) (fun (u : Int32 × Int32 × (Nat → Int32) × (Nat → Int32)) (t : State) => match u with | (uc2, L2, g, ef2) => va_P D CL [(u0, .inr (8, [.ref pb, .ref en, .int uc2, .int uk])), (pb, .inr (1, [.ref pq, .int L2])), (pq, .inl (cB, 400, .inl g)), (en, .inl (cI, 4, .inl ef2))] t.heap ∧ va_D (va_A [(u0, .inr (8, [.ref pb, .ref en, .int uc, .int uk])), (pb, .inr (1, [.ref pq, .int pL])), (pq, .inl (cB, 400, .inl pf)), (en, .inl (cI, 4, .inl ef))] sz) [(u0, .inr (8, [.ref pb, .ref en, .int uc2, .int uk])), (pb, .inr (1, [.ref pq, .int L2])), (pq, .inl (cB, 400, .inl g)), (en, .inl (cI, 4, .inl ef2))]) (va_A [(u0, .inr (8, [.ref pb, .ref en, .int uc, .int uk])), (pb, .inr (1, [.ref pq, .int pL])), (pq, .inl (cB, 400, .inl pf)), (en, .inl (cI, 4, .inl ef))] sz)) 0 0 (va_A [(u0, .inr (8, [.ref pb, .ref en, .int uc, .int uk])), (pb, .inr (1, [.ref pq, .int pL])), (pq, .inl (cB, 400, .inl pf)), (en, .inl (cI, 4, .inl ef))] sz) := by
  refine Met.ofW (cc := b_SystemUse_addOwnership) (maxL := 4) (ret := none) (by decide +kernel) rfl ?_
  intro p e s m args below meth c s₁ B hml hv
  obtain ⟨rfl, hsz, hP, hK, hN, hD0, hZr⟩ := hv
  have hx := B.exec
  have hb := B.bytes
  have hr := B.returns
  have hts := atoms_spec (ws := w_SystemUse_addOwnership) B.pre
  have ht9 := fun (w : Cond) (h : w ∈ lw_g) => hts w (List.mem_cons_of_mem _ h)
  have hown : s.vm.findClass "DiscMaker$SystemUse" = some m.cls := findClass_of_methodNamed B.named
  have hlocks := B.notSynchronized
  subst hsz
  have hD := hD0.self (sz := s.heap.size)
  generalize hAe : va_A [(u0, .inr (8, [.ref pb, .ref en, .int uc, .int uk])), (pb, .inr (1, [.ref pq, .int pL])), (pq, .inl (cB, 400, .inl pf)), (en, .inl (cI, 4, .inl ef))] s.heap.size = A at hD hZr ⊢
  have hA : ∀ q : Nat, s.heap.size ≤ q → A q := fun q h => by rw [← hAe]; exact Or.inr h
  have hS : va_S A s.heap s.heap [] := va_S.rf
  have hP : va_P D CL [(u0, .inr (8, [.ref pb, .ref en, .int uc, .int uk])), (pb, .inr (1, [.ref pq, .int pL])), (pq, .inl (cB, 400, .inl pf)), (en, .inl (cI, 4, .inl ef))] s.heap := hP
  have hl := lv_entry [.ref u0, .ref h0, .int x] (n := 4) (Nat.le_of_ble_eq_true rfl)
  rw [lg_entry_eq]
  generalize (lg_sl [.ref u0, .ref h0, .int x] ++ List.replicate (4 - (lg_sl [.ref u0, .ref h0, .int x]).length) Slot.unset).toArray = ls at hl ⊢
  have hl : lv_has ls 4 [(0, .ref u0), (1, .ref h0), (2, .int x)] := hl
  have L_m1 : ((-1) : Int32).toInt = (-1) := by decide
  have L_0 : (0 : Int32).toInt = 0 := by decide
  have L_1 : (1 : Int32).toInt = 1 := by decide
  have L_2 : (2 : Int32).toInt = 2 := by decide
  have L_4 : (4 : Int32).toInt = 4 := by decide
  have L_12 : (12 : Int32).toInt = 12 := by decide
  have L_20 : (20 : Int32).toInt = 20 := by decide
  have L_28 : (28 : Int32).toInt = 28 := by decide
  have L_36 : (36 : Int32).toInt = 36 := by decide
  have L_4096 : (4096 : Int32).toInt = 4096 := by decide
  have L_20568 : (20568 : Int32).toInt = 20568 := by decide
  refine lv_aload_n hx hb d_SystemUse_addOwnership_0 rfl (lv_at hl 0 rfl) ?_
  refine lv_sipush (v := 20568) hx hb d_SystemUse_addOwnership_1 (by decide) ?_
  refine lv_bipush (v := 36) hx hb d_SystemUse_addOwnership_4 (by decide) ?_
  have hPc := hP.sub (ws' := [(u0, .inr (8, [.ref pb, .ref en, .int uc, .int uk])), (pb, .inr (1, [.ref pq, .int pL])), (pq, .inl (cB, 400, .inl pf))]) [0, 1, 2] rfl
  have hDc := hD.sub (ws' := [(u0, .inr (8, [.ref pb, .ref en, .int uc, .int uk])), (pb, .inr (1, [.ref pq, .int pL])), (pq, .inl (cB, 400, .inl pf))]) [0, 1, 2] (by decide +kernel) rfl
  have hFc := va_free (wc := [(u0, .inr (8, [.ref pb, .ref en, .int uc, .int uk])), (pb, .inr (1, [.ref pq, .int pL])), (pq, .inl (cB, 400, .inl pf))]) hD hS hA [0, 1, 2] rfl
  have hkc : 0 ≤ 0 := by decide
  have hks : 0 ≤ 0 := by decide
  refine va_calli (va_runV (C := "DiscMaker$SystemUse") (As := [.int 20568, .int 36]) (rest := []) ⟨hx, hb, hml, hown, hts⟩ (c3_use_openF l D cB cI cJ cZ cN cF s.heap.size u0 pb pq en uc uk pL pf 80 88 20568 36 (by (try dsimp only); first | assumption | omega | trivial) (by (try dsimp only); first | assumption | omega | trivial) ((by omega))) (cwV 2 hts (lg_goodV k903 k905 k9 k122 kc_SystemUse_open) rfl rfl rfl (by decide +kernel) ⟨Nat.le_of_ble_eq_true rfl, Nat.le_of_ble_eq_true rfl⟩) ⟨fun a U g mk q => by obtain ⟨q0, q1, qP, qK, qN, qD⟩ := q; exact ⟨q0, q1, qP, va_K.moved (u := U) (U := U.calling g mk a) (Vm.Alike.refl U.vm) qK, qN.calling, qD⟩, va_recv hK hP (ci := 8) (q0 := 0) rfl rfl, fun U hU hW => ⟨rfl, by rw [hU], by rw [hU]; exact hPc, va_K.moved hW.alike hK, NN.warm hW hN, hDc.weaken (fun _ _ _ _ => trivial)⟩⟩ rfl rfl hl.1 rfl (lv_room (Nat.le_of_ble_eq_true rfl)) d_SystemUse_addOwnership_6 ⟨hkc, hks⟩) hS (fun q _ h => hFc q h) hFc (fun r1 u t H1 locs ht hvm hp_r1 hB hz1 hk1 hS => ?_)
  obtain ⟨L2_2, g_3⟩ := u
  obtain ⟨hP1, hD1⟩ := hB
  rw [ht] at hP1
  obtain ⟨hP, hD⟩ := va_join (wr := [(en, .inl (cI, 4, .inl ef))]) (w1 := [(u0, .inr (8, [.ref pb, .ref en, .int uc, .int uk])), (pb, .inr (1, [.ref pq, .int L2_2])), (pq, .inl (cB, 400, .inl g_3))]) hP hD [0, 1, 2] [3] rfl rfl (by decide +kernel) (by decide +kernel) hk1 hFc hP1 hD1
  clear hPc hDc hFc hP1 hD1 hk1 hz1 hkc hks
  generalize H1 = H at hP hS ⊢
  have hP : va_P D CL [(en, .inl (cI, 4, .inl ef)), (u0, .inr (8, [.ref pb, .ref en, .int uc, .int uk])), (pb, .inr (1, [.ref pq, .int L2_2])), (pq, .inl (cB, 400, .inl g_3))] H := hP
  have hD : va_D A [(en, .inl (cI, 4, .inl ef)), (u0, .inr (8, [.ref pb, .ref en, .int uc, .int uk])), (pb, .inr (1, [.ref pq, .int L2_2])), (pq, .inl (cB, 400, .inl g_3))] := hD
  try dsimp only at hp_r1
  obtain ⟨hr_4, hE_5, hw_6⟩ := hp_r1
  try rw [L_36] at hE_5
  try rw [L_36] at hw_6
  refine lv_istore_n hx hb d_SystemUse_addOwnership_9 rfl hl (by decide) rfl (fun ls hl => ?_)
  have hl : lv_has ls 4 [(3, .int r1), (0, .ref u0), (1, .ref h0), (2, .int x)] := hl
  refine lv_aload_n hx hb d_SystemUse_addOwnership_10 rfl (lv_at hl 1 rfl) ?_
  refine va_get (D := D) (ci := 8) (v := .ref pb) (C := "DiscMaker$SystemUse") (T := F_SystemUse) (N := 4) hx hb ht9 in_SystemUse hown hK hP 1 rfl rfl 0 (by decide) (ht9 _ k330) (fun _ h9 => h9) rfl d_SystemUse_addOwnership_11 ?_
  refine lv_iload_n hx hb d_SystemUse_addOwnership_14 rfl (lv_at hl 0 rfl) ?_
  refine lv_iconst (v := 4) hx hb d_SystemUse_addOwnership_15 (by decide) ?_
  refine lv_iadd hx hb d_SystemUse_addOwnership_16 ?_
  refine lv_topi (fun v7 e_v7 => ?_)
  have t_v7 : v7.toInt = r1.toInt + 4 := by rw [e_v7]; exact i_add rfl (by decide) (by omega) (by omega)
  refine lv_aload_n hx hb d_SystemUse_addOwnership_17 rfl (lv_at hl 2 rfl) ?_
  have hPR := RO_at hZr hS
  refine va_getN (D := D) (ci := 5) (v := .int so) (C := "DiscMaker$Node") (T := F_Node) (N := 12) hx hb ht9 in_Node hown hK hPR 0 rfl rfl 0 (by decide) (va_Nw.use rfl (hN _ k182)) (fun _ h9 => h9) rfl d_SystemUse_addOwnership_18 ?_
  have hPc := hP.sub (ws' := []) [] rfl
  have hDc := hD.sub (ws' := []) [] (by decide +kernel) rfl
  have hFc := va_free (wc := []) hD hS hA [] rfl
  have hkc : 0 ≤ 0 := by decide
  have hks : 0 ≤ 0 := by decide
  refine va_calli (va_runS (As := [.int so]) (rest := [.int v7, .ref pb]) ⟨hx, hb, hml, hown, hts⟩ (c3_modeBitsF l D cB cI cJ cZ cN cF H.size so) (cwS 1 hts (lg_goodS k1017 k1018 k122 kc_SystemUse_modeBits) rfl rfl rfl (by decide +kernel) ⟨Nat.le_of_ble_eq_true rfl, Nat.le_of_ble_eq_true rfl⟩) ⟨fun a U g mk q => by obtain ⟨q0, q1, qP, qK, qN, qD⟩ := q; exact ⟨q0, q1, qP, va_K.moved (u := U) (U := U.calling g mk a) (Vm.Alike.refl U.vm) qK, qN.calling, qD⟩, fun U hU hW => ⟨rfl, by rw [hU], by rw [hU]; exact hPc, va_K.moved hW.alike hK, NN.warm hW hN, hDc.weaken (fun _ _ _ _ => trivial)⟩⟩ rfl rfl hl.1 rfl (lv_room (Nat.le_of_ble_eq_true rfl)) d_SystemUse_addOwnership_21 ⟨hkc, hks⟩) hS (fun q _ h => hFc q h) hFc (fun r8 u t H1 locs ht hvm hp_r8 hB hz1 hk1 hS => ?_)
  obtain ⟨hP1, hD1⟩ := hB
  rw [ht] at hP1
  obtain ⟨hP, hD⟩ := va_join (wr := [(en, .inl (cI, 4, .inl ef)), (u0, .inr (8, [.ref pb, .ref en, .int uc, .int uk])), (pb, .inr (1, [.ref pq, .int L2_2])), (pq, .inl (cB, 400, .inl g_3))]) (w1 := []) hP hD [] [0, 1, 2, 3] rfl rfl (by decide +kernel) (by decide +kernel) hk1 hFc hP1 hD1
  clear hPc hDc hFc hP1 hD1 hk1 hz1 hkc hks
  generalize H1 = H at hP hS ⊢
  have hP : va_P D CL [(en, .inl (cI, 4, .inl ef)), (u0, .inr (8, [.ref pb, .ref en, .int uc, .int uk])), (pb, .inr (1, [.ref pq, .int L2_2])), (pq, .inl (cB, 400, .inl g_3))] H := hP
  have hD : va_D A [(en, .inl (cI, 4, .inl ef)), (u0, .inr (8, [.ref pb, .ref en, .int uc, .int uk])), (pb, .inr (1, [.ref pq, .int L2_2])), (pq, .inl (cB, 400, .inl g_3))] := hD
  try dsimp only at hp_r8
  have hv_9 := hp_r8
  refine lv_aload_n hx hb d_SystemUse_addOwnership_24 rfl (lv_at hl 2 rfl) ?_
  have hPR := RO_at hZr hS
  refine va_getN (D := D) (ci := 5) (v := .int mo) (C := "DiscMaker$Node") (T := F_Node) (N := 12) hx hb ht9 in_Node hown hK hPR 0 rfl rfl 7 (by decide) (va_Nw.use rfl (hN _ k201)) (fun _ h9 => h9) rfl d_SystemUse_addOwnership_25 ?_
  refine lv_sipush (v := 4096) hx hb d_SystemUse_addOwnership_28 (by decide) ?_
  refine lv_irem hx hb d_SystemUse_addOwnership_31 (by decide) ?_
  refine lv_topi (fun v10 e_v10 => ?_)
  refine lv_iadd hx hb d_SystemUse_addOwnership_32 ?_
  refine lv_topi (fun v11 e_v11 => ?_)
  refine lv_iconst (v := 4) hx hb d_SystemUse_addOwnership_33 (by decide) ?_
  have hPc := hP.sub (ws' := [(pb, .inr (1, [.ref pq, .int L2_2])), (pq, .inl (cB, 400, .inl g_3))]) [2, 3] rfl
  have hDc := hD.sub (ws' := [(pb, .inr (1, [.ref pq, .int L2_2])), (pq, .inl (cB, 400, .inl g_3))]) [2, 3] (by decide +kernel) rfl
  have hFc := va_free (wc := [(pb, .inr (1, [.ref pq, .int L2_2])), (pq, .inl (cB, 400, .inl g_3))]) hD hS hA [2, 3] rfl
  have hkc : 0 ≤ 0 := by decide
  have hks : 0 ≤ 0 := by decide
  refine va_callv (va_runV (C := "DiscMaker$Bytes") (As := [.int v7, .int v11, .int 4]) (rest := []) ⟨hx, hb, hml, hown, hts⟩ (c3_putBoth4F l D cB cI cJ cZ cN cF H.size pb pq 400 L2_2 g_3 v7 v11 (by (try dsimp only); first | assumption | omega | trivial) (by (try dsimp only); first | assumption | omega | trivial) (by (try dsimp only); first | assumption | omega | trivial)) (cwV 3 hts (lg_goodV k1022 k1023 k1024 k119 kc_Bytes_putBoth) rfl rfl rfl (by decide +kernel) ⟨Nat.le_of_ble_eq_true rfl, Nat.le_of_ble_eq_true rfl⟩) ⟨fun a U g mk q => by obtain ⟨q0, q1, qP, qK, qN, qD⟩ := q; exact ⟨q0, q1, qP, va_K.moved (u := U) (U := U.calling g mk a) (Vm.Alike.refl U.vm) qK, qN.calling, qD⟩, va_recv hK hP (ci := 1) (q0 := 2) rfl rfl, fun U hU hW => ⟨rfl, by rw [hU], by rw [hU]; exact hPc, va_K.moved hW.alike hK, NN.warm hW hN, hDc.weaken (fun _ _ _ _ => trivial)⟩⟩ rfl rfl hl.1 rfl (lv_room (Nat.le_of_ble_eq_true rfl)) d_SystemUse_addOwnership_34 ⟨hkc, hks⟩) hS (fun q _ h => hFc q h) hFc (fun u t H1 locs ht hvm hp_r12 hB hz1 hk1 hS => ?_)
  obtain ⟨g_13, rfl⟩ : ∃ z, z = u := ⟨_, rfl⟩
  obtain ⟨hP1, hD1⟩ := hB
  rw [ht] at hP1
  obtain ⟨hP, hD⟩ := va_join (wr := [(en, .inl (cI, 4, .inl ef)), (u0, .inr (8, [.ref pb, .ref en, .int uc, .int uk]))]) (w1 := [(pb, .inr (1, [.ref pq, .int L2_2])), (pq, .inl (cB, 400, .inl g_13))]) hP hD [2, 3] [0, 1] rfl rfl (by decide +kernel) (by decide +kernel) hk1 hFc hP1 hD1
  clear hPc hDc hFc hP1 hD1 hk1 hz1 hkc hks
  generalize H1 = H at hP hS ⊢
  have hP : va_P D CL [(en, .inl (cI, 4, .inl ef)), (u0, .inr (8, [.ref pb, .ref en, .int uc, .int uk])), (pb, .inr (1, [.ref pq, .int L2_2])), (pq, .inl (cB, 400, .inl g_13))] H := hP
  have hD : va_D A [(en, .inl (cI, 4, .inl ef)), (u0, .inr (8, [.ref pb, .ref en, .int uc, .int uk])), (pb, .inr (1, [.ref pq, .int L2_2])), (pq, .inl (cB, 400, .inl g_13))] := hD
  try dsimp only at hp_r12
  have hw_14 := hp_r12
  refine lv_aload_n hx hb d_SystemUse_addOwnership_37 rfl (lv_at hl 1 rfl) ?_
  refine va_get (D := D) (ci := 8) (v := .ref pb) (C := "DiscMaker$SystemUse") (T := F_SystemUse) (N := 4) hx hb ht9 in_SystemUse hown hK hP 1 rfl rfl 0 (by decide) (ht9 _ k330) (fun _ h9 => h9) rfl d_SystemUse_addOwnership_38 ?_
  refine lv_iload_n hx hb d_SystemUse_addOwnership_41 rfl (lv_at hl 0 rfl) ?_
  refine lv_bipush (v := 12) hx hb d_SystemUse_addOwnership_42 (by decide) ?_
  refine lv_iadd hx hb d_SystemUse_addOwnership_44 ?_
  refine lv_topi (fun v15 e_v15 => ?_)
  have t_v15 : v15.toInt = r1.toInt + 12 := by rw [e_v15]; exact i_add rfl (by decide) (by omega) (by omega)
  refine lv_iload_n hx hb d_SystemUse_addOwnership_45 rfl (lv_at hl 3 rfl) ?_
  refine lv_iconst (v := 4) hx hb d_SystemUse_addOwnership_46 (by decide) ?_
  have hPc := hP.sub (ws' := [(pb, .inr (1, [.ref pq, .int L2_2])), (pq, .inl (cB, 400, .inl g_13))]) [2, 3] rfl
  have hDc := hD.sub (ws' := [(pb, .inr (1, [.ref pq, .int L2_2])), (pq, .inl (cB, 400, .inl g_13))]) [2, 3] (by decide +kernel) rfl
  have hFc := va_free (wc := [(pb, .inr (1, [.ref pq, .int L2_2])), (pq, .inl (cB, 400, .inl g_13))]) hD hS hA [2, 3] rfl
  have hkc : 0 ≤ 0 := by decide
  have hks : 0 ≤ 0 := by decide
  refine va_callv (va_runV (C := "DiscMaker$Bytes") (As := [.int v15, .int x, .int 4]) (rest := []) ⟨hx, hb, hml, hown, hts⟩ (c3_putBoth4F l D cB cI cJ cZ cN cF H.size pb pq 400 L2_2 g_13 v15 x (by (try dsimp only); first | assumption | omega | trivial) (by (try dsimp only); first | assumption | omega | trivial) (by (try dsimp only); first | assumption | omega | trivial)) (cwV 3 hts (lg_goodV k1022 k1023 k1024 k119 kc_Bytes_putBoth) rfl rfl rfl (by decide +kernel) ⟨Nat.le_of_ble_eq_true rfl, Nat.le_of_ble_eq_true rfl⟩) ⟨fun a U g mk q => by obtain ⟨q0, q1, qP, qK, qN, qD⟩ := q; exact ⟨q0, q1, qP, va_K.moved (u := U) (U := U.calling g mk a) (Vm.Alike.refl U.vm) qK, qN.calling, qD⟩, va_recv hK hP (ci := 1) (q0 := 2) rfl rfl, fun U hU hW => ⟨rfl, by rw [hU], by rw [hU]; exact hPc, va_K.moved hW.alike hK, NN.warm hW hN, hDc.weaken (fun _ _ _ _ => trivial)⟩⟩ rfl rfl hl.1 rfl (lv_room (Nat.le_of_ble_eq_true rfl)) d_SystemUse_addOwnership_47 ⟨hkc, hks⟩) hS (fun q _ h => hFc q h) hFc (fun u t H1 locs ht hvm hp_r16 hB hz1 hk1 hS => ?_)
  obtain ⟨g_17, rfl⟩ : ∃ z, z = u := ⟨_, rfl⟩
  obtain ⟨hP1, hD1⟩ := hB
  rw [ht] at hP1
  obtain ⟨hP, hD⟩ := va_join (wr := [(en, .inl (cI, 4, .inl ef)), (u0, .inr (8, [.ref pb, .ref en, .int uc, .int uk]))]) (w1 := [(pb, .inr (1, [.ref pq, .int L2_2])), (pq, .inl (cB, 400, .inl g_17))]) hP hD [2, 3] [0, 1] rfl rfl (by decide +kernel) (by decide +kernel) hk1 hFc hP1 hD1
  clear hPc hDc hFc hP1 hD1 hk1 hz1 hkc hks
  generalize H1 = H at hP hS ⊢
  have hP : va_P D CL [(en, .inl (cI, 4, .inl ef)), (u0, .inr (8, [.ref pb, .ref en, .int uc, .int uk])), (pb, .inr (1, [.ref pq, .int L2_2])), (pq, .inl (cB, 400, .inl g_17))] H := hP
  have hD : va_D A [(en, .inl (cI, 4, .inl ef)), (u0, .inr (8, [.ref pb, .ref en, .int uc, .int uk])), (pb, .inr (1, [.ref pq, .int L2_2])), (pq, .inl (cB, 400, .inl g_17))] := hD
  try dsimp only at hp_r16
  have hw_18 := hp_r16
  refine lv_aload_n hx hb d_SystemUse_addOwnership_50 rfl (lv_at hl 1 rfl) ?_
  refine va_get (D := D) (ci := 8) (v := .ref pb) (C := "DiscMaker$SystemUse") (T := F_SystemUse) (N := 4) hx hb ht9 in_SystemUse hown hK hP 1 rfl rfl 0 (by decide) (ht9 _ k330) (fun _ h9 => h9) rfl d_SystemUse_addOwnership_51 ?_
  refine lv_iload_n hx hb d_SystemUse_addOwnership_54 rfl (lv_at hl 0 rfl) ?_
  refine lv_bipush (v := 20) hx hb d_SystemUse_addOwnership_55 (by decide) ?_
  refine lv_iadd hx hb d_SystemUse_addOwnership_57 ?_
  refine lv_topi (fun v19 e_v19 => ?_)
  have t_v19 : v19.toInt = r1.toInt + 20 := by rw [e_v19]; exact i_add rfl (by decide) (by omega) (by omega)
  refine lv_aload_n hx hb d_SystemUse_addOwnership_58 rfl (lv_at hl 2 rfl) ?_
  have hPR := RO_at hZr hS
  refine va_getN (D := D) (ci := 5) (v := .int ow) (C := "DiscMaker$Node") (T := F_Node) (N := 12) hx hb ht9 in_Node hown hK hPR 0 rfl rfl 8 (by decide) (va_Nw.use rfl (hN _ k203)) (fun _ h9 => h9) rfl d_SystemUse_addOwnership_59 ?_
  refine lv_iconst (v := 4) hx hb d_SystemUse_addOwnership_62 (by decide) ?_
  have hPc := hP.sub (ws' := [(pb, .inr (1, [.ref pq, .int L2_2])), (pq, .inl (cB, 400, .inl g_17))]) [2, 3] rfl
  have hDc := hD.sub (ws' := [(pb, .inr (1, [.ref pq, .int L2_2])), (pq, .inl (cB, 400, .inl g_17))]) [2, 3] (by decide +kernel) rfl
  have hFc := va_free (wc := [(pb, .inr (1, [.ref pq, .int L2_2])), (pq, .inl (cB, 400, .inl g_17))]) hD hS hA [2, 3] rfl
  have hkc : 0 ≤ 0 := by decide
  have hks : 0 ≤ 0 := by decide
  refine va_callv (va_runV (C := "DiscMaker$Bytes") (As := [.int v19, .int ow, .int 4]) (rest := []) ⟨hx, hb, hml, hown, hts⟩ (c3_putBoth4F l D cB cI cJ cZ cN cF H.size pb pq 400 L2_2 g_17 v19 ow (by (try dsimp only); first | assumption | omega | trivial) (by (try dsimp only); first | assumption | omega | trivial) (by (try dsimp only); first | assumption | omega | trivial)) (cwV 3 hts (lg_goodV k1022 k1023 k1024 k119 kc_Bytes_putBoth) rfl rfl rfl (by decide +kernel) ⟨Nat.le_of_ble_eq_true rfl, Nat.le_of_ble_eq_true rfl⟩) ⟨fun a U g mk q => by obtain ⟨q0, q1, qP, qK, qN, qD⟩ := q; exact ⟨q0, q1, qP, va_K.moved (u := U) (U := U.calling g mk a) (Vm.Alike.refl U.vm) qK, qN.calling, qD⟩, va_recv hK hP (ci := 1) (q0 := 2) rfl rfl, fun U hU hW => ⟨rfl, by rw [hU], by rw [hU]; exact hPc, va_K.moved hW.alike hK, NN.warm hW hN, hDc.weaken (fun _ _ _ _ => trivial)⟩⟩ rfl rfl hl.1 rfl (lv_room (Nat.le_of_ble_eq_true rfl)) d_SystemUse_addOwnership_63 ⟨hkc, hks⟩) hS (fun q _ h => hFc q h) hFc (fun u t H1 locs ht hvm hp_r20 hB hz1 hk1 hS => ?_)
  obtain ⟨g_21, rfl⟩ : ∃ z, z = u := ⟨_, rfl⟩
  obtain ⟨hP1, hD1⟩ := hB
  rw [ht] at hP1
  obtain ⟨hP, hD⟩ := va_join (wr := [(en, .inl (cI, 4, .inl ef)), (u0, .inr (8, [.ref pb, .ref en, .int uc, .int uk]))]) (w1 := [(pb, .inr (1, [.ref pq, .int L2_2])), (pq, .inl (cB, 400, .inl g_21))]) hP hD [2, 3] [0, 1] rfl rfl (by decide +kernel) (by decide +kernel) hk1 hFc hP1 hD1
  clear hPc hDc hFc hP1 hD1 hk1 hz1 hkc hks
  generalize H1 = H at hP hS ⊢
  have hP : va_P D CL [(en, .inl (cI, 4, .inl ef)), (u0, .inr (8, [.ref pb, .ref en, .int uc, .int uk])), (pb, .inr (1, [.ref pq, .int L2_2])), (pq, .inl (cB, 400, .inl g_21))] H := hP
  have hD : va_D A [(en, .inl (cI, 4, .inl ef)), (u0, .inr (8, [.ref pb, .ref en, .int uc, .int uk])), (pb, .inr (1, [.ref pq, .int L2_2])), (pq, .inl (cB, 400, .inl g_21))] := hD
  try dsimp only at hp_r20
  have hw_22 := hp_r20
  refine lv_aload_n hx hb d_SystemUse_addOwnership_66 rfl (lv_at hl 1 rfl) ?_
  refine va_get (D := D) (ci := 8) (v := .ref pb) (C := "DiscMaker$SystemUse") (T := F_SystemUse) (N := 4) hx hb ht9 in_SystemUse hown hK hP 1 rfl rfl 0 (by decide) (ht9 _ k330) (fun _ h9 => h9) rfl d_SystemUse_addOwnership_67 ?_
  refine lv_iload_n hx hb d_SystemUse_addOwnership_70 rfl (lv_at hl 0 rfl) ?_
  refine lv_bipush (v := 28) hx hb d_SystemUse_addOwnership_71 (by decide) ?_
  refine lv_iadd hx hb d_SystemUse_addOwnership_73 ?_
  refine lv_topi (fun v23 e_v23 => ?_)
  have t_v23 : v23.toInt = r1.toInt + 28 := by rw [e_v23]; exact i_add rfl (by decide) (by omega) (by omega)
  refine lv_aload_n hx hb d_SystemUse_addOwnership_74 rfl (lv_at hl 2 rfl) ?_
  have hPR := RO_at hZr hS
  refine va_getN (D := D) (ci := 5) (v := .int gr) (C := "DiscMaker$Node") (T := F_Node) (N := 12) hx hb ht9 in_Node hown hK hPR 0 rfl rfl 9 (by decide) (va_Nw.use rfl (hN _ k205)) (fun _ h9 => h9) rfl d_SystemUse_addOwnership_75 ?_
  refine lv_iconst (v := 4) hx hb d_SystemUse_addOwnership_78 (by decide) ?_
  have hPc := hP.sub (ws' := [(pb, .inr (1, [.ref pq, .int L2_2])), (pq, .inl (cB, 400, .inl g_21))]) [2, 3] rfl
  have hDc := hD.sub (ws' := [(pb, .inr (1, [.ref pq, .int L2_2])), (pq, .inl (cB, 400, .inl g_21))]) [2, 3] (by decide +kernel) rfl
  have hFc := va_free (wc := [(pb, .inr (1, [.ref pq, .int L2_2])), (pq, .inl (cB, 400, .inl g_21))]) hD hS hA [2, 3] rfl
  have hkc : 0 ≤ 0 := by decide
  have hks : 0 ≤ 0 := by decide
  refine va_callv (va_runV (C := "DiscMaker$Bytes") (As := [.int v23, .int gr, .int 4]) (rest := []) ⟨hx, hb, hml, hown, hts⟩ (c3_putBoth4F l D cB cI cJ cZ cN cF H.size pb pq 400 L2_2 g_21 v23 gr (by (try dsimp only); first | assumption | omega | trivial) (by (try dsimp only); first | assumption | omega | trivial) (by (try dsimp only); first | assumption | omega | trivial)) (cwV 3 hts (lg_goodV k1022 k1023 k1024 k119 kc_Bytes_putBoth) rfl rfl rfl (by decide +kernel) ⟨Nat.le_of_ble_eq_true rfl, Nat.le_of_ble_eq_true rfl⟩) ⟨fun a U g mk q => by obtain ⟨q0, q1, qP, qK, qN, qD⟩ := q; exact ⟨q0, q1, qP, va_K.moved (u := U) (U := U.calling g mk a) (Vm.Alike.refl U.vm) qK, qN.calling, qD⟩, va_recv hK hP (ci := 1) (q0 := 2) rfl rfl, fun U hU hW => ⟨rfl, by rw [hU], by rw [hU]; exact hPc, va_K.moved hW.alike hK, NN.warm hW hN, hDc.weaken (fun _ _ _ _ => trivial)⟩⟩ rfl rfl hl.1 rfl (lv_room (Nat.le_of_ble_eq_true rfl)) d_SystemUse_addOwnership_79 ⟨hkc, hks⟩) hS (fun q _ h => hFc q h) hFc (fun u t H1 locs ht hvm hp_r24 hB hz1 hk1 hS => ?_)
  obtain ⟨g_25, rfl⟩ : ∃ z, z = u := ⟨_, rfl⟩
  obtain ⟨hP1, hD1⟩ := hB
  rw [ht] at hP1
  obtain ⟨hP, hD⟩ := va_join (wr := [(en, .inl (cI, 4, .inl ef)), (u0, .inr (8, [.ref pb, .ref en, .int uc, .int uk]))]) (w1 := [(pb, .inr (1, [.ref pq, .int L2_2])), (pq, .inl (cB, 400, .inl g_25))]) hP hD [2, 3] [0, 1] rfl rfl (by decide +kernel) (by decide +kernel) hk1 hFc hP1 hD1
  clear hPc hDc hFc hP1 hD1 hk1 hz1 hkc hks
  generalize H1 = H at hP hS ⊢
  have hP : va_P D CL [(en, .inl (cI, 4, .inl ef)), (u0, .inr (8, [.ref pb, .ref en, .int uc, .int uk])), (pb, .inr (1, [.ref pq, .int L2_2])), (pq, .inl (cB, 400, .inl g_25))] H := hP
  have hD : va_D A [(en, .inl (cI, 4, .inl ef)), (u0, .inr (8, [.ref pb, .ref en, .int uc, .int uk])), (pb, .inr (1, [.ref pq, .int L2_2])), (pq, .inl (cB, 400, .inl g_25))] := hD
  try dsimp only at hp_r24
  have hw_26 := hp_r24
  refine lv_aload_n hx hb d_SystemUse_addOwnership_82 rfl (lv_at hl 1 rfl) ?_
  refine lv_iload_n hx hb d_SystemUse_addOwnership_83 rfl (lv_at hl 0 rfl) ?_
  have hPc := hP.sub (ws' := [(u0, .inr (8, [.ref pb, .ref en, .int uc, .int uk])), (pb, .inr (1, [.ref pq, .int L2_2])), (pq, .inl (cB, 400, .inl g_25)), (en, .inl (cI, 4, .inl ef))]) [1, 2, 3, 0] rfl
  have hDc := hD.sub (ws' := [(u0, .inr (8, [.ref pb, .ref en, .int uc, .int uk])), (pb, .inr (1, [.ref pq, .int L2_2])), (pq, .inl (cB, 400, .inl g_25)), (en, .inl (cI, 4, .inl ef))]) [1, 2, 3, 0] (by decide +kernel) rfl
  have hFc := va_free (wc := [(u0, .inr (8, [.ref pb, .ref en, .int uc, .int uk])), (pb, .inr (1, [.ref pq, .int L2_2])), (pq, .inl (cB, 400, .inl g_25)), (en, .inl (cI, 4, .inl ef))]) hD hS hA [1, 2, 3, 0] rfl
  have hkc : 0 ≤ 0 := by decide
  have hks : 0 ≤ 0 := by decide
  refine va_callv (va_runV (C := "DiscMaker$SystemUse") (As := [.int r1]) (rest := []) ⟨hx, hb, hml, hown, hts⟩ (c3_closeF l D cB cI cJ cZ cN cF H.size u0 pb pq en uc uk L2_2 g_25 ef cs9 r1 (by (try dsimp only); first | assumption | omega | trivial) (by (try dsimp only); first | assumption | omega | trivial) (EnOK_mono hen (by omega)) (hcs) (by (try dsimp only); first | assumption | omega | trivial)) (cwV 1 hts (lg_goodV k922 k924 k11 k122 kc_SystemUse_close) rfl rfl rfl (by decide +kernel) ⟨Nat.le_of_ble_eq_true rfl, Nat.le_of_ble_eq_true rfl⟩) ⟨fun a U g mk q => by obtain ⟨q0, q1, qP, qK, qN, qD⟩ := q; exact ⟨q0, q1, qP, va_K.moved (u := U) (U := U.calling g mk a) (Vm.Alike.refl U.vm) qK, qN.calling, qD⟩, va_recv hK hP (ci := 8) (q0 := 1) rfl rfl, fun U hU hW => ⟨rfl, by rw [hU], by rw [hU]; exact hPc, va_K.moved hW.alike hK, NN.warm hW hN, hDc.weaken (fun _ _ _ _ => trivial)⟩⟩ rfl rfl hl.1 rfl (lv_room (Nat.le_of_ble_eq_true rfl)) d_SystemUse_addOwnership_84 ⟨hkc, hks⟩) hS (fun q _ h => hFc q h) hFc (fun u t H1 locs ht hvm hp_r27 hB hz1 hk1 hS => ?_)
  obtain ⟨uc2_28, g_29, ef2_30⟩ := u
  obtain ⟨hP1, hD1⟩ := hB
  rw [ht] at hP1
  obtain ⟨hP, hD⟩ := va_join (wr := []) (w1 := [(u0, .inr (8, [.ref pb, .ref en, .int uc2_28, .int uk])), (pb, .inr (1, [.ref pq, .int L2_2])), (pq, .inl (cB, 400, .inl g_29)), (en, .inl (cI, 4, .inl ef2_30))]) hP hD [1, 2, 3, 0] [] rfl rfl (by decide +kernel) (by decide +kernel) hk1 hFc hP1 hD1
  clear hPc hDc hFc hP1 hD1 hk1 hz1 hkc hks
  generalize H1 = H at hP hS ⊢
  have hP : va_P D CL [(u0, .inr (8, [.ref pb, .ref en, .int uc2_28, .int uk])), (pb, .inr (1, [.ref pq, .int L2_2])), (pq, .inl (cB, 400, .inl g_29)), (en, .inl (cI, 4, .inl ef2_30))] H := hP
  have hD : va_D A [(u0, .inr (8, [.ref pb, .ref en, .int uc2_28, .int uk])), (pb, .inr (1, [.ref pq, .int L2_2])), (pq, .inl (cB, 400, .inl g_29)), (en, .inl (cI, 4, .inl ef2_30))] := hD
  try dsimp only at hp_r27
  obtain ⟨huc2_31, hen2_32, hcs2_33, hw_34⟩ := hp_r27
  have hm9 : v11 = mdW so mo := by rw [e_v11, hv_9, e_v10]; rfl
  have hP9 := hP.sub (ws' := [(u0, .inr (8, [.ref pb, .ref en, .int uc2_28, .int uk])), (pb, .inr (1, [.ref pq, .int L2_2])), (pq, .inl (cB, 400, .inl g_29)), (en, .inl (cI, 4, .inl ef2_30))]) [0, 1, 2, 3] rfl
  have hD9 := hD.sub (ws' := [(u0, .inr (8, [.ref pb, .ref en, .int uc2_28, .int uk])), (pb, .inr (1, [.ref pq, .int L2_2])), (pq, .inl (cB, 400, .inl g_29)), (en, .inl (cI, 4, .inl ef2_30))]) [0, 1, 2, 3] (by decide +kernel) rfl
  exact W.vret hx hb hr (fun t ht hW => ⟨⟨(uc2_28, L2_2, g_29, ef2_30), rfl, ⟨(by (try dsimp only); first | assumption | omega | trivial), (by (try dsimp only); first | assumption | omega | trivial), hen2_32, hcs2_33, (by (try dsimp only); rw [← hm9]; exact px_of hw_6 hw_14 hw_18 hw_22 hw_26 hw_34 (by omega) (by omega) (by omega) (by omega) (by omega) (by omega))⟩, by rw [ht]; exact hP9, hD9⟩, hS.F ht⟩) hS.2.2 d_SystemUse_addOwnership_87

set_option maxHeartbeats 4000000 in
set_option maxRecDepth 100000 in
theorem c3_addNameF (l : Launch) (D : va_G) (cB cI cJ cZ cN cF : ClassId) (sz : Nat) (u0 : Nat) (pb : Nat) (pq : Nat) (en : Nat) (uc : Int32) (uk : Int32) (pL : Int32) (pf : Nat → Int32) (ef : Nat → Int32) (cs9 : List Int) (tt : Nat) (nt : Nat) (gv : Nat → Int32) (hPL : 0 ≤ pL.toInt ∧ pL.toInt ≤ 400) (huc : 0 ≤ uc.toInt ∧ uc.toInt ≤ 4) (hen : EnOK uc.toInt pL.toInt ef) (hcs : EnL uc.toInt ef cs9) (hnt : nt ≤ 200) (hcap : pL.toInt + (5 + nt) ≤ 400) : Met l y_SystemUse_addName w_SystemUse_addName ({ frames := 2, cells := 0, slots := 0, locals := 58 }) (va_Pc [.ref u0, .ref tt] (fun U => U.heap.size = sz ∧ va_P D CL [(u0, .inr (8, [.ref pb, .ref en, .int uc, .int uk])), (pb, .inr (1, [.ref pq, .int pL])), (pq, .inl (cB, 400, .inl pf)), (en, .inl (cI, 4, .inl ef))] U.heap ∧ va_K D CL (TY cB cI cJ cZ cN cF) U ∧ NN U ∧ va_D (fun _ => True) [(u0, .inr (8, [.ref pb, .ref en, .int uc, .int uk])), (pb, .inr (1, [.ref pq, .int pL])), (pq, .inl (cB, 400, .inl pf)), (en, .inl (cI, 4, .inl ef))] ∧ RO D [(tt, .inl (cB, nt, .inl gv))] (va_A [(u0, .inr (8, [.ref pb, .ref en, .int uc, .int uk])), (pb, .inr (1, [.ref pq, .int pL])), (pq, .inl (cB, 400, .inl pf)), (en, .inl (cI, 4, .inl ef))] sz) U U.heap)) (va_Qv (fun (u : Int32 × Int32 × (Nat → Int32) × (Nat → Int32)) => match u with | (uc2, L2, g, ef2) => (L2.toInt = pL.toInt + (5 + nt)) ∧ (0 ≤ uc2.toInt ∧ uc2.toInt ≤ 4) ∧ (EnOK uc2.toInt L2.toInt ef2) ∧ (uc.toInt < 4 → EnL uc2.toInt ef2 (cs9 ++ [L2.toInt])) ∧ (BL (imC pf) (imC g) pL.toInt ([78, 77, (5 + (nt : Int)) % 256, 1, 0] ++ byL gv 0 nt))) (fun (u : Int32 × Int32 × (Nat → Int32) × (Nat → Int32)) (t : State) => match u with | (uc2, L2, g, ef2) => va_P D CL [(u0, .inr (8, [.ref pb, .ref en, .int uc2, .int uk])), (pb, .inr (1, [.ref pq, .int L2])), (pq, .inl (cB, 400, .inl g)), (en, .inl (cI, 4, .inl ef2))] t.heap ∧ va_D (va_A [(u0, .inr (8, [.ref pb, .ref en, .int uc, .int uk])), (pb, .inr (1, [.ref pq, .int pL])), (pq, .inl (cB, 400, .inl pf)), (en, .inl (cI, 4, .inl ef))] sz) [(u0, .inr (8, [.ref pb, .ref en, .int uc2, .int uk])), (pb, .inr (1, [.ref pq, .int L2])), (pq, .inl (cB, 400, .inl g)), (en, .inl (cI, 4, .inl ef2))]) (va_A [(u0, .inr (8, [.ref pb, .ref en, .int uc, .int uk])), (pb, .inr (1, [.ref pq, .int pL])), (pq, .inl (cB, 400, .inl pf)), (en, .inl (cI, 4, .inl ef))] sz)) 0 0 (va_A [(u0, .inr (8, [.ref pb, .ref en, .int uc, .int uk])), (pb, .inr (1, [.ref pq, .int pL])), (pq, .inl (cB, 400, .inl pf)), (en, .inl (cI, 4, .inl ef))] sz) := by
  refine Met.ofW (cc := b_SystemUse_addName) (maxL := 3) (ret := none) (by decide +kernel) rfl ?_
  intro p e s m args below meth c s₁ B hml hv
  obtain ⟨rfl, hsz, hP, hK, hN, hD0, hZr⟩ := hv
  have hx := B.exec
  have hb := B.bytes
  have hr := B.returns
  have hts := atoms_spec (ws := w_SystemUse_addName) B.pre
  have ht9 := fun (w : Cond) (h : w ∈ lw_g) => hts w (List.mem_cons_of_mem _ h)
  have hown : s.vm.findClass "DiscMaker$SystemUse" = some m.cls := findClass_of_methodNamed B.named
  have hlocks := B.notSynchronized
  subst hsz
  have hD := hD0.self (sz := s.heap.size)
  generalize hAe : va_A [(u0, .inr (8, [.ref pb, .ref en, .int uc, .int uk])), (pb, .inr (1, [.ref pq, .int pL])), (pq, .inl (cB, 400, .inl pf)), (en, .inl (cI, 4, .inl ef))] s.heap.size = A at hD hZr ⊢
  have hA : ∀ q : Nat, s.heap.size ≤ q → A q := fun q h => by rw [← hAe]; exact Or.inr h
  have hS : va_S A s.heap s.heap [] := va_S.rf
  have hP : va_P D CL [(u0, .inr (8, [.ref pb, .ref en, .int uc, .int uk])), (pb, .inr (1, [.ref pq, .int pL])), (pq, .inl (cB, 400, .inl pf)), (en, .inl (cI, 4, .inl ef))] s.heap := hP
  have hl := lv_entry [.ref u0, .ref tt] (n := 3) (Nat.le_of_ble_eq_true rfl)
  rw [lg_entry_eq]
  generalize (lg_sl [.ref u0, .ref tt] ++ List.replicate (3 - (lg_sl [.ref u0, .ref tt]).length) Slot.unset).toArray = ls at hl ⊢
  have hl : lv_has ls 3 [(0, .ref u0), (1, .ref tt)] := hl
  have L_m1 : ((-1) : Int32).toInt = (-1) := by decide
  have L_0 : (0 : Int32).toInt = 0 := by decide
  have L_1 : (1 : Int32).toInt = 1 := by decide
  have L_5 : (5 : Int32).toInt = 5 := by decide
  have L_20045 : (20045 : Int32).toInt = 20045 := by decide
  refine lv_aload_n hx hb d_SystemUse_addName_0 rfl (lv_at hl 0 rfl) ?_
  refine lv_sipush (v := 20045) hx hb d_SystemUse_addName_1 (by decide) ?_
  refine lv_iconst (v := 5) hx hb d_SystemUse_addName_4 (by decide) ?_
  refine lv_aload_n hx hb d_SystemUse_addName_5 rfl (lv_at hl 1 rfl) ?_
  have hPR := RO_at hZr hS
  refine va_alen (v := nI nt) hx hb hK hPR 0 0 rfl rfl rfl d_SystemUse_addName_6 ?_
  refine lv_topi (fun v1 e_v1 => ?_)
  have t_v1 : v1.toInt = nt := by rw [e_v1]; exact nI_toInt (by omega)
  refine lv_iadd hx hb d_SystemUse_addName_7 ?_
  refine lv_topi (fun v2 e_v2 => ?_)
  have t_v2 : v2.toInt = 5 + v1.toInt := by rw [e_v2]; exact i_add (by decide) rfl (by omega) (by omega)
  have hPc := hP.sub (ws' := [(u0, .inr (8, [.ref pb, .ref en, .int uc, .int uk])), (pb, .inr (1, [.ref pq, .int pL])), (pq, .inl (cB, 400, .inl pf))]) [0, 1, 2] rfl
  have hDc := hD.sub (ws' := [(u0, .inr (8, [.ref pb, .ref en, .int uc, .int uk])), (pb, .inr (1, [.ref pq, .int pL])), (pq, .inl (cB, 400, .inl pf))]) [0, 1, 2] (by decide +kernel) rfl
  have hFc := va_free (wc := [(u0, .inr (8, [.ref pb, .ref en, .int uc, .int uk])), (pb, .inr (1, [.ref pq, .int pL])), (pq, .inl (cB, 400, .inl pf))]) hD hS hA [0, 1, 2] rfl
  have hkc : 0 ≤ 0 := by decide
  have hks : 0 ≤ 0 := by decide
  refine va_calli (va_runV (C := "DiscMaker$SystemUse") (As := [.int 20045, .int v2]) (rest := []) ⟨hx, hb, hml, hown, hts⟩ (c3_use_openF l D cB cI cJ cZ cN cF s.heap.size u0 pb pq en uc uk pL pf 78 77 20045 v2 (by (try dsimp only); first | assumption | omega | trivial) (by (try dsimp only); first | assumption | omega | trivial) ((by omega))) (cwV 2 hts (lg_goodV k903 k905 k9 k122 kc_SystemUse_open) rfl rfl rfl (by decide +kernel) ⟨Nat.le_of_ble_eq_true rfl, Nat.le_of_ble_eq_true rfl⟩) ⟨fun a U g mk q => by obtain ⟨q0, q1, qP, qK, qN, qD⟩ := q; exact ⟨q0, q1, qP, va_K.moved (u := U) (U := U.calling g mk a) (Vm.Alike.refl U.vm) qK, qN.calling, qD⟩, va_recv hK hP (ci := 8) (q0 := 0) rfl rfl, fun U hU hW => ⟨rfl, by rw [hU], by rw [hU]; exact hPc, va_K.moved hW.alike hK, NN.warm hW hN, hDc.weaken (fun _ _ _ _ => trivial)⟩⟩ rfl rfl hl.1 rfl (lv_room (Nat.le_of_ble_eq_true rfl)) d_SystemUse_addName_8 ⟨hkc, hks⟩) hS (fun q _ h => hFc q h) hFc (fun r3 u t H1 locs ht hvm hp_r3 hB hz1 hk1 hS => ?_)
  obtain ⟨L2_4, g_5⟩ := u
  obtain ⟨hP1, hD1⟩ := hB
  rw [ht] at hP1
  obtain ⟨hP, hD⟩ := va_join (wr := [(en, .inl (cI, 4, .inl ef))]) (w1 := [(u0, .inr (8, [.ref pb, .ref en, .int uc, .int uk])), (pb, .inr (1, [.ref pq, .int L2_4])), (pq, .inl (cB, 400, .inl g_5))]) hP hD [0, 1, 2] [3] rfl rfl (by decide +kernel) (by decide +kernel) hk1 hFc hP1 hD1
  clear hPc hDc hFc hP1 hD1 hk1 hz1 hkc hks
  generalize H1 = H at hP hS ⊢
  have hP : va_P D CL [(en, .inl (cI, 4, .inl ef)), (u0, .inr (8, [.ref pb, .ref en, .int uc, .int uk])), (pb, .inr (1, [.ref pq, .int L2_4])), (pq, .inl (cB, 400, .inl g_5))] H := hP
  have hD : va_D A [(en, .inl (cI, 4, .inl ef)), (u0, .inr (8, [.ref pb, .ref en, .int uc, .int uk])), (pb, .inr (1, [.ref pq, .int L2_4])), (pq, .inl (cB, 400, .inl g_5))] := hD
  try dsimp only at hp_r3
  obtain ⟨hr_6, hE_7, hw_8⟩ := hp_r3
  refine lv_istore_n hx hb d_SystemUse_addName_11 rfl hl (by decide) rfl (fun ls hl => ?_)
  have hl : lv_has ls 3 [(2, .int r3), (0, .ref u0), (1, .ref tt)] := hl
  refine lv_aload_n hx hb d_SystemUse_addName_12 rfl (lv_at hl 1 rfl) ?_
  refine va_get (D := D) (ci := 8) (v := .ref pb) (C := "DiscMaker$SystemUse") (T := F_SystemUse) (N := 4) hx hb ht9 in_SystemUse hown hK hP 1 rfl rfl 0 (by decide) (ht9 _ k330) (fun _ h9 => h9) rfl d_SystemUse_addName_13 ?_
  refine lv_iload_n hx hb d_SystemUse_addName_16 rfl (lv_at hl 0 rfl) ?_
  refine lv_iconst (v := 5) hx hb d_SystemUse_addName_17 (by decide) ?_
  refine lv_iadd hx hb d_SystemUse_addName_18 ?_
  refine lv_topi (fun v9 e_v9 => ?_)
  have t_v9 : v9.toInt = r3.toInt + 5 := by rw [e_v9]; exact i_add rfl (by decide) (by omega) (by omega)
  refine lv_aload_n hx hb d_SystemUse_addName_19 rfl (lv_at hl 2 rfl) ?_
  have hPc := hP.sub (ws' := [(pb, .inr (1, [.ref pq, .int L2_4])), (pq, .inl (cB, 400, .inl g_5))]) [2, 3] rfl
  have hDc := hD.sub (ws' := [(pb, .inr (1, [.ref pq, .int L2_4])), (pq, .inl (cB, 400, .inl g_5))]) [2, 3] (by decide +kernel) rfl
  have hFc := va_free (wc := [(pb, .inr (1, [.ref pq, .int L2_4])), (pq, .inl (cB, 400, .inl g_5))]) hD hS hA [2, 3] rfl
  have hkc : 0 ≤ 0 := by decide
  have hks : 0 ≤ 0 := by decide
  refine va_callv (va_runV (C := "DiscMaker$Bytes") (As := [.int v9, .ref tt]) (rest := []) ⟨hx, hb, hml, hown, hts⟩ (c3_putRowF l D cB cI cJ cZ cN cF H.size pb pq 400 L2_4 g_5 tt nt gv v9 (by (try dsimp only); first | assumption | omega | trivial) (by (try dsimp only); first | assumption | omega | trivial) (by (try dsimp only); first | assumption | omega | trivial) (by (try dsimp only); first | assumption | omega | trivial)) (cwV 2 hts (lg_goodV k1030 k1031 k1032 k119 kc_Bytes_putRow) rfl rfl rfl (by decide +kernel) ⟨Nat.le_of_ble_eq_true rfl, Nat.le_of_ble_eq_true rfl⟩) ⟨fun a U g mk q => by obtain ⟨q0, q1, qP, qK, qN, qD, qZ0⟩ := q; exact ⟨q0, q1, qP, va_K.moved (u := U) (U := U.calling g mk a) (Vm.Alike.refl U.vm) qK, qN.calling, qD, RO_blind qZ0⟩, va_recv hK hP (ci := 1) (q0 := 2) rfl rfl, fun U hU hW => ⟨rfl, by rw [hU], by rw [hU]; exact hPc, va_K.moved hW.alike hK, NN.warm hW hN, hDc.weaken (fun _ _ _ _ => trivial), (RO_pass (RO_one hZr 0 rfl) hS hFc hU)⟩⟩ rfl rfl hl.1 rfl (lv_room (Nat.le_of_ble_eq_true rfl)) d_SystemUse_addName_20 ⟨hkc, hks⟩) hS (fun q _ h => hFc q h) hFc (fun u t H1 locs ht hvm hp_r10 hB hz1 hk1 hS => ?_)
  obtain ⟨g_11, rfl⟩ : ∃ z, z = u := ⟨_, rfl⟩
  obtain ⟨hP1, hD1⟩ := hB
  rw [ht] at hP1
  obtain ⟨hP, hD⟩ := va_join (wr := [(en, .inl (cI, 4, .inl ef)), (u0, .inr (8, [.ref pb, .ref en, .int uc, .int uk]))]) (w1 := [(pb, .inr (1, [.ref pq, .int L2_4])), (pq, .inl (cB, 400, .inl g_11))]) hP hD [2, 3] [0, 1] rfl rfl (by decide +kernel) (by decide +kernel) hk1 hFc hP1 hD1
  clear hPc hDc hFc hP1 hD1 hk1 hz1 hkc hks
  generalize H1 = H at hP hS ⊢
  have hP : va_P D CL [(en, .inl (cI, 4, .inl ef)), (u0, .inr (8, [.ref pb, .ref en, .int uc, .int uk])), (pb, .inr (1, [.ref pq, .int L2_4])), (pq, .inl (cB, 400, .inl g_11))] H := hP
  have hD : va_D A [(en, .inl (cI, 4, .inl ef)), (u0, .inr (8, [.ref pb, .ref en, .int uc, .int uk])), (pb, .inr (1, [.ref pq, .int L2_4])), (pq, .inl (cB, 400, .inl g_11))] := hD
  try dsimp only at hp_r10
  have hw_12 := hp_r10
  refine lv_aload_n hx hb d_SystemUse_addName_23 rfl (lv_at hl 1 rfl) ?_
  refine lv_iload_n hx hb d_SystemUse_addName_24 rfl (lv_at hl 0 rfl) ?_
  have hPc := hP.sub (ws' := [(u0, .inr (8, [.ref pb, .ref en, .int uc, .int uk])), (pb, .inr (1, [.ref pq, .int L2_4])), (pq, .inl (cB, 400, .inl g_11)), (en, .inl (cI, 4, .inl ef))]) [1, 2, 3, 0] rfl
  have hDc := hD.sub (ws' := [(u0, .inr (8, [.ref pb, .ref en, .int uc, .int uk])), (pb, .inr (1, [.ref pq, .int L2_4])), (pq, .inl (cB, 400, .inl g_11)), (en, .inl (cI, 4, .inl ef))]) [1, 2, 3, 0] (by decide +kernel) rfl
  have hFc := va_free (wc := [(u0, .inr (8, [.ref pb, .ref en, .int uc, .int uk])), (pb, .inr (1, [.ref pq, .int L2_4])), (pq, .inl (cB, 400, .inl g_11)), (en, .inl (cI, 4, .inl ef))]) hD hS hA [1, 2, 3, 0] rfl
  have hkc : 0 ≤ 0 := by decide
  have hks : 0 ≤ 0 := by decide
  refine va_callv (va_runV (C := "DiscMaker$SystemUse") (As := [.int r3]) (rest := []) ⟨hx, hb, hml, hown, hts⟩ (c3_closeF l D cB cI cJ cZ cN cF H.size u0 pb pq en uc uk L2_4 g_11 ef cs9 r3 (by (try dsimp only); first | assumption | omega | trivial) (by (try dsimp only); first | assumption | omega | trivial) (EnOK_mono hen (by omega)) (hcs) (by (try dsimp only); first | assumption | omega | trivial)) (cwV 1 hts (lg_goodV k922 k924 k11 k122 kc_SystemUse_close) rfl rfl rfl (by decide +kernel) ⟨Nat.le_of_ble_eq_true rfl, Nat.le_of_ble_eq_true rfl⟩) ⟨fun a U g mk q => by obtain ⟨q0, q1, qP, qK, qN, qD⟩ := q; exact ⟨q0, q1, qP, va_K.moved (u := U) (U := U.calling g mk a) (Vm.Alike.refl U.vm) qK, qN.calling, qD⟩, va_recv hK hP (ci := 8) (q0 := 1) rfl rfl, fun U hU hW => ⟨rfl, by rw [hU], by rw [hU]; exact hPc, va_K.moved hW.alike hK, NN.warm hW hN, hDc.weaken (fun _ _ _ _ => trivial)⟩⟩ rfl rfl hl.1 rfl (lv_room (Nat.le_of_ble_eq_true rfl)) d_SystemUse_addName_25 ⟨hkc, hks⟩) hS (fun q _ h => hFc q h) hFc (fun u t H1 locs ht hvm hp_r13 hB hz1 hk1 hS => ?_)
  obtain ⟨uc2_14, g_15, ef2_16⟩ := u
  obtain ⟨hP1, hD1⟩ := hB
  rw [ht] at hP1
  obtain ⟨hP, hD⟩ := va_join (wr := []) (w1 := [(u0, .inr (8, [.ref pb, .ref en, .int uc2_14, .int uk])), (pb, .inr (1, [.ref pq, .int L2_4])), (pq, .inl (cB, 400, .inl g_15)), (en, .inl (cI, 4, .inl ef2_16))]) hP hD [1, 2, 3, 0] [] rfl rfl (by decide +kernel) (by decide +kernel) hk1 hFc hP1 hD1
  clear hPc hDc hFc hP1 hD1 hk1 hz1 hkc hks
  generalize H1 = H at hP hS ⊢
  have hP : va_P D CL [(u0, .inr (8, [.ref pb, .ref en, .int uc2_14, .int uk])), (pb, .inr (1, [.ref pq, .int L2_4])), (pq, .inl (cB, 400, .inl g_15)), (en, .inl (cI, 4, .inl ef2_16))] H := hP
  have hD : va_D A [(u0, .inr (8, [.ref pb, .ref en, .int uc2_14, .int uk])), (pb, .inr (1, [.ref pq, .int L2_4])), (pq, .inl (cB, 400, .inl g_15)), (en, .inl (cI, 4, .inl ef2_16))] := hD
  try dsimp only at hp_r13
  obtain ⟨huc2_17, hen2_18, hcs2_19, hw_20⟩ := hp_r13
  have ho9 := hw_8
  rw [show v2.toInt.toNat = 5 + nt by omega] at ho9
  have hp9 := hw_12
  rw [byL_0] at hp9
  have hP9 := hP.sub (ws' := [(u0, .inr (8, [.ref pb, .ref en, .int uc2_14, .int uk])), (pb, .inr (1, [.ref pq, .int L2_4])), (pq, .inl (cB, 400, .inl g_15)), (en, .inl (cI, 4, .inl ef2_16))]) [0, 1, 2, 3] rfl
  have hD9 := hD.sub (ws' := [(u0, .inr (8, [.ref pb, .ref en, .int uc2_14, .int uk])), (pb, .inr (1, [.ref pq, .int L2_4])), (pq, .inl (cB, 400, .inl g_15)), (en, .inl (cI, 4, .inl ef2_16))]) [0, 1, 2, 3] (by decide +kernel) rfl
  exact W.vret hx hb hr (fun t ht hW => ⟨⟨(uc2_14, L2_4, g_15, ef2_16), rfl, ⟨(by (try dsimp only); first | assumption | omega | trivial), (by (try dsimp only); first | assumption | omega | trivial), hen2_18, hcs2_19, (nm_of ho9 hp9 hw_20 (byL_len _ _ _) (by omega) (by omega) (by omega))⟩, by rw [ht]; exact hP9, hD9⟩, hS.F ht⟩) hS.2.2 d_SystemUse_addName_28

set_option maxHeartbeats 4000000 in
set_option maxRecDepth 100000 in
theorem c3_addComponentF (l : Launch) (D : va_G) (cB cI cJ cZ cN cF : ClassId) (sz : Nat) (u0 : Nat) (pb : Nat) (pq : Nat) (en : Nat) (uc : Int32) (uk : Int32) (pL : Int32) (pf : Nat → Int32) (tt : Nat) (nt : Nat) (gv : Nat → Int32) (x : Int32) (y : Int32) (z : Int32) (hPL : 0 ≤ pL.toInt ∧ pL.toInt + 2 + (z.toInt - y.toInt) ≤ 400) (hnt : nt ≤ 200) (hy : 0 ≤ y.toInt ∧ y.toInt ≤ z.toInt ∧ z.toInt ≤ nt) : Met l y_SystemUse_addComponent w_SystemUse_addComponent ({ frames := 1, cells := 0, slots := 0, locals := 29 }) (va_Pc [.ref u0, .ref tt, .int x, .int y, .int z] (fun U => U.heap.size = sz ∧ va_P D CL [(u0, .inr (8, [.ref pb, .ref en, .int uc, .int uk])), (pb, .inr (1, [.ref pq, .int pL])), (pq, .inl (cB, 400, .inl pf))] U.heap ∧ va_K D CL (TY cB cI cJ cZ cN cF) U ∧ NN U ∧ va_D (fun _ => True) [(u0, .inr (8, [.ref pb, .ref en, .int uc, .int uk])), (pb, .inr (1, [.ref pq, .int pL])), (pq, .inl (cB, 400, .inl pf))] ∧ RO D [(tt, .inl (cB, nt, .inl gv))] (va_A [(u0, .inr (8, [.ref pb, .ref en, .int uc, .int uk])), (pb, .inr (1, [.ref pq, .int pL])), (pq, .inl (cB, 400, .inl pf))] sz) U U.heap)) (va_Qv (fun (u : Int32 × (Nat → Int32)) => match u with | (L2, g) => ((x.toInt = 0 ∧ L2.toInt = pL.toInt + 2 + (z.toInt - y.toInt)) ∨ (x.toInt ≠ 0 ∧ L2.toInt = pL.toInt + 2)) ∧ (BL (imC pf) (imC g) pL.toInt (cmX x.toInt gv y.toNatClampNeg z.toNatClampNeg))) (fun (u : Int32 × (Nat → Int32)) (t : State) => match u with | (L2, g) => va_P D CL [(u0, .inr (8, [.ref pb, .ref en, .int uc, .int uk])), (pb, .inr (1, [.ref pq, .int L2])), (pq, .inl (cB, 400, .inl g))] t.heap ∧ va_D (va_A [(u0, .inr (8, [.ref pb, .ref en, .int uc, .int uk])), (pb, .inr (1, [.ref pq, .int pL])), (pq, .inl (cB, 400, .inl pf))] sz) [(u0, .inr (8, [.ref pb, .ref en, .int uc, .int uk])), (pb, .inr (1, [.ref pq, .int L2])), (pq, .inl (cB, 400, .inl g))]) (va_A [(u0, .inr (8, [.ref pb, .ref en, .int uc, .int uk])), (pb, .inr (1, [.ref pq, .int pL])), (pq, .inl (cB, 400, .inl pf))] sz)) 0 0 (va_A [(u0, .inr (8, [.ref pb, .ref en, .int uc, .int uk])), (pb, .inr (1, [.ref pq, .int pL])), (pq, .inl (cB, 400, .inl pf))] sz) := by
  refine Met.ofW (cc := b_SystemUse_addComponent) (maxL := 8) (ret := none) (by decide +kernel) rfl ?_
  intro p e s m args below meth c s₁ B hml hv
  obtain ⟨rfl, hsz, hP, hK, hN, hD0, hZr⟩ := hv
  have hx := B.exec
  have hb := B.bytes
  have hr := B.returns
  have hts := atoms_spec (ws := w_SystemUse_addComponent) B.pre
  have ht9 := fun (w : Cond) (h : w ∈ lw_g) => hts w (List.mem_cons_of_mem _ h)
  have hown : s.vm.findClass "DiscMaker$SystemUse" = some m.cls := findClass_of_methodNamed B.named
  have hlocks := B.notSynchronized
  subst hsz
  have hD := hD0.self (sz := s.heap.size)
  generalize hAe : va_A [(u0, .inr (8, [.ref pb, .ref en, .int uc, .int uk])), (pb, .inr (1, [.ref pq, .int pL])), (pq, .inl (cB, 400, .inl pf))] s.heap.size = A at hD hZr ⊢
  have hA : ∀ q : Nat, s.heap.size ≤ q → A q := fun q h => by rw [← hAe]; exact Or.inr h
  have hS : va_S A s.heap s.heap [] := va_S.rf
  have hP : va_P D CL [(u0, .inr (8, [.ref pb, .ref en, .int uc, .int uk])), (pb, .inr (1, [.ref pq, .int pL])), (pq, .inl (cB, 400, .inl pf))] s.heap := hP
  have hl := lv_entry [.ref u0, .ref tt, .int x, .int y, .int z] (n := 8) (Nat.le_of_ble_eq_true rfl)
  rw [lg_entry_eq]
  generalize (lg_sl [.ref u0, .ref tt, .int x, .int y, .int z] ++ List.replicate (8 - (lg_sl [.ref u0, .ref tt, .int x, .int y, .int z]).length) Slot.unset).toArray = ls at hl ⊢
  have hl : lv_has ls 8 [(0, .ref u0), (1, .ref tt), (2, .int x), (3, .int y), (4, .int z)] := hl
  have L_m1 : ((-1) : Int32).toInt = (-1) := by decide
  have L_0 : (0 : Int32).toInt = 0 := by decide
  have L_1 : (1 : Int32).toInt = 1 := by decide
  have L_2 : (2 : Int32).toInt = 2 := by decide
  refine zz_labM (B := fun (lk : Nat) (K : Heap → List Loc → Array Slot → List Value → Prop) => ∀ (by9 : Int32) (H : Heap) (locs : List Loc) (ls : Array Slot), lk = 0 → (0 ≤ by9.toInt ∧ by9.toInt ≤ z.toInt - y.toInt) → ((x.toInt = 0 ∧ by9.toInt = z.toInt - y.toInt) ∨ (x.toInt ≠ 0 ∧ by9.toInt = 0)) → va_P D CL [(u0, .inr (8, [.ref pb, .ref en, .int uc, .int uk])), (pb, .inr (1, [.ref pq, .int pL])), (pq, .inl (cB, 400, .inl pf))] H → va_D A [(u0, .inr (8, [.ref pb, .ref en, .int uc, .int uk])), (pb, .inr (1, [.ref pq, .int pL])), (pq, .inl (cB, 400, .inl pf))] → va_S A s.heap H locs → lv_has ls 8 [(0, .ref u0), (1, .ref tt), (2, .int x), (3, .int y), (4, .int z)] → K H locs ls [.int by9]) 12 ?_ ?_
  · skip
    intro lk ih12 by9 H locs ls hm12 e1 e9 hP hD hS hl
    refine lv_istore hx hb d_SystemUse_addComponent_12 hl (by decide) rfl (fun ls hl => ?_)
    have hl : lv_has ls 8 [(5, .int by9), (0, .ref u0), (1, .ref tt), (2, .int x), (3, .int y), (4, .int z)] := hl
    refine lv_aload_n hx hb d_SystemUse_addComponent_14 rfl (lv_at hl 1 rfl) ?_
    refine va_get (D := D) (ci := 8) (v := .ref pb) (C := "DiscMaker$SystemUse") (T := F_SystemUse) (N := 4) hx hb ht9 in_SystemUse hown hK hP 0 rfl rfl 0 (by decide) (ht9 _ k330) (fun _ h9 => h9) rfl d_SystemUse_addComponent_15 ?_
    refine lv_iconst (v := 2) hx hb d_SystemUse_addComponent_18 (by decide) ?_
    refine lv_iload hx hb d_SystemUse_addComponent_19 (lv_at hl 0 rfl) ?_
    refine lv_iadd hx hb d_SystemUse_addComponent_21 ?_
    refine lv_topi (fun v1 e_v1 => ?_)
    have t_v1 : v1.toInt = 2 + by9.toInt := by rw [e_v1]; exact i_add (by decide) rfl (by omega) (by omega)
    have hPc := hP.sub (ws' := [(pb, .inr (1, [.ref pq, .int pL])), (pq, .inl (cB, 400, .inl pf))]) [1, 2] rfl
    have hDc := hD.sub (ws' := [(pb, .inr (1, [.ref pq, .int pL])), (pq, .inl (cB, 400, .inl pf))]) [1, 2] (by decide +kernel) rfl
    have hFc := va_free (wc := [(pb, .inr (1, [.ref pq, .int pL])), (pq, .inl (cB, 400, .inl pf))]) hD hS hA [1, 2] rfl
    have hkc : 0 ≤ 0 := by decide
    have hks : 0 ≤ 0 := by decide
    refine va_calli (va_runV (C := "DiscMaker$Bytes") (As := [.int v1]) (rest := []) ⟨hx, hb, hml, hown, hts⟩ (c3_extendF l D cB cI cJ cZ cN cF H.size pb pq 400 pL pf v1 (by (try dsimp only); first | assumption | omega | trivial) (by (try dsimp only); first | assumption | omega | trivial) (by (try dsimp only); first | assumption | omega | trivial)) (cwV 1 hts (lg_goodV k907 k908 k909 k119 kc_Bytes_extend) rfl rfl rfl (by decide +kernel) ⟨Nat.le_of_ble_eq_true rfl, Nat.le_of_ble_eq_true rfl⟩) ⟨fun a U g mk q => by obtain ⟨q0, q1, qP, qK, qN, qD⟩ := q; exact ⟨q0, q1, qP, va_K.moved (u := U) (U := U.calling g mk a) (Vm.Alike.refl U.vm) qK, qN.calling, qD⟩, va_recv hK hP (ci := 1) (q0 := 1) rfl rfl, fun U hU hW => ⟨rfl, by rw [hU], by rw [hU]; exact hPc, va_K.moved hW.alike hK, NN.warm hW hN, hDc.weaken (fun _ _ _ _ => trivial)⟩⟩ rfl rfl hl.1 rfl (lv_room (Nat.le_of_ble_eq_true rfl)) d_SystemUse_addComponent_22 ⟨hkc, hks⟩) hS (fun q _ h => hFc q h) hFc (fun r2 u t H1 locs ht hvm hp_r2 hB hz1 hk1 hS => ?_)
    obtain ⟨L2_3, g_4⟩ := u
    obtain ⟨hP1, hD1⟩ := hB
    rw [ht] at hP1
    obtain ⟨hP, hD⟩ := va_join (wr := [(u0, .inr (8, [.ref pb, .ref en, .int uc, .int uk]))]) (w1 := [(pb, .inr (1, [.ref pq, .int L2_3])), (pq, .inl (cB, 400, .inl g_4))]) hP hD [1, 2] [0] rfl rfl (by decide +kernel) (by decide +kernel) hk1 hFc hP1 hD1
    clear hPc hDc hFc hP1 hD1 hk1 hz1 hkc hks
    generalize H1 = H at hP hS ⊢
    have hP : va_P D CL [(u0, .inr (8, [.ref pb, .ref en, .int uc, .int uk])), (pb, .inr (1, [.ref pq, .int L2_3])), (pq, .inl (cB, 400, .inl g_4))] H := hP
    have hD : va_D A [(u0, .inr (8, [.ref pb, .ref en, .int uc, .int uk])), (pb, .inr (1, [.ref pq, .int L2_3])), (pq, .inl (cB, 400, .inl g_4))] := hD
    try dsimp only at hp_r2
    obtain ⟨hv_5, hE_6, hw_7⟩ := hp_r2
    refine lv_istore hx hb d_SystemUse_addComponent_25 hl (by decide) rfl (fun ls hl => ?_)
    have hl : lv_has ls 8 [(6, .int r2), (5, .int by9), (0, .ref u0), (1, .ref tt), (2, .int x), (3, .int y), (4, .int z)] := hl
    refine lv_aload_n hx hb d_SystemUse_addComponent_27 rfl (lv_at hl 2 rfl) ?_
    refine va_get (D := D) (ci := 8) (v := .ref pb) (C := "DiscMaker$SystemUse") (T := F_SystemUse) (N := 4) hx hb ht9 in_SystemUse hown hK hP 0 rfl rfl 0 (by decide) (ht9 _ k330) (fun _ h9 => h9) rfl d_SystemUse_addComponent_28 ?_
    refine lv_iload hx hb d_SystemUse_addComponent_31 (lv_at hl 0 rfl) ?_
    refine lv_iload_n hx hb d_SystemUse_addComponent_33 rfl (lv_at hl 4 rfl) ?_
    have hPc := hP.sub (ws' := [(pb, .inr (1, [.ref pq, .int L2_3])), (pq, .inl (cB, 400, .inl g_4))]) [1, 2] rfl
    have hDc := hD.sub (ws' := [(pb, .inr (1, [.ref pq, .int L2_3])), (pq, .inl (cB, 400, .inl g_4))]) [1, 2] (by decide +kernel) rfl
    have hFc := va_free (wc := [(pb, .inr (1, [.ref pq, .int L2_3])), (pq, .inl (cB, 400, .inl g_4))]) hD hS hA [1, 2] rfl
    have hkc : 0 ≤ 0 := by decide
    have hks : 0 ≤ 0 := by decide
    refine va_callv (va_runV (C := "DiscMaker$Bytes") (As := [.int r2, .int x]) (rest := []) ⟨hx, hb, hml, hown, hts⟩ (c3_putF l D cB cI cJ cZ cN cF H.size pb pq 400 L2_3 g_4 r2 x (by (try dsimp only); first | assumption | omega | trivial) (by (try dsimp only); first | assumption | omega | trivial) (by (try dsimp only); first | assumption | omega | trivial)) (cwV 2 hts (lg_goodV k911 k912 k913 k119 kc_Bytes_put) rfl rfl rfl (by decide +kernel) ⟨Nat.le_of_ble_eq_true rfl, Nat.le_of_ble_eq_true rfl⟩) ⟨fun a U g mk q => by obtain ⟨q0, q1, qP, qK, qN, qD⟩ := q; exact ⟨q0, q1, qP, va_K.moved (u := U) (U := U.calling g mk a) (Vm.Alike.refl U.vm) qK, qN.calling, qD⟩, va_recv hK hP (ci := 1) (q0 := 1) rfl rfl, fun U hU hW => ⟨rfl, by rw [hU], by rw [hU]; exact hPc, va_K.moved hW.alike hK, NN.warm hW hN, hDc.weaken (fun _ _ _ _ => trivial)⟩⟩ rfl rfl hl.1 rfl (lv_room (Nat.le_of_ble_eq_true rfl)) d_SystemUse_addComponent_34 ⟨hkc, hks⟩) hS (fun q _ h => hFc q h) hFc (fun u t H1 locs ht hvm hp_r8 hB hz1 hk1 hS => ?_)
    obtain ⟨g_9, rfl⟩ : ∃ z, z = u := ⟨_, rfl⟩
    obtain ⟨hP1, hD1⟩ := hB
    rw [ht] at hP1
    obtain ⟨hP, hD⟩ := va_join (wr := [(u0, .inr (8, [.ref pb, .ref en, .int uc, .int uk]))]) (w1 := [(pb, .inr (1, [.ref pq, .int L2_3])), (pq, .inl (cB, 400, .inl g_9))]) hP hD [1, 2] [0] rfl rfl (by decide +kernel) (by decide +kernel) hk1 hFc hP1 hD1
    clear hPc hDc hFc hP1 hD1 hk1 hz1 hkc hks
    generalize H1 = H at hP hS ⊢
    have hP : va_P D CL [(u0, .inr (8, [.ref pb, .ref en, .int uc, .int uk])), (pb, .inr (1, [.ref pq, .int L2_3])), (pq, .inl (cB, 400, .inl g_9))] H := hP
    have hD : va_D A [(u0, .inr (8, [.ref pb, .ref en, .int uc, .int uk])), (pb, .inr (1, [.ref pq, .int L2_3])), (pq, .inl (cB, 400, .inl g_9))] := hD
    try dsimp only at hp_r8
    have hw_10 := hp_r8
    refine lv_aload_n hx hb d_SystemUse_addComponent_37 rfl (lv_at hl 2 rfl) ?_
    refine va_get (D := D) (ci := 8) (v := .ref pb) (C := "DiscMaker$SystemUse") (T := F_SystemUse) (N := 4) hx hb ht9 in_SystemUse hown hK hP 0 rfl rfl 0 (by decide) (ht9 _ k330) (fun _ h9 => h9) rfl d_SystemUse_addComponent_38 ?_
    refine lv_iload hx hb d_SystemUse_addComponent_41 (lv_at hl 0 rfl) ?_
    refine lv_iconst (v := 1) hx hb d_SystemUse_addComponent_43 (by decide) ?_
    refine lv_iadd hx hb d_SystemUse_addComponent_44 ?_
    refine lv_topi (fun v11 e_v11 => ?_)
    have t_v11 : v11.toInt = r2.toInt + 1 := by rw [e_v11]; exact i_add rfl (by decide) (by omega) (by omega)
    refine lv_iload hx hb d_SystemUse_addComponent_45 (lv_at hl 1 rfl) ?_
    have hPc := hP.sub (ws' := [(pb, .inr (1, [.ref pq, .int L2_3])), (pq, .inl (cB, 400, .inl g_9))]) [1, 2] rfl
    have hDc := hD.sub (ws' := [(pb, .inr (1, [.ref pq, .int L2_3])), (pq, .inl (cB, 400, .inl g_9))]) [1, 2] (by decide +kernel) rfl
    have hFc := va_free (wc := [(pb, .inr (1, [.ref pq, .int L2_3])), (pq, .inl (cB, 400, .inl g_9))]) hD hS hA [1, 2] rfl
    have hkc : 0 ≤ 0 := by decide
    have hks : 0 ≤ 0 := by decide
    refine va_callv (va_runV (C := "DiscMaker$Bytes") (As := [.int v11, .int by9]) (rest := []) ⟨hx, hb, hml, hown, hts⟩ (c3_putF l D cB cI cJ cZ cN cF H.size pb pq 400 L2_3 g_9 v11 by9 (by (try dsimp only); first | assumption | omega | trivial) (by (try dsimp only); first | assumption | omega | trivial) (by (try dsimp only); first | assumption | omega | trivial)) (cwV 2 hts (lg_goodV k911 k912 k913 k119 kc_Bytes_put) rfl rfl rfl (by decide +kernel) ⟨Nat.le_of_ble_eq_true rfl, Nat.le_of_ble_eq_true rfl⟩) ⟨fun a U g mk q => by obtain ⟨q0, q1, qP, qK, qN, qD⟩ := q; exact ⟨q0, q1, qP, va_K.moved (u := U) (U := U.calling g mk a) (Vm.Alike.refl U.vm) qK, qN.calling, qD⟩, va_recv hK hP (ci := 1) (q0 := 1) rfl rfl, fun U hU hW => ⟨rfl, by rw [hU], by rw [hU]; exact hPc, va_K.moved hW.alike hK, NN.warm hW hN, hDc.weaken (fun _ _ _ _ => trivial)⟩⟩ rfl rfl hl.1 rfl (lv_room (Nat.le_of_ble_eq_true rfl)) d_SystemUse_addComponent_47 ⟨hkc, hks⟩) hS (fun q _ h => hFc q h) hFc (fun u t H1 locs ht hvm hp_r12 hB hz1 hk1 hS => ?_)
    obtain ⟨g_13, rfl⟩ : ∃ z, z = u := ⟨_, rfl⟩
    obtain ⟨hP1, hD1⟩ := hB
    rw [ht] at hP1
    obtain ⟨hP, hD⟩ := va_join (wr := [(u0, .inr (8, [.ref pb, .ref en, .int uc, .int uk]))]) (w1 := [(pb, .inr (1, [.ref pq, .int L2_3])), (pq, .inl (cB, 400, .inl g_13))]) hP hD [1, 2] [0] rfl rfl (by decide +kernel) (by decide +kernel) hk1 hFc hP1 hD1
    clear hPc hDc hFc hP1 hD1 hk1 hz1 hkc hks
    generalize H1 = H at hP hS ⊢
    have hP : va_P D CL [(u0, .inr (8, [.ref pb, .ref en, .int uc, .int uk])), (pb, .inr (1, [.ref pq, .int L2_3])), (pq, .inl (cB, 400, .inl g_13))] H := hP
    have hD : va_D A [(u0, .inr (8, [.ref pb, .ref en, .int uc, .int uk])), (pb, .inr (1, [.ref pq, .int L2_3])), (pq, .inl (cB, 400, .inl g_13))] := hD
    try dsimp only at hp_r12
    have hw_14 := hp_r12
    refine lv_iconst (v := 0) hx hb d_SystemUse_addComponent_50 (by decide) ?_
    refine lv_istore hx hb d_SystemUse_addComponent_51 hl (by decide) rfl (fun ls hl => ?_)
    have hl : lv_has ls 8 [(7, .int 0), (6, .int r2), (5, .int by9), (0, .ref u0), (1, .ref tt), (2, .int x), (3, .int y), (4, .int z)] := hl
    refine zz_labM (B := fun (lk : Nat) (K : Heap → List Loc → Array Slot → List Value → Prop) => ∀ (kx : Int32) (lf : Nat → Int32) (H : Heap) (locs : List Loc) (ls : Array Slot), lk = (by9.toInt - kx.toInt).toNat → (0 ≤ kx.toInt ∧ kx.toInt ≤ by9.toInt) → (BL (imC pf) (imC lf) pL.toInt ([x.toInt % 256, by9.toInt % 256] ++ tbL (fun i => (gv (y.toNatClampNeg + i)).toInt % 256) kx.toInt.toNat ++ List.replicate (by9.toInt.toNat - kx.toInt.toNat) 0)) → va_P D CL [(u0, .inr (8, [.ref pb, .ref en, .int uc, .int uk])), (pb, .inr (1, [.ref pq, .int L2_3])), (pq, .inl (cB, 400, .inl lf))] H → va_D A [(u0, .inr (8, [.ref pb, .ref en, .int uc, .int uk])), (pb, .inr (1, [.ref pq, .int L2_3])), (pq, .inl (cB, 400, .inl lf))] → va_S A s.heap H locs → lv_has ls 8 [(0, .ref u0), (1, .ref tt), (2, .int x), (3, .int y), (4, .int z), (5, .int by9), (6, .int r2), (7, .int kx)] → K H locs ls []) 53 ?_ ?_
    · skip
      intro lk ih53 kx lf H locs ls hm53 e2 e8 hP hD hS hl
      refine lv_iload hx hb d_SystemUse_addComponent_53 (lv_at hl 7 rfl) ?_
      refine lv_iload hx hb d_SystemUse_addComponent_55 (lv_at hl 5 rfl) ?_
      refine lv_icmp_ge (tgt := 86) hx hb d_SystemUse_addComponent_57 (by decide) (fun h_9 => ?_) (fun h_9 => ?_)
      · skip
        have g57_25 : by9.toInt ≤ kx.toInt := (i_le rfl rfl).mp h_9
        have hyc := i_cl (a := y) (by omega)
        have hzc := i_cl (a := z) (by omega)
        have hP9 := hP.sub (ws' := [(u0, .inr (8, [.ref pb, .ref en, .int uc, .int uk])), (pb, .inr (1, [.ref pq, .int L2_3])), (pq, .inl (cB, 400, .inl lf))]) [0, 1, 2] rfl
        have hD9 := hD.sub (ws' := [(u0, .inr (8, [.ref pb, .ref en, .int uc, .int uk])), (pb, .inr (1, [.ref pq, .int L2_3])), (pq, .inl (cB, 400, .inl lf))]) [0, 1, 2] (by decide +kernel) rfl
        exact W.vret hx hb hr (fun t ht hW => ⟨⟨(L2_3, lf), rfl, ⟨(by (try dsimp only); first | assumption | omega | trivial), (cm_end e8 (by omega) (show ((by9.toInt.toNat : Nat) : Int) = by9.toInt by omega) rfl rfl rfl (by omega) (by omega))⟩, by rw [ht]; exact hP9, hD9⟩, hS.F ht⟩) hS.2.2 d_SystemUse_addComponent_86
      · skip
        have g57_25 : ¬ by9.toInt ≤ kx.toInt := fun h8 => h_9 ((i_le rfl rfl).mpr h8)
        refine lv_aload_n hx hb d_SystemUse_addComponent_60 rfl (lv_at hl 0 rfl) ?_
        refine va_get (D := D) (ci := 8) (v := .ref pb) (C := "DiscMaker$SystemUse") (T := F_SystemUse) (N := 4) hx hb ht9 in_SystemUse hown hK hP 0 rfl rfl 0 (by decide) (ht9 _ k330) (fun _ h9 => h9) rfl d_SystemUse_addComponent_61 ?_
        refine lv_iload hx hb d_SystemUse_addComponent_64 (lv_at hl 6 rfl) ?_
        refine lv_iconst (v := 2) hx hb d_SystemUse_addComponent_66 (by decide) ?_
        refine lv_iadd hx hb d_SystemUse_addComponent_67 ?_
        refine lv_topi (fun v15 e_v15 => ?_)
        have t_v15 : v15.toInt = r2.toInt + 2 := by rw [e_v15]; exact i_add rfl (by decide) (by omega) (by omega)
        refine lv_iload hx hb d_SystemUse_addComponent_68 (lv_at hl 7 rfl) ?_
        refine lv_iadd hx hb d_SystemUse_addComponent_70 ?_
        refine lv_topi (fun v16 e_v16 => ?_)
        have t_v16 : v16.toInt = v15.toInt + kx.toInt := by rw [e_v16]; exact i_add rfl rfl (by omega) (by omega)
        refine lv_aload_n hx hb d_SystemUse_addComponent_71 rfl (lv_at hl 1 rfl) ?_
        refine lv_iload_n hx hb d_SystemUse_addComponent_72 rfl (lv_at hl 3 rfl) ?_
        refine lv_iload hx hb d_SystemUse_addComponent_73 (lv_at hl 7 rfl) ?_
        refine lv_iadd hx hb d_SystemUse_addComponent_75 ?_
        refine lv_topi (fun v17 e_v17 => ?_)
        have t_v17 : v17.toInt = y.toInt + kx.toInt := by rw [e_v17]; exact i_add rfl rfl (by omega) (by omega)
        have hPR := RO_at hZr hS
        refine va_bald hx hb hK hPR 0 0 rfl rfl (vp_in_iff.mpr ⟨by omega, by omega⟩) d_SystemUse_addComponent_76 ?_
        refine lv_topi (fun v18 e_v18 => ?_)
        have hPc := hP.sub (ws' := [(pb, .inr (1, [.ref pq, .int L2_3])), (pq, .inl (cB, 400, .inl lf))]) [1, 2] rfl
        have hDc := hD.sub (ws' := [(pb, .inr (1, [.ref pq, .int L2_3])), (pq, .inl (cB, 400, .inl lf))]) [1, 2] (by decide +kernel) rfl
        have hFc := va_free (wc := [(pb, .inr (1, [.ref pq, .int L2_3])), (pq, .inl (cB, 400, .inl lf))]) hD hS hA [1, 2] rfl
        have hkc : 0 ≤ 0 := by decide
        have hks : 0 ≤ 0 := by decide
        refine va_callv (va_runV (C := "DiscMaker$Bytes") (As := [.int v16, .int v18]) (rest := []) ⟨hx, hb, hml, hown, hts⟩ (c3_putF l D cB cI cJ cZ cN cF H.size pb pq 400 L2_3 lf v16 v18 (by (try dsimp only); first | assumption | omega | trivial) (by (try dsimp only); first | assumption | omega | trivial) (by (try dsimp only); first | assumption | omega | trivial)) (cwV 2 hts (lg_goodV k911 k912 k913 k119 kc_Bytes_put) rfl rfl rfl (by decide +kernel) ⟨Nat.le_of_ble_eq_true rfl, Nat.le_of_ble_eq_true rfl⟩) ⟨fun a U g mk q => by obtain ⟨q0, q1, qP, qK, qN, qD⟩ := q; exact ⟨q0, q1, qP, va_K.moved (u := U) (U := U.calling g mk a) (Vm.Alike.refl U.vm) qK, qN.calling, qD⟩, va_recv hK hP (ci := 1) (q0 := 1) rfl rfl, fun U hU hW => ⟨rfl, by rw [hU], by rw [hU]; exact hPc, va_K.moved hW.alike hK, NN.warm hW hN, hDc.weaken (fun _ _ _ _ => trivial)⟩⟩ rfl rfl hl.1 rfl (lv_room (Nat.le_of_ble_eq_true rfl)) d_SystemUse_addComponent_77 ⟨hkc, hks⟩) hS (fun q _ h => hFc q h) hFc (fun u t H1 locs ht hvm hp_r19 hB hz1 hk1 hS => ?_)
        obtain ⟨g_20, rfl⟩ : ∃ z, z = u := ⟨_, rfl⟩
        obtain ⟨hP1, hD1⟩ := hB
        rw [ht] at hP1
        obtain ⟨hP, hD⟩ := va_join (wr := [(u0, .inr (8, [.ref pb, .ref en, .int uc, .int uk]))]) (w1 := [(pb, .inr (1, [.ref pq, .int L2_3])), (pq, .inl (cB, 400, .inl g_20))]) hP hD [1, 2] [0] rfl rfl (by decide +kernel) (by decide +kernel) hk1 hFc hP1 hD1
        clear hPc hDc hFc hP1 hD1 hk1 hz1 hkc hks
        generalize H1 = H at hP hS ⊢
        have hP : va_P D CL [(u0, .inr (8, [.ref pb, .ref en, .int uc, .int uk])), (pb, .inr (1, [.ref pq, .int L2_3])), (pq, .inl (cB, 400, .inl g_20))] H := hP
        have hD : va_D A [(u0, .inr (8, [.ref pb, .ref en, .int uc, .int uk])), (pb, .inr (1, [.ref pq, .int L2_3])), (pq, .inl (cB, 400, .inl g_20))] := hD
        try dsimp only at hp_r19
        have hw_21 := hp_r19
        obtain ⟨v22, e_v22⟩ : ∃ z : Int32, z = kx + 1 := ⟨_, rfl⟩
        refine lv_iinc (v := v22) hx hb d_SystemUse_addComponent_80 hl (k := 7) rfl e_v22.symm (by decide +kernel) rfl (fun ls hl => ?_)
        have t_v22 : v22.toInt = kx.toInt + 1 := by rw [e_v22]; exact i_add rfl (by decide) (by omega) (by omega)
        have hl : lv_has ls 8 [(7, .int v22), (0, .ref u0), (1, .ref tt), (2, .int x), (3, .int y), (4, .int z), (5, .int by9), (6, .int r2)] := hl
        refine lv_goto (tgt := 53) hx hb d_SystemUse_addComponent_83 (by decide) ?_
        have hP := hP.sub (ws' := [(u0, .inr (8, [.ref pb, .ref en, .int uc, .int uk])), (pb, .inr (1, [.ref pq, .int L2_3])), (pq, .inl (cB, 400, .inl g_20))]) [0, 1, 2] rfl
        have hD := hD.sub (ws' := [(u0, .inr (8, [.ref pb, .ref en, .int uc, .int uk])), (pb, .inr (1, [.ref pq, .int L2_3])), (pq, .inl (cB, 400, .inl g_20))]) [0, 1, 2] (by decide +kernel) rfl
        have hl := lv_sub hl [1, 2, 3, 4, 5, 6, 7, 0] rfl
        exact ih53 _ (by first | omega | (dsimp only; omega)) v22 g_20 _ _ _ rfl ((by (try dsimp only); first | assumption | omega | trivial)) ((co_st (k2 := v22.toInt.toNat) e8 hw_21 (by omega) (by omega) (by show v18.toInt % 256 = (gv (y.toNatClampNeg + kx.toInt.toNat)).toInt % 256; have h7 := i_cl (a := v17) (by omega); have h6 := i_cl (a := y) (by omega); rw [e_v18, show v17.toNatClampNeg = y.toNatClampNeg + kx.toInt.toNat by omega]) (by omega))) hP hD hS hl
    · skip
      intro kk53
      have hP := hP.sub (ws' := [(u0, .inr (8, [.ref pb, .ref en, .int uc, .int uk])), (pb, .inr (1, [.ref pq, .int L2_3])), (pq, .inl (cB, 400, .inl g_13))]) [0, 1, 2] rfl
      have hD := hD.sub (ws' := [(u0, .inr (8, [.ref pb, .ref en, .int uc, .int uk])), (pb, .inr (1, [.ref pq, .int L2_3])), (pq, .inl (cB, 400, .inl g_13))]) [0, 1, 2] (by decide +kernel) rfl
      have hl := lv_sub hl [3, 4, 5, 6, 7, 2, 1, 0] rfl
      exact kk53 _ 0 g_13 _ _ _ rfl ((by (try dsimp only); first | assumption | omega | trivial)) ((co_0 hw_7 hw_10 hw_14 (by omega) (by omega) (by omega) rfl rfl (by decide))) hP hD hS hl
  · skip
    intro kk12
    refine lv_iload_n hx hb d_SystemUse_addComponent_0 rfl (lv_at hl 2 rfl) ?_
    refine lv_if_ne (tgt := 11) hx hb d_SystemUse_addComponent_1 (by decide) (fun h_9 => ?_) (fun h_9 => ?_)
    · skip
      have g1_44 : ¬ x.toInt = 0 := fun h8 => h_9 ((i_eq rfl (by decide)).mpr h8)
      refine lv_iconst (v := 0) hx hb d_SystemUse_addComponent_11 (by decide) ?_
      have hP := hP.sub (ws' := [(u0, .inr (8, [.ref pb, .ref en, .int uc, .int uk])), (pb, .inr (1, [.ref pq, .int pL])), (pq, .inl (cB, 400, .inl pf))]) [0, 1, 2] rfl
      have hD := hD.sub (ws' := [(u0, .inr (8, [.ref pb, .ref en, .int uc, .int uk])), (pb, .inr (1, [.ref pq, .int pL])), (pq, .inl (cB, 400, .inl pf))]) [0, 1, 2] (by decide +kernel) rfl
      have hl := lv_sub hl [0, 1, 2, 3, 4] rfl
      exact kk12 _ 0 _ _ _ rfl ((by (try dsimp only); first | assumption | omega | trivial)) ((by (try dsimp only); first | assumption | omega | trivial)) hP hD hS hl
    · skip
      have g1_44 : x.toInt = 0 := (i_eq rfl (by decide)).mp h_9
      refine lv_iload hx hb d_SystemUse_addComponent_4 (lv_at hl 4 rfl) ?_
      refine lv_iload_n hx hb d_SystemUse_addComponent_6 rfl (lv_at hl 3 rfl) ?_
      refine lv_isub hx hb d_SystemUse_addComponent_7 ?_
      refine lv_topi (fun v23 e_v23 => ?_)
      have t_v23 : v23.toInt = z.toInt - y.toInt := by rw [e_v23]; exact i_sub rfl rfl (by omega) (by omega)
      refine lv_goto (tgt := 12) hx hb d_SystemUse_addComponent_8 (by decide) ?_
      have hP := hP.sub (ws' := [(u0, .inr (8, [.ref pb, .ref en, .int uc, .int uk])), (pb, .inr (1, [.ref pq, .int pL])), (pq, .inl (cB, 400, .inl pf))]) [0, 1, 2] rfl
      have hD := hD.sub (ws' := [(u0, .inr (8, [.ref pb, .ref en, .int uc, .int uk])), (pb, .inr (1, [.ref pq, .int pL])), (pq, .inl (cB, 400, .inl pf))]) [0, 1, 2] (by decide +kernel) rfl
      have hl := lv_sub hl [0, 1, 2, 3, 4] rfl
      exact kk12 _ v23 _ _ _ rfl ((by (try dsimp only); first | assumption | omega | trivial)) ((by (try dsimp only); first | assumption | omega | trivial)) hP hD hS hl

set_option maxHeartbeats 4000000 in
set_option maxRecDepth 100000 in
theorem c3_addTargetF (l : Launch) (D : va_G) (cB cI cJ cZ cN cF : ClassId) (sz : Nat) (u0 : Nat) (pb : Nat) (pq : Nat) (en : Nat) (uc : Int32) (uk : Int32) (pL : Int32) (pf : Nat → Int32) (ef : Nat → Int32) (cs9 : List Int) (tt : Nat) (nt : Nat) (gv : Nat → Int32) (hPL : 0 ≤ pL.toInt ∧ pL.toInt ≤ 400) (huc : 0 ≤ uc.toInt ∧ uc.toInt ≤ 4) (hen : EnOK uc.toInt pL.toInt ef) (hcs : EnL uc.toInt ef cs9) (hnt : nt ≤ 200) (hcap : pL.toInt ≤ 90) : Met l y_SystemUse_addTarget w_SystemUse_addTarget ({ frames := 2, cells := 0, slots := 0, locals := 62 }) (va_Pc [.ref u0, .ref tt] (fun U => U.heap.size = sz ∧ va_P D CL [(u0, .inr (8, [.ref pb, .ref en, .int uc, .int uk])), (pb, .inr (1, [.ref pq, .int pL])), (pq, .inl (cB, 400, .inl pf)), (en, .inl (cI, 4, .inl ef))] U.heap ∧ va_K D CL (TY cB cI cJ cZ cN cF) U ∧ NN U ∧ va_D (fun _ => True) [(u0, .inr (8, [.ref pb, .ref en, .int uc, .int uk])), (pb, .inr (1, [.ref pq, .int pL])), (pq, .inl (cB, 400, .inl pf)), (en, .inl (cI, 4, .inl ef))] ∧ RO D [(tt, .inl (cB, nt, .inl gv))] (va_A [(u0, .inr (8, [.ref pb, .ref en, .int uc, .int uk])), (pb, .inr (1, [.ref pq, .int pL])), (pq, .inl (cB, 400, .inl pf)), (en, .inl (cI, 4, .inl ef))] sz) U U.heap)) (va_Qv (fun (u : Int32 × Int32 × (Nat → Int32) × (Nat → Int32)) => match u with | (uc2, L2, g, ef2) => (L2.toInt = pL.toInt + (5 + compS gv nt)) ∧ (0 ≤ uc2.toInt ∧ uc2.toInt ≤ 4) ∧ (EnOK uc2.toInt L2.toInt ef2) ∧ (uc.toInt < 4 → EnL uc2.toInt ef2 (cs9 ++ [L2.toInt])) ∧ (BL (imC pf) (imC g) pL.toInt ([83, 76, (5 + compS gv nt) % 256, 1, 0] ++ coB gv nt))) (fun (u : Int32 × Int32 × (Nat → Int32) × (Nat → Int32)) (t : State) => match u with | (uc2, L2, g, ef2) => va_P D CL [(u0, .inr (8, [.ref pb, .ref en, .int uc2, .int uk])), (pb, .inr (1, [.ref pq, .int L2])), (pq, .inl (cB, 400, .inl g)), (en, .inl (cI, 4, .inl ef2))] t.heap ∧ va_D (va_A [(u0, .inr (8, [.ref pb, .ref en, .int uc, .int uk])), (pb, .inr (1, [.ref pq, .int pL])), (pq, .inl (cB, 400, .inl pf)), (en, .inl (cI, 4, .inl ef))] sz) [(u0, .inr (8, [.ref pb, .ref en, .int uc2, .int uk])), (pb, .inr (1, [.ref pq, .int L2])), (pq, .inl (cB, 400, .inl g)), (en, .inl (cI, 4, .inl ef2))]) (va_A [(u0, .inr (8, [.ref pb, .ref en, .int uc, .int uk])), (pb, .inr (1, [.ref pq, .int pL])), (pq, .inl (cB, 400, .inl pf)), (en, .inl (cI, 4, .inl ef))] sz)) 0 0 (va_A [(u0, .inr (8, [.ref pb, .ref en, .int uc, .int uk])), (pb, .inr (1, [.ref pq, .int pL])), (pq, .inl (cB, 400, .inl pf)), (en, .inl (cI, 4, .inl ef))] sz) := by
  refine Met.ofW (cc := b_SystemUse_addTarget) (maxL := 5) (ret := none) (by decide +kernel) rfl ?_
  intro p e s m args below meth c s₁ B hml hv
  obtain ⟨rfl, hsz, hP, hK, hN, hD0, hZr⟩ := hv
  have hx := B.exec
  have hb := B.bytes
  have hr := B.returns
  have hts := atoms_spec (ws := w_SystemUse_addTarget) B.pre
  have ht9 := fun (w : Cond) (h : w ∈ lw_g) => hts w (List.mem_cons_of_mem _ h)
  have hown : s.vm.findClass "DiscMaker$SystemUse" = some m.cls := findClass_of_methodNamed B.named
  have hlocks := B.notSynchronized
  subst hsz
  have hD := hD0.self (sz := s.heap.size)
  generalize hAe : va_A [(u0, .inr (8, [.ref pb, .ref en, .int uc, .int uk])), (pb, .inr (1, [.ref pq, .int pL])), (pq, .inl (cB, 400, .inl pf)), (en, .inl (cI, 4, .inl ef))] s.heap.size = A at hD hZr ⊢
  have hA : ∀ q : Nat, s.heap.size ≤ q → A q := fun q h => by rw [← hAe]; exact Or.inr h
  have hS : va_S A s.heap s.heap [] := va_S.rf
  have hP : va_P D CL [(u0, .inr (8, [.ref pb, .ref en, .int uc, .int uk])), (pb, .inr (1, [.ref pq, .int pL])), (pq, .inl (cB, 400, .inl pf)), (en, .inl (cI, 4, .inl ef))] s.heap := hP
  have hl := lv_entry [.ref u0, .ref tt] (n := 5) (Nat.le_of_ble_eq_true rfl)
  rw [lg_entry_eq]
  generalize (lg_sl [.ref u0, .ref tt] ++ List.replicate (5 - (lg_sl [.ref u0, .ref tt]).length) Slot.unset).toArray = ls at hl ⊢
  have hl : lv_has ls 5 [(0, .ref u0), (1, .ref tt)] := hl
  have L_m1 : ((-1) : Int32).toInt = (-1) := by decide
  have L_0 : (0 : Int32).toInt = 0 := by decide
  have L_1 : (1 : Int32).toInt = 1 := by decide
  have L_5 : (5 : Int32).toInt = 5 := by decide
  have L_8 : (8 : Int32).toInt = 8 := by decide
  have L_47 : (47 : Int32).toInt = 47 := by decide
  have L_21324 : (21324 : Int32).toInt = 21324 := by decide
  have ht0r := t0F_rng gv nt
  refine lv_aload_n hx hb d_SystemUse_addTarget_0 rfl (lv_at hl 0 rfl) ?_
  refine lv_sipush (v := 21324) hx hb d_SystemUse_addTarget_1 (by decide) ?_
  refine lv_iconst (v := 5) hx hb d_SystemUse_addTarget_4 (by decide) ?_
  have hPc := hP.sub (ws' := [(u0, .inr (8, [.ref pb, .ref en, .int uc, .int uk])), (pb, .inr (1, [.ref pq, .int pL])), (pq, .inl (cB, 400, .inl pf))]) [0, 1, 2] rfl
  have hDc := hD.sub (ws' := [(u0, .inr (8, [.ref pb, .ref en, .int uc, .int uk])), (pb, .inr (1, [.ref pq, .int pL])), (pq, .inl (cB, 400, .inl pf))]) [0, 1, 2] (by decide +kernel) rfl
  have hFc := va_free (wc := [(u0, .inr (8, [.ref pb, .ref en, .int uc, .int uk])), (pb, .inr (1, [.ref pq, .int pL])), (pq, .inl (cB, 400, .inl pf))]) hD hS hA [0, 1, 2] rfl
  have hkc : 0 ≤ 0 := by decide
  have hks : 0 ≤ 0 := by decide
  refine va_calli (va_runV (C := "DiscMaker$SystemUse") (As := [.int 21324, .int 5]) (rest := []) ⟨hx, hb, hml, hown, hts⟩ (c3_use_openF l D cB cI cJ cZ cN cF s.heap.size u0 pb pq en uc uk pL pf 83 76 21324 5 (by (try dsimp only); first | assumption | omega | trivial) (by (try dsimp only); first | assumption | omega | trivial) ((by omega))) (cwV 2 hts (lg_goodV k903 k905 k9 k122 kc_SystemUse_open) rfl rfl rfl (by decide +kernel) ⟨Nat.le_of_ble_eq_true rfl, Nat.le_of_ble_eq_true rfl⟩) ⟨fun a U g mk q => by obtain ⟨q0, q1, qP, qK, qN, qD⟩ := q; exact ⟨q0, q1, qP, va_K.moved (u := U) (U := U.calling g mk a) (Vm.Alike.refl U.vm) qK, qN.calling, qD⟩, va_recv hK hP (ci := 8) (q0 := 0) rfl rfl, fun U hU hW => ⟨rfl, by rw [hU], by rw [hU]; exact hPc, va_K.moved hW.alike hK, NN.warm hW hN, hDc.weaken (fun _ _ _ _ => trivial)⟩⟩ rfl rfl hl.1 rfl (lv_room (Nat.le_of_ble_eq_true rfl)) d_SystemUse_addTarget_5 ⟨hkc, hks⟩) hS (fun q _ h => hFc q h) hFc (fun r1 u t H1 locs ht hvm hp_r1 hB hz1 hk1 hS => ?_)
  obtain ⟨L2_2, g_3⟩ := u
  obtain ⟨hP1, hD1⟩ := hB
  rw [ht] at hP1
  obtain ⟨hP, hD⟩ := va_join (wr := [(en, .inl (cI, 4, .inl ef))]) (w1 := [(u0, .inr (8, [.ref pb, .ref en, .int uc, .int uk])), (pb, .inr (1, [.ref pq, .int L2_2])), (pq, .inl (cB, 400, .inl g_3))]) hP hD [0, 1, 2] [3] rfl rfl (by decide +kernel) (by decide +kernel) hk1 hFc hP1 hD1
  clear hPc hDc hFc hP1 hD1 hk1 hz1 hkc hks
  generalize H1 = H at hP hS ⊢
  have hP : va_P D CL [(en, .inl (cI, 4, .inl ef)), (u0, .inr (8, [.ref pb, .ref en, .int uc, .int uk])), (pb, .inr (1, [.ref pq, .int L2_2])), (pq, .inl (cB, 400, .inl g_3))] H := hP
  have hD : va_D A [(en, .inl (cI, 4, .inl ef)), (u0, .inr (8, [.ref pb, .ref en, .int uc, .int uk])), (pb, .inr (1, [.ref pq, .int L2_2])), (pq, .inl (cB, 400, .inl g_3))] := hD
  try dsimp only at hp_r1
  obtain ⟨hr_4, hE_5, hw_6⟩ := hp_r1
  try rw [L_5] at hE_5
  try rw [L_5] at hw_6
  refine lv_istore_n hx hb d_SystemUse_addTarget_8 rfl hl (by decide) rfl (fun ls hl => ?_)
  have hl : lv_has ls 5 [(2, .int r1), (0, .ref u0), (1, .ref tt)] := hl
  refine zz_labM (B := fun (lk : Nat) (K : Heap → List Loc → Array Slot → List Value → Prop) => ∀ (op : Int32) (jL : Int32) (jf : Nat → Int32) (H : Heap) (locs : List Loc) (ls : Array Slot), lk = 0 → (op.toInt = pL.toInt) → (jL.toInt = pL.toInt + 5 + t0F gv nt) → (BL (imC pf) (imC jf) pL.toInt ([83, 76, 0, 1, 0] ++ t0B gv nt)) → va_P D CL [(en, .inl (cI, 4, .inl ef)), (u0, .inr (8, [.ref pb, .ref en, .int uc, .int uk])), (pb, .inr (1, [.ref pq, .int jL])), (pq, .inl (cB, 400, .inl jf))] H → va_D A [(en, .inl (cI, 4, .inl ef)), (u0, .inr (8, [.ref pb, .ref en, .int uc, .int uk])), (pb, .inr (1, [.ref pq, .int jL])), (pq, .inl (cB, 400, .inl jf))] → va_S A s.heap H locs → lv_has ls 5 [(0, .ref u0), (1, .ref tt), (2, .int op)] → K H locs ls []) 31 ?_ ?_
  · skip
    intro lk ih31 op jL jf H locs ls hm31 e0 e6 e6b hP hD hS hl
    refine lv_iconst (v := 0) hx hb d_SystemUse_addTarget_31 (by decide) ?_
    refine lv_istore_n hx hb d_SystemUse_addTarget_32 rfl hl (by decide) rfl (fun ls hl => ?_)
    have hl : lv_has ls 5 [(3, .int 0), (0, .ref u0), (1, .ref tt), (2, .int op)] := hl
    refine lv_iconst (v := 0) hx hb d_SystemUse_addTarget_33 (by decide) ?_
    refine lv_istore hx hb d_SystemUse_addTarget_34 hl (by decide) rfl (fun ls hl => ?_)
    have hl : lv_has ls 5 [(4, .int 0), (3, .int 0), (0, .ref u0), (1, .ref tt), (2, .int op)] := hl
    refine zz_labM (B := fun (lk : Nat) (K : Heap → List Loc → Array Slot → List Value → Prop) => ∀ (fr : Int32) (kx : Int32) (lL : Int32) (lf : Nat → Int32) (H : Heap) (locs : List Loc) (ls : Array Slot), lk = (nt + 1 - kx.toInt).toNat → (0 ≤ fr.toInt ∧ fr.toInt ≤ kx.toInt ∧ kx.toInt ≤ nt + 1) → (fr.toNatClampNeg = cpF gv nt kx.toNatClampNeg) → (lL.toInt = pL.toInt + 5 + t0F gv nt + cpT gv nt kx.toNatClampNeg) → (BL (imC pf) (imC lf) pL.toInt ([83, 76, 0, 1, 0] ++ t0B gv nt ++ cpB gv nt kx.toNatClampNeg)) → va_P D CL [(en, .inl (cI, 4, .inl ef)), (u0, .inr (8, [.ref pb, .ref en, .int uc, .int uk])), (pb, .inr (1, [.ref pq, .int lL])), (pq, .inl (cB, 400, .inl lf))] H → va_D A [(en, .inl (cI, 4, .inl ef)), (u0, .inr (8, [.ref pb, .ref en, .int uc, .int uk])), (pb, .inr (1, [.ref pq, .int lL])), (pq, .inl (cB, 400, .inl lf))] → va_S A s.heap H locs → lv_has ls 5 [(0, .ref u0), (1, .ref tt), (2, .int op), (3, .int fr), (4, .int kx)] → K H locs ls []) 36 ?_ ?_
    · skip
      intro lk ih36 fr kx lL lf H locs ls hm36 e2 e7 e8 e8b hP hD hS hl
      have hcr := cpT_rng gv nt kx.toNatClampNeg
      have hcl := cpF_le gv nt kx.toNatClampNeg
      have hkc := i_cl (a := kx) (by omega)
      have hfc := i_cl (a := fr) (by omega)
      refine lv_iload hx hb d_SystemUse_addTarget_36 (lv_at hl 4 rfl) ?_
      refine lv_aload_n hx hb d_SystemUse_addTarget_38 rfl (lv_at hl 1 rfl) ?_
      have hPR := RO_at hZr hS
      refine va_alen (v := nI nt) hx hb hK hPR 0 0 rfl rfl rfl d_SystemUse_addTarget_39 ?_
      refine lv_topi (fun v7 e_v7 => ?_)
      have t_v7 : v7.toInt = nt := by rw [e_v7]; exact nI_toInt (by omega)
      refine lv_icmp_gt (tgt := 91) hx hb d_SystemUse_addTarget_40 (by decide) (fun h_9 => ?_) (fun h_9 => ?_)
      · skip
        have g40_13 : v7.toInt < kx.toInt := (i_lt rfl rfl).mp h_9
        refine lv_aload_n hx hb d_SystemUse_addTarget_91 rfl (lv_at hl 0 rfl) ?_
        refine lv_iload_n hx hb d_SystemUse_addTarget_92 rfl (lv_at hl 2 rfl) ?_
        have hPc := hP.sub (ws' := [(u0, .inr (8, [.ref pb, .ref en, .int uc, .int uk])), (pb, .inr (1, [.ref pq, .int lL])), (pq, .inl (cB, 400, .inl lf)), (en, .inl (cI, 4, .inl ef))]) [1, 2, 3, 0] rfl
        have hDc := hD.sub (ws' := [(u0, .inr (8, [.ref pb, .ref en, .int uc, .int uk])), (pb, .inr (1, [.ref pq, .int lL])), (pq, .inl (cB, 400, .inl lf)), (en, .inl (cI, 4, .inl ef))]) [1, 2, 3, 0] (by decide +kernel) rfl
        have hFc := va_free (wc := [(u0, .inr (8, [.ref pb, .ref en, .int uc, .int uk])), (pb, .inr (1, [.ref pq, .int lL])), (pq, .inl (cB, 400, .inl lf)), (en, .inl (cI, 4, .inl ef))]) hD hS hA [1, 2, 3, 0] rfl
        have hkc : 0 ≤ 0 := by decide
        have hks : 0 ≤ 0 := by decide
        refine va_callv (va_runV (C := "DiscMaker$SystemUse") (As := [.int op]) (rest := []) ⟨hx, hb, hml, hown, hts⟩ (c3_closeF l D cB cI cJ cZ cN cF H.size u0 pb pq en uc uk lL lf ef cs9 op (by (try dsimp only); first | assumption | omega | trivial) (by (try dsimp only); first | assumption | omega | trivial) (EnOK_mono hen (by omega)) (hcs) (by (try dsimp only); first | assumption | omega | trivial)) (cwV 1 hts (lg_goodV k922 k924 k11 k122 kc_SystemUse_close) rfl rfl rfl (by decide +kernel) ⟨Nat.le_of_ble_eq_true rfl, Nat.le_of_ble_eq_true rfl⟩) ⟨fun a U g mk q => by obtain ⟨q0, q1, qP, qK, qN, qD⟩ := q; exact ⟨q0, q1, qP, va_K.moved (u := U) (U := U.calling g mk a) (Vm.Alike.refl U.vm) qK, qN.calling, qD⟩, va_recv hK hP (ci := 8) (q0 := 1) rfl rfl, fun U hU hW => ⟨rfl, by rw [hU], by rw [hU]; exact hPc, va_K.moved hW.alike hK, NN.warm hW hN, hDc.weaken (fun _ _ _ _ => trivial)⟩⟩ rfl rfl hl.1 rfl (lv_room (Nat.le_of_ble_eq_true rfl)) d_SystemUse_addTarget_93 ⟨hkc, hks⟩) hS (fun q _ h => hFc q h) hFc (fun u t H1 locs ht hvm hp_r8 hB hz1 hk1 hS => ?_)
        obtain ⟨uc2_9, g_10, ef2_11⟩ := u
        obtain ⟨hP1, hD1⟩ := hB
        rw [ht] at hP1
        obtain ⟨hP, hD⟩ := va_join (wr := []) (w1 := [(u0, .inr (8, [.ref pb, .ref en, .int uc2_9, .int uk])), (pb, .inr (1, [.ref pq, .int lL])), (pq, .inl (cB, 400, .inl g_10)), (en, .inl (cI, 4, .inl ef2_11))]) hP hD [1, 2, 3, 0] [] rfl rfl (by decide +kernel) (by decide +kernel) hk1 hFc hP1 hD1
        clear hPc hDc hFc hP1 hD1 hk1 hz1 hkc hks
        generalize H1 = H at hP hS ⊢
        have hP : va_P D CL [(u0, .inr (8, [.ref pb, .ref en, .int uc2_9, .int uk])), (pb, .inr (1, [.ref pq, .int lL])), (pq, .inl (cB, 400, .inl g_10)), (en, .inl (cI, 4, .inl ef2_11))] H := hP
        have hD : va_D A [(u0, .inr (8, [.ref pb, .ref en, .int uc2_9, .int uk])), (pb, .inr (1, [.ref pq, .int lL])), (pq, .inl (cB, 400, .inl g_10)), (en, .inl (cI, 4, .inl ef2_11))] := hD
        try dsimp only at hp_r8
        obtain ⟨huc2_12, hen2_13, hcs2_14, hw_15⟩ := hp_r8
        have hkn : kx.toNatClampNeg = nt + 1 := by omega
        rw [hkn] at e8 e8b
        have hcS : compS gv nt = t0F gv nt + cpT gv nt (nt + 1) := rfl
        have hP9 := hP.sub (ws' := [(u0, .inr (8, [.ref pb, .ref en, .int uc2_9, .int uk])), (pb, .inr (1, [.ref pq, .int lL])), (pq, .inl (cB, 400, .inl g_10)), (en, .inl (cI, 4, .inl ef2_11))]) [0, 1, 2, 3] rfl
        have hD9 := hD.sub (ws' := [(u0, .inr (8, [.ref pb, .ref en, .int uc2_9, .int uk])), (pb, .inr (1, [.ref pq, .int lL])), (pq, .inl (cB, 400, .inl g_10)), (en, .inl (cI, 4, .inl ef2_11))]) [0, 1, 2, 3] (by decide +kernel) rfl
        exact W.vret hx hb hr (fun t ht hW => ⟨⟨(uc2_9, lL, g_10, ef2_11), rfl, ⟨(by (try dsimp only); first | assumption | omega | trivial), (by (try dsimp only); first | assumption | omega | trivial), hen2_13, hcs2_14, (by (try dsimp only); (have h7 := e8b); rw [List.append_assoc] at h7; exact tg_end h7 hw_15 (by omega) (by omega))⟩, by rw [ht]; exact hP9, hD9⟩, hS.F ht⟩) hS.2.2 d_SystemUse_addTarget_96
      · skip
        have g40_13 : ¬ v7.toInt < kx.toInt := fun h8 => h_9 ((i_lt rfl rfl).mpr h8)
        refine zz_labM (B := fun (lk : Nat) (K : Heap → List Loc → Array Slot → List Value → Prop) => ∀ (fs : Int32) (mL : Int32) (mf : Nat → Int32) (H : Heap) (locs : List Loc) (ls : Array Slot), lk = 0 → (0 ≤ fs.toInt ∧ fs.toInt ≤ kx.toInt + 1) → (fs.toNatClampNeg = cpF gv nt (kx.toNatClampNeg + 1)) → (mL.toInt = pL.toInt + 5 + t0F gv nt + cpT gv nt (kx.toNatClampNeg + 1)) → (BL (imC pf) (imC mf) pL.toInt ([83, 76, 0, 1, 0] ++ t0B gv nt ++ cpB gv nt (kx.toNatClampNeg + 1))) → va_P D CL [(en, .inl (cI, 4, .inl ef)), (u0, .inr (8, [.ref pb, .ref en, .int uc, .int uk])), (pb, .inr (1, [.ref pq, .int mL])), (pq, .inl (cB, 400, .inl mf))] H → va_D A [(en, .inl (cI, 4, .inl ef)), (u0, .inr (8, [.ref pb, .ref en, .int uc, .int uk])), (pb, .inr (1, [.ref pq, .int mL])), (pq, .inl (cB, 400, .inl mf))] → va_S A s.heap H locs → lv_has ls 5 [(0, .ref u0), (1, .ref tt), (2, .int op), (3, .int fs), (4, .int kx)] → K H locs ls []) 85 ?_ ?_
        · skip
          intro lk ih85 fs mL mf H locs ls hm85 e4 e11 e12 e12b hP hD hS hl
          obtain ⟨v16, e_v16⟩ : ∃ z : Int32, z = kx + 1 := ⟨_, rfl⟩
          refine lv_iinc (v := v16) hx hb d_SystemUse_addTarget_85 hl (k := 4) rfl e_v16.symm (by decide +kernel) rfl (fun ls hl => ?_)
          have t_v16 : v16.toInt = kx.toInt + 1 := by rw [e_v16]; exact i_add rfl (by decide) (by omega) (by omega)
          have hl : lv_has ls 5 [(4, .int v16), (0, .ref u0), (1, .ref tt), (2, .int op), (3, .int fs)] := hl
          refine lv_goto (tgt := 36) hx hb d_SystemUse_addTarget_88 (by decide) ?_
          have hP := hP.sub (ws' := [(en, .inl (cI, 4, .inl ef)), (u0, .inr (8, [.ref pb, .ref en, .int uc, .int uk])), (pb, .inr (1, [.ref pq, .int mL])), (pq, .inl (cB, 400, .inl mf))]) [0, 1, 2, 3] rfl
          have hD := hD.sub (ws' := [(en, .inl (cI, 4, .inl ef)), (u0, .inr (8, [.ref pb, .ref en, .int uc, .int uk])), (pb, .inr (1, [.ref pq, .int mL])), (pq, .inl (cB, 400, .inl mf))]) [0, 1, 2, 3] (by decide +kernel) rfl
          have hl := lv_sub hl [1, 2, 3, 4, 0] rfl
          exact ih36 _ (by first | omega | (dsimp only; omega)) fs v16 mL mf _ _ _ rfl ((by (try dsimp only); first | assumption | omega | trivial)) ((by have h5 := i_cl (a := v16) (by omega); have h7 := i_cl (a := kx) (by omega); rw [show v16.toNatClampNeg = kx.toNatClampNeg + 1 by omega]; exact e11)) ((by have h5 := i_cl (a := v16) (by omega); have h7 := i_cl (a := kx) (by omega); rw [show v16.toNatClampNeg = kx.toNatClampNeg + 1 by omega]; exact e12)) ((by have h5 := i_cl (a := v16) (by omega); have h7 := i_cl (a := kx) (by omega); rw [show v16.toNatClampNeg = kx.toNatClampNeg + 1 by omega]; exact e12b)) hP hD hS hl
        · skip
          intro kk85
          refine lv_iload hx hb d_SystemUse_addTarget_43 (lv_at hl 4 rfl) ?_
          refine lv_aload_n hx hb d_SystemUse_addTarget_45 rfl (lv_at hl 1 rfl) ?_
          have hPR := RO_at hZr hS
          refine va_alen (v := nI nt) hx hb hK hPR 0 0 rfl rfl rfl d_SystemUse_addTarget_46 ?_
          refine lv_topi (fun v17 e_v17 => ?_)
          have t_v17 : v17.toInt = nt := by rw [e_v17]; exact nI_toInt (by omega)
          refine lv_icmp_eq (tgt := 59) hx hb d_SystemUse_addTarget_47 (by decide) (fun h_9 => ?_) (fun h_9 => ?_)
          · skip
            have g47_24 : kx.toInt = v17.toInt := (i_eq rfl rfl).mp h_9
            refine lv_iload hx hb d_SystemUse_addTarget_59 (lv_at hl 4 rfl) ?_
            refine lv_iload_n hx hb d_SystemUse_addTarget_61 rfl (lv_at hl 3 rfl) ?_
            refine lv_icmp_le (tgt := 80) hx hb d_SystemUse_addTarget_62 (by decide) (fun h_9 => ?_) (fun h_9 => ?_)
            · skip
              have g62_27 : kx.toInt ≤ fr.toInt := (i_le rfl rfl).mp h_9
              refine lv_iload hx hb d_SystemUse_addTarget_80 (lv_at hl 4 rfl) ?_
              refine lv_iconst (v := 1) hx hb d_SystemUse_addTarget_82 (by decide) ?_
              refine lv_iadd hx hb d_SystemUse_addTarget_83 ?_
              refine lv_topi (fun v18 e_v18 => ?_)
              have t_v18 : v18.toInt = kx.toInt + 1 := by rw [e_v18]; exact i_add rfl (by decide) (by omega) (by omega)
              refine lv_istore_n hx hb d_SystemUse_addTarget_84 rfl hl (by decide) rfl (fun ls hl => ?_)
              have hl : lv_has ls 5 [(3, .int v18), (0, .ref u0), (1, .ref tt), (2, .int op), (4, .int kx)] := hl
              have hP := hP.sub (ws' := [(en, .inl (cI, 4, .inl ef)), (u0, .inr (8, [.ref pb, .ref en, .int uc, .int uk])), (pb, .inr (1, [.ref pq, .int lL])), (pq, .inl (cB, 400, .inl lf))]) [0, 1, 2, 3] rfl
              have hD := hD.sub (ws' := [(en, .inl (cI, 4, .inl ef)), (u0, .inr (8, [.ref pb, .ref en, .int uc, .int uk])), (pb, .inr (1, [.ref pq, .int lL])), (pq, .inl (cB, 400, .inl lf))]) [0, 1, 2, 3] (by decide +kernel) rfl
              have hl := lv_sub hl [1, 2, 3, 0, 4] rfl
              exact kk85 _ v18 lL lf _ _ _ rfl ((by (try dsimp only); first | assumption | omega | trivial)) ((by have h7 := i_cl (a := kx) (by omega); have h6 := i_cl (a := fr) (by omega); (have hm : kx.toNatClampNeg = nt ∨ (gv kx.toNatClampNeg).toInt = 47 := by omega); have h5 := i_cl (a := v18) (by omega); rw [cpF_hit hm]; omega)) ((by have h7 := i_cl (a := kx) (by omega); have h6 := i_cl (a := fr) (by omega); (have hm : kx.toNatClampNeg = nt ∨ (gv kx.toNatClampNeg).toInt = 47 := by omega); rw [cpT_hit hm, ← e7]; unfold csz; rw [if_neg (by omega)]; omega)) ((by have h7 := i_cl (a := kx) (by omega); have h6 := i_cl (a := fr) (by omega); (have hm : kx.toNatClampNeg = nt ∨ (gv kx.toNatClampNeg).toInt = 47 := by omega); rw [cpB_hit hm, ← e7]; unfold coL; rw [if_neg (by omega), List.append_nil]; exact e8b)) hP hD hS hl
            · skip
              have g62_27 : ¬ kx.toInt ≤ fr.toInt := fun h8 => h_9 ((i_le rfl rfl).mpr h8)
              refine lv_aload_n hx hb d_SystemUse_addTarget_65 rfl (lv_at hl 0 rfl) ?_
              refine lv_aload_n hx hb d_SystemUse_addTarget_66 rfl (lv_at hl 1 rfl) ?_
              refine lv_aload_n hx hb d_SystemUse_addTarget_67 rfl (lv_at hl 1 rfl) ?_
              refine lv_iload_n hx hb d_SystemUse_addTarget_68 rfl (lv_at hl 3 rfl) ?_
              refine lv_iload hx hb d_SystemUse_addTarget_69 (lv_at hl 4 rfl) ?_
              have hPc := hP.sub (ws' := []) [] rfl
              have hDc := hD.sub (ws' := []) [] (by decide +kernel) rfl
              have hFc := va_free (wc := []) hD hS hA [] rfl
              have hkc : 0 ≤ 0 := by decide
              have hks : 0 ≤ 0 := by decide
              refine va_calli (va_runS (As := [.ref tt, .int fr, .int kx]) (rest := [.ref tt, .ref u0]) ⟨hx, hb, hml, hown, hts⟩ (c3_marksOf l D cB cI cJ cZ cN cF H.size tt nt gv fr kx (by (try dsimp only); first | assumption | omega | trivial) (by (try dsimp only); first | assumption | omega | trivial)) (cwS 3 hts (lg_goodS k919 k920 k122 kc_SystemUse_marksOf) rfl rfl rfl (by decide +kernel) ⟨Nat.le_of_ble_eq_true rfl, Nat.le_of_ble_eq_true rfl⟩) ⟨fun a U g mk q => by obtain ⟨q0, q1, qP, qK, qN, qD, qZ0⟩ := q; exact ⟨q0, q1, qP, va_K.moved (u := U) (U := U.calling g mk a) (Vm.Alike.refl U.vm) qK, qN.calling, qD, RO_blind qZ0⟩, fun U hU hW => ⟨rfl, by rw [hU], by rw [hU]; exact hPc, va_K.moved hW.alike hK, NN.warm hW hN, hDc.weaken (fun _ _ _ _ => trivial), (RO_pass (RO_one hZr 0 rfl) hS hFc hU)⟩⟩ rfl rfl hl.1 rfl (lv_room (Nat.le_of_ble_eq_true rfl)) d_SystemUse_addTarget_71 ⟨hkc, hks⟩) hS (fun q _ h => hFc q h) hFc (fun r19 u t H1 locs ht hvm hp_r19 hB hz1 hk1 hS => ?_)
              obtain ⟨hP1, hD1⟩ := hB
              rw [ht] at hP1
              obtain ⟨hP, hD⟩ := va_join (wr := [(en, .inl (cI, 4, .inl ef)), (u0, .inr (8, [.ref pb, .ref en, .int uc, .int uk])), (pb, .inr (1, [.ref pq, .int lL])), (pq, .inl (cB, 400, .inl lf))]) (w1 := []) hP hD [] [0, 1, 2, 3] rfl rfl (by decide +kernel) (by decide +kernel) hk1 hFc hP1 hD1
              clear hPc hDc hFc hP1 hD1 hk1 hz1 hkc hks
              generalize H1 = H at hP hS ⊢
              have hP : va_P D CL [(en, .inl (cI, 4, .inl ef)), (u0, .inr (8, [.ref pb, .ref en, .int uc, .int uk])), (pb, .inr (1, [.ref pq, .int lL])), (pq, .inl (cB, 400, .inl lf))] H := hP
              have hD : va_D A [(en, .inl (cI, 4, .inl ef)), (u0, .inr (8, [.ref pb, .ref en, .int uc, .int uk])), (pb, .inr (1, [.ref pq, .int lL])), (pq, .inl (cB, 400, .inl lf))] := hD
              try dsimp only at hp_r19
              have hm_20 := hp_r19
              refine lv_iload_n hx hb d_SystemUse_addTarget_74 rfl (lv_at hl 3 rfl) ?_
              refine lv_iload hx hb d_SystemUse_addTarget_75 (lv_at hl 4 rfl) ?_
              have hPc := hP.sub (ws' := [(u0, .inr (8, [.ref pb, .ref en, .int uc, .int uk])), (pb, .inr (1, [.ref pq, .int lL])), (pq, .inl (cB, 400, .inl lf))]) [1, 2, 3] rfl
              have hDc := hD.sub (ws' := [(u0, .inr (8, [.ref pb, .ref en, .int uc, .int uk])), (pb, .inr (1, [.ref pq, .int lL])), (pq, .inl (cB, 400, .inl lf))]) [1, 2, 3] (by decide +kernel) rfl
              have hFc := va_free (wc := [(u0, .inr (8, [.ref pb, .ref en, .int uc, .int uk])), (pb, .inr (1, [.ref pq, .int lL])), (pq, .inl (cB, 400, .inl lf))]) hD hS hA [1, 2, 3] rfl
              have hkc : 0 ≤ 0 := by decide
              have hks : 0 ≤ 0 := by decide
              refine va_callv (va_runV (C := "DiscMaker$SystemUse") (As := [.ref tt, .int r19, .int fr, .int kx]) (rest := []) ⟨hx, hb, hml, hown, hts⟩ (c3_addComponentF l D cB cI cJ cZ cN cF H.size u0 pb pq en uc uk lL lf tt nt gv r19 fr kx (by (try dsimp only); first | assumption | omega | trivial) (by (try dsimp only); first | assumption | omega | trivial) (by (try dsimp only); first | assumption | omega | trivial)) (cwV 4 hts (lg_goodV k915 k917 k10 k122 kc_SystemUse_addComponent) rfl rfl rfl (by decide +kernel) ⟨Nat.le_of_ble_eq_true rfl, Nat.le_of_ble_eq_true rfl⟩) ⟨fun a U g mk q => by obtain ⟨q0, q1, qP, qK, qN, qD, qZ0⟩ := q; exact ⟨q0, q1, qP, va_K.moved (u := U) (U := U.calling g mk a) (Vm.Alike.refl U.vm) qK, qN.calling, qD, RO_blind qZ0⟩, va_recv hK hP (ci := 8) (q0 := 1) rfl rfl, fun U hU hW => ⟨rfl, by rw [hU], by rw [hU]; exact hPc, va_K.moved hW.alike hK, NN.warm hW hN, hDc.weaken (fun _ _ _ _ => trivial), (RO_pass (RO_one hZr 0 rfl) hS hFc hU)⟩⟩ rfl rfl hl.1 rfl (lv_room (Nat.le_of_ble_eq_true rfl)) d_SystemUse_addTarget_77 ⟨hkc, hks⟩) hS (fun q _ h => hFc q h) hFc (fun u t H1 locs ht hvm hp_r21 hB hz1 hk1 hS => ?_)
              obtain ⟨L2_22, g_23⟩ := u
              obtain ⟨hP1, hD1⟩ := hB
              rw [ht] at hP1
              obtain ⟨hP, hD⟩ := va_join (wr := [(en, .inl (cI, 4, .inl ef))]) (w1 := [(u0, .inr (8, [.ref pb, .ref en, .int uc, .int uk])), (pb, .inr (1, [.ref pq, .int L2_22])), (pq, .inl (cB, 400, .inl g_23))]) hP hD [1, 2, 3] [0] rfl rfl (by decide +kernel) (by decide +kernel) hk1 hFc hP1 hD1
              clear hPc hDc hFc hP1 hD1 hk1 hz1 hkc hks
              generalize H1 = H at hP hS ⊢
              have hP : va_P D CL [(en, .inl (cI, 4, .inl ef)), (u0, .inr (8, [.ref pb, .ref en, .int uc, .int uk])), (pb, .inr (1, [.ref pq, .int L2_22])), (pq, .inl (cB, 400, .inl g_23))] H := hP
              have hD : va_D A [(en, .inl (cI, 4, .inl ef)), (u0, .inr (8, [.ref pb, .ref en, .int uc, .int uk])), (pb, .inr (1, [.ref pq, .int L2_22])), (pq, .inl (cB, 400, .inl g_23))] := hD
              try dsimp only at hp_r21
              obtain ⟨hE_24, hw_25⟩ := hp_r21
              refine lv_iload hx hb d_SystemUse_addTarget_80 (lv_at hl 4 rfl) ?_
              refine lv_iconst (v := 1) hx hb d_SystemUse_addTarget_82 (by decide) ?_
              refine lv_iadd hx hb d_SystemUse_addTarget_83 ?_
              refine lv_topi (fun v26 e_v26 => ?_)
              have t_v26 : v26.toInt = kx.toInt + 1 := by rw [e_v26]; exact i_add rfl (by decide) (by omega) (by omega)
              refine lv_istore_n hx hb d_SystemUse_addTarget_84 rfl hl (by decide) rfl (fun ls hl => ?_)
              have hl : lv_has ls 5 [(3, .int v26), (0, .ref u0), (1, .ref tt), (2, .int op), (4, .int kx)] := hl
              have hP := hP.sub (ws' := [(en, .inl (cI, 4, .inl ef)), (u0, .inr (8, [.ref pb, .ref en, .int uc, .int uk])), (pb, .inr (1, [.ref pq, .int L2_22])), (pq, .inl (cB, 400, .inl g_23))]) [0, 1, 2, 3] rfl
              have hD := hD.sub (ws' := [(en, .inl (cI, 4, .inl ef)), (u0, .inr (8, [.ref pb, .ref en, .int uc, .int uk])), (pb, .inr (1, [.ref pq, .int L2_22])), (pq, .inl (cB, 400, .inl g_23))]) [0, 1, 2, 3] (by decide +kernel) rfl
              have hl := lv_sub hl [1, 2, 3, 0, 4] rfl
              exact kk85 _ v26 L2_22 g_23 _ _ _ rfl ((by (try dsimp only); first | assumption | omega | trivial)) ((by have h7 := i_cl (a := kx) (by omega); have h6 := i_cl (a := fr) (by omega); (have hm : kx.toNatClampNeg = nt ∨ (gv kx.toNatClampNeg).toInt = 47 := by omega); have h5 := i_cl (a := v26) (by omega); rw [cpF_hit hm]; omega)) ((by have h7 := i_cl (a := kx) (by omega); have h6 := i_cl (a := fr) (by omega); (have hm : kx.toNatClampNeg = nt ∨ (gv kx.toNatClampNeg).toInt = 47 := by omega); rw [cpT_hit hm, ← e7]; unfold csz; rw [if_pos (by omega), ← hm_20]; rcases hE_24 with ⟨z7, z6⟩ | ⟨z7, z6⟩ <;> first | (rw [if_pos z7]; omega) | (rw [if_neg z7]; omega))) ((by have h7 := i_cl (a := kx) (by omega); have h6 := i_cl (a := fr) (by omega); (have hm : kx.toNatClampNeg = nt ∨ (gv kx.toNatClampNeg).toInt = 47 := by omega); rw [cpB_hit hm, ← e7, ← cmX_co (by omega) hm_20, ← List.append_assoc]; exact BL.app e8b hw_25 (by rw [List.length_append, List.length_append]; (have hc1 := t0B_len gv nt); (have hc2 := cpB_len gv nt kx.toNatClampNeg); show _ = pL.toInt + ((5 + _ + _ : Nat) : Int); omega))) hP hD hS hl
          · skip
            have g47_24 : ¬ kx.toInt = v17.toInt := fun h8 => h_9 ((i_eq rfl rfl).mpr h8)
            refine lv_aload_n hx hb d_SystemUse_addTarget_50 rfl (lv_at hl 1 rfl) ?_
            refine lv_iload hx hb d_SystemUse_addTarget_51 (lv_at hl 4 rfl) ?_
            have hPR := RO_at hZr hS
            refine va_bald hx hb hK hPR 0 0 rfl rfl (vp_in_iff.mpr ⟨by omega, by omega⟩) d_SystemUse_addTarget_53 ?_
            refine lv_topi (fun v27 e_v27 => ?_)
            have w_v27 : v27.toInt = (gv kx.toNatClampNeg).toInt := congrArg Int32.toInt e_v27
            refine lv_bipush (v := 47) hx hb d_SystemUse_addTarget_54 (by decide) ?_
            refine lv_icmp_ne (tgt := 85) hx hb d_SystemUse_addTarget_56 (by decide) (fun h_9 => ?_) (fun h_9 => ?_)
            · skip
              have g56_51 : ¬ v27.toInt = 47 := fun h8 => h_9 ((i_eq rfl (by decide)).mpr h8)
              have hP := hP.sub (ws' := [(en, .inl (cI, 4, .inl ef)), (u0, .inr (8, [.ref pb, .ref en, .int uc, .int uk])), (pb, .inr (1, [.ref pq, .int lL])), (pq, .inl (cB, 400, .inl lf))]) [0, 1, 2, 3] rfl
              have hD := hD.sub (ws' := [(en, .inl (cI, 4, .inl ef)), (u0, .inr (8, [.ref pb, .ref en, .int uc, .int uk])), (pb, .inr (1, [.ref pq, .int lL])), (pq, .inl (cB, 400, .inl lf))]) [0, 1, 2, 3] (by decide +kernel) rfl
              have hl := lv_sub hl [0, 1, 2, 3, 4] rfl
              exact kk85 _ fr lL lf _ _ _ rfl ((by (try dsimp only); first | assumption | omega | trivial)) ((by have h7 := i_cl (a := kx) (by omega); have h6 := i_cl (a := fr) (by omega); (have hm : ¬ (kx.toNatClampNeg = nt ∨ (gv kx.toNatClampNeg).toInt = 47) := by omega); rw [cpF_miss hm]; exact e7)) ((by have h7 := i_cl (a := kx) (by omega); have h6 := i_cl (a := fr) (by omega); (have hm : ¬ (kx.toNatClampNeg = nt ∨ (gv kx.toNatClampNeg).toInt = 47) := by omega); rw [cpT_miss hm]; exact e8)) ((by have h7 := i_cl (a := kx) (by omega); have h6 := i_cl (a := fr) (by omega); (have hm : ¬ (kx.toNatClampNeg = nt ∨ (gv kx.toNatClampNeg).toInt = 47) := by omega); rw [cpB_miss hm]; exact e8b)) hP hD hS hl
            · skip
              have g56_51 : v27.toInt = 47 := (i_eq rfl (by decide)).mp h_9
              refine lv_iload hx hb d_SystemUse_addTarget_59 (lv_at hl 4 rfl) ?_
              refine lv_iload_n hx hb d_SystemUse_addTarget_61 rfl (lv_at hl 3 rfl) ?_
              refine lv_icmp_le (tgt := 80) hx hb d_SystemUse_addTarget_62 (by decide) (fun h_9 => ?_) (fun h_9 => ?_)
              · skip
                have g62_55 : kx.toInt ≤ fr.toInt := (i_le rfl rfl).mp h_9
                refine lv_iload hx hb d_SystemUse_addTarget_80 (lv_at hl 4 rfl) ?_
                refine lv_iconst (v := 1) hx hb d_SystemUse_addTarget_82 (by decide) ?_
                refine lv_iadd hx hb d_SystemUse_addTarget_83 ?_
                refine lv_topi (fun v28 e_v28 => ?_)
                have t_v28 : v28.toInt = kx.toInt + 1 := by rw [e_v28]; exact i_add rfl (by decide) (by omega) (by omega)
                refine lv_istore_n hx hb d_SystemUse_addTarget_84 rfl hl (by decide) rfl (fun ls hl => ?_)
                have hl : lv_has ls 5 [(3, .int v28), (0, .ref u0), (1, .ref tt), (2, .int op), (4, .int kx)] := hl
                have hP := hP.sub (ws' := [(en, .inl (cI, 4, .inl ef)), (u0, .inr (8, [.ref pb, .ref en, .int uc, .int uk])), (pb, .inr (1, [.ref pq, .int lL])), (pq, .inl (cB, 400, .inl lf))]) [0, 1, 2, 3] rfl
                have hD := hD.sub (ws' := [(en, .inl (cI, 4, .inl ef)), (u0, .inr (8, [.ref pb, .ref en, .int uc, .int uk])), (pb, .inr (1, [.ref pq, .int lL])), (pq, .inl (cB, 400, .inl lf))]) [0, 1, 2, 3] (by decide +kernel) rfl
                have hl := lv_sub hl [1, 2, 3, 0, 4] rfl
                exact kk85 _ v28 lL lf _ _ _ rfl ((by (try dsimp only); first | assumption | omega | trivial)) ((by have h7 := i_cl (a := kx) (by omega); have h6 := i_cl (a := fr) (by omega); (have hm : kx.toNatClampNeg = nt ∨ (gv kx.toNatClampNeg).toInt = 47 := by omega); have h5 := i_cl (a := v28) (by omega); rw [cpF_hit hm]; omega)) ((by have h7 := i_cl (a := kx) (by omega); have h6 := i_cl (a := fr) (by omega); (have hm : kx.toNatClampNeg = nt ∨ (gv kx.toNatClampNeg).toInt = 47 := by omega); rw [cpT_hit hm, ← e7]; unfold csz; rw [if_neg (by omega)]; omega)) ((by have h7 := i_cl (a := kx) (by omega); have h6 := i_cl (a := fr) (by omega); (have hm : kx.toNatClampNeg = nt ∨ (gv kx.toNatClampNeg).toInt = 47 := by omega); rw [cpB_hit hm, ← e7]; unfold coL; rw [if_neg (by omega), List.append_nil]; exact e8b)) hP hD hS hl
              · skip
                have g62_55 : ¬ kx.toInt ≤ fr.toInt := fun h8 => h_9 ((i_le rfl rfl).mpr h8)
                refine lv_aload_n hx hb d_SystemUse_addTarget_65 rfl (lv_at hl 0 rfl) ?_
                refine lv_aload_n hx hb d_SystemUse_addTarget_66 rfl (lv_at hl 1 rfl) ?_
                refine lv_aload_n hx hb d_SystemUse_addTarget_67 rfl (lv_at hl 1 rfl) ?_
                refine lv_iload_n hx hb d_SystemUse_addTarget_68 rfl (lv_at hl 3 rfl) ?_
                refine lv_iload hx hb d_SystemUse_addTarget_69 (lv_at hl 4 rfl) ?_
                have hPc := hP.sub (ws' := []) [] rfl
                have hDc := hD.sub (ws' := []) [] (by decide +kernel) rfl
                have hFc := va_free (wc := []) hD hS hA [] rfl
                have hkc : 0 ≤ 0 := by decide
                have hks : 0 ≤ 0 := by decide
                refine va_calli (va_runS (As := [.ref tt, .int fr, .int kx]) (rest := [.ref tt, .ref u0]) ⟨hx, hb, hml, hown, hts⟩ (c3_marksOf l D cB cI cJ cZ cN cF H.size tt nt gv fr kx (by (try dsimp only); first | assumption | omega | trivial) (by (try dsimp only); first | assumption | omega | trivial)) (cwS 3 hts (lg_goodS k919 k920 k122 kc_SystemUse_marksOf) rfl rfl rfl (by decide +kernel) ⟨Nat.le_of_ble_eq_true rfl, Nat.le_of_ble_eq_true rfl⟩) ⟨fun a U g mk q => by obtain ⟨q0, q1, qP, qK, qN, qD, qZ0⟩ := q; exact ⟨q0, q1, qP, va_K.moved (u := U) (U := U.calling g mk a) (Vm.Alike.refl U.vm) qK, qN.calling, qD, RO_blind qZ0⟩, fun U hU hW => ⟨rfl, by rw [hU], by rw [hU]; exact hPc, va_K.moved hW.alike hK, NN.warm hW hN, hDc.weaken (fun _ _ _ _ => trivial), (RO_pass (RO_one hZr 0 rfl) hS hFc hU)⟩⟩ rfl rfl hl.1 rfl (lv_room (Nat.le_of_ble_eq_true rfl)) d_SystemUse_addTarget_71 ⟨hkc, hks⟩) hS (fun q _ h => hFc q h) hFc (fun r29 u t H1 locs ht hvm hp_r29 hB hz1 hk1 hS => ?_)
                obtain ⟨hP1, hD1⟩ := hB
                rw [ht] at hP1
                obtain ⟨hP, hD⟩ := va_join (wr := [(en, .inl (cI, 4, .inl ef)), (u0, .inr (8, [.ref pb, .ref en, .int uc, .int uk])), (pb, .inr (1, [.ref pq, .int lL])), (pq, .inl (cB, 400, .inl lf))]) (w1 := []) hP hD [] [0, 1, 2, 3] rfl rfl (by decide +kernel) (by decide +kernel) hk1 hFc hP1 hD1
                clear hPc hDc hFc hP1 hD1 hk1 hz1 hkc hks
                generalize H1 = H at hP hS ⊢
                have hP : va_P D CL [(en, .inl (cI, 4, .inl ef)), (u0, .inr (8, [.ref pb, .ref en, .int uc, .int uk])), (pb, .inr (1, [.ref pq, .int lL])), (pq, .inl (cB, 400, .inl lf))] H := hP
                have hD : va_D A [(en, .inl (cI, 4, .inl ef)), (u0, .inr (8, [.ref pb, .ref en, .int uc, .int uk])), (pb, .inr (1, [.ref pq, .int lL])), (pq, .inl (cB, 400, .inl lf))] := hD
                try dsimp only at hp_r29
                have hm_30 := hp_r29
                refine lv_iload_n hx hb d_SystemUse_addTarget_74 rfl (lv_at hl 3 rfl) ?_
                refine lv_iload hx hb d_SystemUse_addTarget_75 (lv_at hl 4 rfl) ?_
                have hPc := hP.sub (ws' := [(u0, .inr (8, [.ref pb, .ref en, .int uc, .int uk])), (pb, .inr (1, [.ref pq, .int lL])), (pq, .inl (cB, 400, .inl lf))]) [1, 2, 3] rfl
                have hDc := hD.sub (ws' := [(u0, .inr (8, [.ref pb, .ref en, .int uc, .int uk])), (pb, .inr (1, [.ref pq, .int lL])), (pq, .inl (cB, 400, .inl lf))]) [1, 2, 3] (by decide +kernel) rfl
                have hFc := va_free (wc := [(u0, .inr (8, [.ref pb, .ref en, .int uc, .int uk])), (pb, .inr (1, [.ref pq, .int lL])), (pq, .inl (cB, 400, .inl lf))]) hD hS hA [1, 2, 3] rfl
                have hkc : 0 ≤ 0 := by decide
                have hks : 0 ≤ 0 := by decide
                refine va_callv (va_runV (C := "DiscMaker$SystemUse") (As := [.ref tt, .int r29, .int fr, .int kx]) (rest := []) ⟨hx, hb, hml, hown, hts⟩ (c3_addComponentF l D cB cI cJ cZ cN cF H.size u0 pb pq en uc uk lL lf tt nt gv r29 fr kx (by (try dsimp only); first | assumption | omega | trivial) (by (try dsimp only); first | assumption | omega | trivial) (by (try dsimp only); first | assumption | omega | trivial)) (cwV 4 hts (lg_goodV k915 k917 k10 k122 kc_SystemUse_addComponent) rfl rfl rfl (by decide +kernel) ⟨Nat.le_of_ble_eq_true rfl, Nat.le_of_ble_eq_true rfl⟩) ⟨fun a U g mk q => by obtain ⟨q0, q1, qP, qK, qN, qD, qZ0⟩ := q; exact ⟨q0, q1, qP, va_K.moved (u := U) (U := U.calling g mk a) (Vm.Alike.refl U.vm) qK, qN.calling, qD, RO_blind qZ0⟩, va_recv hK hP (ci := 8) (q0 := 1) rfl rfl, fun U hU hW => ⟨rfl, by rw [hU], by rw [hU]; exact hPc, va_K.moved hW.alike hK, NN.warm hW hN, hDc.weaken (fun _ _ _ _ => trivial), (RO_pass (RO_one hZr 0 rfl) hS hFc hU)⟩⟩ rfl rfl hl.1 rfl (lv_room (Nat.le_of_ble_eq_true rfl)) d_SystemUse_addTarget_77 ⟨hkc, hks⟩) hS (fun q _ h => hFc q h) hFc (fun u t H1 locs ht hvm hp_r31 hB hz1 hk1 hS => ?_)
                obtain ⟨L2_32, g_33⟩ := u
                obtain ⟨hP1, hD1⟩ := hB
                rw [ht] at hP1
                obtain ⟨hP, hD⟩ := va_join (wr := [(en, .inl (cI, 4, .inl ef))]) (w1 := [(u0, .inr (8, [.ref pb, .ref en, .int uc, .int uk])), (pb, .inr (1, [.ref pq, .int L2_32])), (pq, .inl (cB, 400, .inl g_33))]) hP hD [1, 2, 3] [0] rfl rfl (by decide +kernel) (by decide +kernel) hk1 hFc hP1 hD1
                clear hPc hDc hFc hP1 hD1 hk1 hz1 hkc hks
                generalize H1 = H at hP hS ⊢
                have hP : va_P D CL [(en, .inl (cI, 4, .inl ef)), (u0, .inr (8, [.ref pb, .ref en, .int uc, .int uk])), (pb, .inr (1, [.ref pq, .int L2_32])), (pq, .inl (cB, 400, .inl g_33))] H := hP
                have hD : va_D A [(en, .inl (cI, 4, .inl ef)), (u0, .inr (8, [.ref pb, .ref en, .int uc, .int uk])), (pb, .inr (1, [.ref pq, .int L2_32])), (pq, .inl (cB, 400, .inl g_33))] := hD
                try dsimp only at hp_r31
                obtain ⟨hE_34, hw_35⟩ := hp_r31
                refine lv_iload hx hb d_SystemUse_addTarget_80 (lv_at hl 4 rfl) ?_
                refine lv_iconst (v := 1) hx hb d_SystemUse_addTarget_82 (by decide) ?_
                refine lv_iadd hx hb d_SystemUse_addTarget_83 ?_
                refine lv_topi (fun v36 e_v36 => ?_)
                have t_v36 : v36.toInt = kx.toInt + 1 := by rw [e_v36]; exact i_add rfl (by decide) (by omega) (by omega)
                refine lv_istore_n hx hb d_SystemUse_addTarget_84 rfl hl (by decide) rfl (fun ls hl => ?_)
                have hl : lv_has ls 5 [(3, .int v36), (0, .ref u0), (1, .ref tt), (2, .int op), (4, .int kx)] := hl
                have hP := hP.sub (ws' := [(en, .inl (cI, 4, .inl ef)), (u0, .inr (8, [.ref pb, .ref en, .int uc, .int uk])), (pb, .inr (1, [.ref pq, .int L2_32])), (pq, .inl (cB, 400, .inl g_33))]) [0, 1, 2, 3] rfl
                have hD := hD.sub (ws' := [(en, .inl (cI, 4, .inl ef)), (u0, .inr (8, [.ref pb, .ref en, .int uc, .int uk])), (pb, .inr (1, [.ref pq, .int L2_32])), (pq, .inl (cB, 400, .inl g_33))]) [0, 1, 2, 3] (by decide +kernel) rfl
                have hl := lv_sub hl [1, 2, 3, 0, 4] rfl
                exact kk85 _ v36 L2_32 g_33 _ _ _ rfl ((by (try dsimp only); first | assumption | omega | trivial)) ((by have h7 := i_cl (a := kx) (by omega); have h6 := i_cl (a := fr) (by omega); (have hm : kx.toNatClampNeg = nt ∨ (gv kx.toNatClampNeg).toInt = 47 := by omega); have h5 := i_cl (a := v36) (by omega); rw [cpF_hit hm]; omega)) ((by have h7 := i_cl (a := kx) (by omega); have h6 := i_cl (a := fr) (by omega); (have hm : kx.toNatClampNeg = nt ∨ (gv kx.toNatClampNeg).toInt = 47 := by omega); rw [cpT_hit hm, ← e7]; unfold csz; rw [if_pos (by omega), ← hm_30]; rcases hE_34 with ⟨z7, z6⟩ | ⟨z7, z6⟩ <;> first | (rw [if_pos z7]; omega) | (rw [if_neg z7]; omega))) ((by have h7 := i_cl (a := kx) (by omega); have h6 := i_cl (a := fr) (by omega); (have hm : kx.toNatClampNeg = nt ∨ (gv kx.toNatClampNeg).toInt = 47 := by omega); rw [cpB_hit hm, ← e7, ← cmX_co (by omega) hm_30, ← List.append_assoc]; exact BL.app e8b hw_35 (by rw [List.length_append, List.length_append]; (have hc1 := t0B_len gv nt); (have hc2 := cpB_len gv nt kx.toNatClampNeg); show _ = pL.toInt + ((5 + _ + _ : Nat) : Int); omega))) hP hD hS hl
    · skip
      intro kk36
      have hP := hP.sub (ws' := [(en, .inl (cI, 4, .inl ef)), (u0, .inr (8, [.ref pb, .ref en, .int uc, .int uk])), (pb, .inr (1, [.ref pq, .int jL])), (pq, .inl (cB, 400, .inl jf))]) [0, 1, 2, 3] rfl
      have hD := hD.sub (ws' := [(en, .inl (cI, 4, .inl ef)), (u0, .inr (8, [.ref pb, .ref en, .int uc, .int uk])), (pb, .inr (1, [.ref pq, .int jL])), (pq, .inl (cB, 400, .inl jf))]) [0, 1, 2, 3] (by decide +kernel) rfl
      have hl := lv_sub hl [2, 3, 4, 1, 0] rfl
      exact kk36 _ 0 0 jL jf _ _ _ rfl ((by (try dsimp only); first | assumption | omega | trivial)) ((by rw [show (0 : Int32).toNatClampNeg = 0 by decide]; rfl)) ((by rw [show (0 : Int32).toNatClampNeg = 0 by decide]; simp only [cpT]; omega)) ((by rw [show (0 : Int32).toNatClampNeg = 0 by decide]; exact e6b.cast rfl (by rw [show cpB gv nt 0 = [] from rfl, List.append_nil]))) hP hD hS hl
  · skip
    intro kk31
    refine lv_aload_n hx hb d_SystemUse_addTarget_9 rfl (lv_at hl 2 rfl) ?_
    have hPR := RO_at hZr hS
    refine va_alen (v := nI nt) hx hb hK hPR 0 0 rfl rfl rfl d_SystemUse_addTarget_10 ?_
    refine lv_topi (fun v37 e_v37 => ?_)
    have t_v37 : v37.toInt = nt := by rw [e_v37]; exact nI_toInt (by omega)
    refine lv_if_le (tgt := 31) hx hb d_SystemUse_addTarget_11 (by decide) (fun h_9 => ?_) (fun h_9 => ?_)
    · skip
      have g11_77 : v37.toInt ≤ 0 := (i_le rfl (by decide)).mp h_9
      have hP := hP.sub (ws' := [(en, .inl (cI, 4, .inl ef)), (u0, .inr (8, [.ref pb, .ref en, .int uc, .int uk])), (pb, .inr (1, [.ref pq, .int L2_2])), (pq, .inl (cB, 400, .inl g_3))]) [0, 1, 2, 3] rfl
      have hD := hD.sub (ws' := [(en, .inl (cI, 4, .inl ef)), (u0, .inr (8, [.ref pb, .ref en, .int uc, .int uk])), (pb, .inr (1, [.ref pq, .int L2_2])), (pq, .inl (cB, 400, .inl g_3))]) [0, 1, 2, 3] (by decide +kernel) rfl
      have hl := lv_sub hl [1, 2, 0] rfl
      exact kk31 _ r1 L2_2 g_3 _ _ _ rfl ((by (try dsimp only); first | assumption | omega | trivial)) ((by unfold t0F; first | (rw [if_pos ⟨by omega, by omega⟩]; omega) | (rw [if_neg (fun h8 => by have h9 := h8.1; omega)]; omega) | (rw [if_neg (fun h8 => by have h9 := h8.2; omega)]; omega))) ((by unfold t0B; first | (rw [if_neg (fun h8 => by have h9 := h8.1; omega)]; exact (hw_6).cast rfl rfl) | (rw [if_neg (fun h8 => by have h9 := h8.2; omega)]; exact (hw_6).cast rfl rfl))) hP hD hS hl
    · skip
      have g11_77 : ¬ v37.toInt ≤ 0 := fun h8 => h_9 ((i_le rfl (by decide)).mpr h8)
      refine lv_aload_n hx hb d_SystemUse_addTarget_14 rfl (lv_at hl 2 rfl) ?_
      refine lv_iconst (v := 0) hx hb d_SystemUse_addTarget_15 (by decide) ?_
      have hPR := RO_at hZr hS
      refine va_bald hx hb hK hPR 0 0 rfl rfl (vp_in_iff.mpr ⟨by omega, by omega⟩) d_SystemUse_addTarget_16 ?_
      refine lv_topi (fun v38 e_v38 => ?_)
      have w_v38 : v38.toInt = (gv 0).toInt := congrArg Int32.toInt e_v38
      refine lv_bipush (v := 47) hx hb d_SystemUse_addTarget_17 (by decide) ?_
      refine lv_icmp_ne (tgt := 31) hx hb d_SystemUse_addTarget_19 (by decide) (fun h_9 => ?_) (fun h_9 => ?_)
      · skip
        have g19_83 : ¬ v38.toInt = 47 := fun h8 => h_9 ((i_eq rfl (by decide)).mpr h8)
        have hP := hP.sub (ws' := [(en, .inl (cI, 4, .inl ef)), (u0, .inr (8, [.ref pb, .ref en, .int uc, .int uk])), (pb, .inr (1, [.ref pq, .int L2_2])), (pq, .inl (cB, 400, .inl g_3))]) [0, 1, 2, 3] rfl
        have hD := hD.sub (ws' := [(en, .inl (cI, 4, .inl ef)), (u0, .inr (8, [.ref pb, .ref en, .int uc, .int uk])), (pb, .inr (1, [.ref pq, .int L2_2])), (pq, .inl (cB, 400, .inl g_3))]) [0, 1, 2, 3] (by decide +kernel) rfl
        have hl := lv_sub hl [1, 2, 0] rfl
        exact kk31 _ r1 L2_2 g_3 _ _ _ rfl ((by (try dsimp only); first | assumption | omega | trivial)) ((by unfold t0F; first | (rw [if_pos ⟨by omega, by omega⟩]; omega) | (rw [if_neg (fun h8 => by have h9 := h8.1; omega)]; omega) | (rw [if_neg (fun h8 => by have h9 := h8.2; omega)]; omega))) ((by unfold t0B; first | (rw [if_neg (fun h8 => by have h9 := h8.1; omega)]; exact (hw_6).cast rfl rfl) | (rw [if_neg (fun h8 => by have h9 := h8.2; omega)]; exact (hw_6).cast rfl rfl))) hP hD hS hl
      · skip
        have g19_83 : v38.toInt = 47 := (i_eq rfl (by decide)).mp h_9
        refine lv_aload_n hx hb d_SystemUse_addTarget_22 rfl (lv_at hl 1 rfl) ?_
        refine lv_aload_n hx hb d_SystemUse_addTarget_23 rfl (lv_at hl 2 rfl) ?_
        refine lv_bipush (v := 8) hx hb d_SystemUse_addTarget_24 (by decide) ?_
        refine lv_iconst (v := 0) hx hb d_SystemUse_addTarget_26 (by decide) ?_
        refine lv_iconst (v := 0) hx hb d_SystemUse_addTarget_27 (by decide) ?_
        have hPc := hP.sub (ws' := [(u0, .inr (8, [.ref pb, .ref en, .int uc, .int uk])), (pb, .inr (1, [.ref pq, .int L2_2])), (pq, .inl (cB, 400, .inl g_3))]) [1, 2, 3] rfl
        have hDc := hD.sub (ws' := [(u0, .inr (8, [.ref pb, .ref en, .int uc, .int uk])), (pb, .inr (1, [.ref pq, .int L2_2])), (pq, .inl (cB, 400, .inl g_3))]) [1, 2, 3] (by decide +kernel) rfl
        have hFc := va_free (wc := [(u0, .inr (8, [.ref pb, .ref en, .int uc, .int uk])), (pb, .inr (1, [.ref pq, .int L2_2])), (pq, .inl (cB, 400, .inl g_3))]) hD hS hA [1, 2, 3] rfl
        have hkc : 0 ≤ 0 := by decide
        have hks : 0 ≤ 0 := by decide
        refine va_callv (va_runV (C := "DiscMaker$SystemUse") (As := [.ref tt, .int 8, .int 0, .int 0]) (rest := []) ⟨hx, hb, hml, hown, hts⟩ (c3_addComponentF l D cB cI cJ cZ cN cF H.size u0 pb pq en uc uk L2_2 g_3 tt nt gv 8 0 0 (by (try dsimp only); first | assumption | omega | trivial) (by (try dsimp only); first | assumption | omega | trivial) (by (try dsimp only); first | assumption | omega | trivial)) (cwV 4 hts (lg_goodV k915 k917 k10 k122 kc_SystemUse_addComponent) rfl rfl rfl (by decide +kernel) ⟨Nat.le_of_ble_eq_true rfl, Nat.le_of_ble_eq_true rfl⟩) ⟨fun a U g mk q => by obtain ⟨q0, q1, qP, qK, qN, qD, qZ0⟩ := q; exact ⟨q0, q1, qP, va_K.moved (u := U) (U := U.calling g mk a) (Vm.Alike.refl U.vm) qK, qN.calling, qD, RO_blind qZ0⟩, va_recv hK hP (ci := 8) (q0 := 1) rfl rfl, fun U hU hW => ⟨rfl, by rw [hU], by rw [hU]; exact hPc, va_K.moved hW.alike hK, NN.warm hW hN, hDc.weaken (fun _ _ _ _ => trivial), (RO_pass (RO_one hZr 0 rfl) hS hFc hU)⟩⟩ rfl rfl hl.1 rfl (lv_room (Nat.le_of_ble_eq_true rfl)) d_SystemUse_addTarget_28 ⟨hkc, hks⟩) hS (fun q _ h => hFc q h) hFc (fun u t H1 locs ht hvm hp_r39 hB hz1 hk1 hS => ?_)
        obtain ⟨L2_40, g_41⟩ := u
        obtain ⟨hP1, hD1⟩ := hB
        rw [ht] at hP1
        obtain ⟨hP, hD⟩ := va_join (wr := [(en, .inl (cI, 4, .inl ef))]) (w1 := [(u0, .inr (8, [.ref pb, .ref en, .int uc, .int uk])), (pb, .inr (1, [.ref pq, .int L2_40])), (pq, .inl (cB, 400, .inl g_41))]) hP hD [1, 2, 3] [0] rfl rfl (by decide +kernel) (by decide +kernel) hk1 hFc hP1 hD1
        clear hPc hDc hFc hP1 hD1 hk1 hz1 hkc hks
        generalize H1 = H at hP hS ⊢
        have hP : va_P D CL [(en, .inl (cI, 4, .inl ef)), (u0, .inr (8, [.ref pb, .ref en, .int uc, .int uk])), (pb, .inr (1, [.ref pq, .int L2_40])), (pq, .inl (cB, 400, .inl g_41))] H := hP
        have hD : va_D A [(en, .inl (cI, 4, .inl ef)), (u0, .inr (8, [.ref pb, .ref en, .int uc, .int uk])), (pb, .inr (1, [.ref pq, .int L2_40])), (pq, .inl (cB, 400, .inl g_41))] := hD
        try dsimp only at hp_r39
        obtain ⟨hE_42, hw_43⟩ := hp_r39
        try rw [L_0] at hE_42
        try rw [L_8] at hE_42
        try rw [L_8] at hw_43
        have hP := hP.sub (ws' := [(en, .inl (cI, 4, .inl ef)), (u0, .inr (8, [.ref pb, .ref en, .int uc, .int uk])), (pb, .inr (1, [.ref pq, .int L2_40])), (pq, .inl (cB, 400, .inl g_41))]) [0, 1, 2, 3] rfl
        have hD := hD.sub (ws' := [(en, .inl (cI, 4, .inl ef)), (u0, .inr (8, [.ref pb, .ref en, .int uc, .int uk])), (pb, .inr (1, [.ref pq, .int L2_40])), (pq, .inl (cB, 400, .inl g_41))]) [0, 1, 2, 3] (by decide +kernel) rfl
        have hl := lv_sub hl [1, 2, 0] rfl
        exact kk31 _ r1 L2_40 g_41 _ _ _ rfl ((by (try dsimp only); first | assumption | omega | trivial)) ((by unfold t0F; first | (rw [if_pos ⟨by omega, by omega⟩]; omega) | (rw [if_neg (fun h8 => by have h9 := h8.1; omega)]; omega) | (rw [if_neg (fun h8 => by have h9 := h8.2; omega)]; omega))) ((by have h7 := hw_43; rw [show (0 : Int32).toNatClampNeg = 0 by decide] at h7; unfold t0B; rw [if_pos ⟨by omega, by omega⟩]; exact (BL.app (hw_6) h7 (by show _ = pL.toInt + ((5 : Nat) : Int); omega)).cast rfl rfl)) hP hD hS hl
