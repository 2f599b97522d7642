set_option maxHeartbeats 4000000 in
set_option maxRecDepth 100000 in
theorem c3_addKeyToF (l : Launch) (D : va_G) (cB cI cJ cZ cN cF : ClassId) (sz : Nat) (h0 : Nat) (kna : Nat) (kke : Nat) (kta : Nat) (so : Int32) (nu : Int32) (pa : Int32) (ab : Int32) (mo : Int32) (ow : Int32) (gr : Int32) (si : Int32) (sd : Int32) (c2 : Nat → Int32) (bo : Nat) (bq : Nat) (n : Nat) (L : Int32) (f : Nat → Int32) (q9 : Int) (x : Int32) (y : Int32) (hL : 0 ≤ L.toInt ∧ L.toInt ≤ n) (hn : n ≤ 3000000) (hx : 0 ≤ x.toInt ∧ 0 ≤ y.toInt ∧ x.toInt + y.toInt ≤ 11) (hq : LenP (fun j => (c2 j).toInt) x.toNatClampNeg y.toNatClampNeg q9) (hin : L.toInt + q9 ≤ n) : Met l y_Node_addKeyTo w_Node_addKeyTo ({ frames := 1, cells := 0, slots := 0, locals := 29 }) (va_Pc [.ref h0, .ref bo, .int x, .int y] (fun U => U.heap.size = sz ∧ va_P D CL [(bo, .inr (1, [.ref bq, .int L])), (bq, .inl (cB, n, .inl f))] U.heap ∧ va_K D CL (TY cB cI cJ cZ cN cF) U ∧ NN U ∧ va_D (fun _ => True) [(bo, .inr (1, [.ref bq, .int L])), (bq, .inl (cB, n, .inl f))] ∧ RO D [(h0, .inr (5, [.int so, .ref kna, .ref kke, .ref kta, .int nu, .int pa, .int ab, .int mo, .int ow, .int gr, .int si, .int sd])), (kke, .inl (cB, 11, .inl c2))] (va_A [(bo, .inr (1, [.ref bq, .int L])), (bq, .inl (cB, n, .inl f))] sz) U U.heap)) (va_Qv (fun (u : Int32 × (Nat → Int32)) => match u with | (L2, g) => (L2.toInt = L.toInt + q9) ∧ (BL (imC f) (imC g) L.toInt (byL c2 x.toNatClampNeg q9.toNat))) (fun (u : Int32 × (Nat → Int32)) (t : State) => match u with | (L2, g) => va_P D CL [(bo, .inr (1, [.ref bq, .int L2])), (bq, .inl (cB, n, .inl g))] t.heap ∧ va_D (va_A [(bo, .inr (1, [.ref bq, .int L])), (bq, .inl (cB, n, .inl f))] sz) [(bo, .inr (1, [.ref bq, .int L2])), (bq, .inl (cB, n, .inl g))]) (va_A [(bo, .inr (1, [.ref bq, .int L])), (bq, .inl (cB, n, .inl f))] sz)) 0 0 (va_A [(bo, .inr (1, [.ref bq, .int L])), (bq, .inl (cB, n, .inl f))] sz) := by
  refine Met.ofW (cc := b_Node_addKeyTo) (maxL := 6) (ret := none) (by decide +kernel) rfl ?_
  intro p e s m args below meth c s₁ B hml hv
  obtain ⟨rfl, hsz, hP, hK, hN, hD0, hZr⟩ := hv
  have hx := B.exec
  have hb := B.bytes
  have hr := B.returns
  have hts := atoms_spec (ws := w_Node_addKeyTo) B.pre
  have ht9 := fun (w : Cond) (h : w ∈ lw_g) => hts w (List.mem_cons_of_mem _ h)
  have hown : s.vm.findClass "DiscMaker$Node" = some m.cls := findClass_of_methodNamed B.named
  have hlocks := B.notSynchronized
  subst hsz
  have hD := hD0.self (sz := s.heap.size)
  generalize hAe : va_A [(bo, .inr (1, [.ref bq, .int L])), (bq, .inl (cB, n, .inl f))] s.heap.size = A at hD hZr ⊢
  have hA : ∀ q : Nat, s.heap.size ≤ q → A q := fun q h => by rw [← hAe]; exact Or.inr h
  have hS : va_S A s.heap s.heap [] := va_S.rf
  have hP : va_P D CL [(bo, .inr (1, [.ref bq, .int L])), (bq, .inl (cB, n, .inl f))] s.heap := hP
  have hl := lv_entry [.ref h0, .ref bo, .int x, .int y] (n := 6) (Nat.le_of_ble_eq_true rfl)
  rw [lg_entry_eq]
  generalize (lg_sl [.ref h0, .ref bo, .int x, .int y] ++ List.replicate (6 - (lg_sl [.ref h0, .ref bo, .int x, .int y]).length) Slot.unset).toArray = ls at hl ⊢
  have hl : lv_has ls 6 [(0, .ref h0), (1, .ref bo), (2, .int x), (3, .int y)] := hl
  have L_m1 : ((-1) : Int32).toInt = (-1) := by decide
  have L_0 : (0 : Int32).toInt = 0 := by decide
  have L_1 : (1 : Int32).toInt = 1 := by decide
  have hqr := hq.1
  have hyc9 := i_cl (a := y) (by omega)
  refine lv_aload_n hx hb d_Node_addKeyTo_0 rfl (lv_at hl 0 rfl) ?_
  refine lv_iload_n hx hb d_Node_addKeyTo_1 rfl (lv_at hl 2 rfl) ?_
  refine lv_iload_n hx hb d_Node_addKeyTo_2 rfl (lv_at hl 3 rfl) ?_
  have hPc := hP.sub (ws' := []) [] rfl
  have hDc := hD.sub (ws' := []) [] (by decide +kernel) rfl
  have hFc := va_free (wc := []) hD hS hA [] rfl
  have hPR := RO_at hZr hS
  have hkc : 0 ≤ 0 := by decide
  have hks : 0 ≤ 0 := by decide
  refine va_calli (va_runV (C := "DiscMaker$Node") (As := [.int x, .int y]) (rest := []) ⟨hx, hb, hml, hown, hts⟩ (c3_lengthOf l D cB cI cJ cZ cN cF s.heap.size h0 kna kke kta so nu pa ab mo ow gr si sd c2 x y (by (try dsimp only); first | assumption | omega | trivial)) (cwV 2 hts (lg_goodV k855 k857 k7 k118 kc_Node_lengthOf) rfl rfl rfl (by decide +kernel) ⟨Nat.le_of_ble_eq_true rfl, Nat.le_of_ble_eq_true rfl⟩) ⟨fun a U g mk q => by obtain ⟨q0, q1, qP, qK, qN, qD, qZ0⟩ := q; exact ⟨q0, q1, qP, va_K.moved (u := U) (U := U.calling g mk a) (Vm.Alike.refl U.vm) qK, qN.calling, qD, RO_blind qZ0⟩, va_recv hK hPR (ci := 5) (q0 := 0) rfl rfl, fun U hU hW => ⟨rfl, by rw [hU], by rw [hU]; exact hPc, va_K.moved hW.alike hK, NN.warm hW hN, hDc.weaken (fun _ _ _ _ => trivial), (RO_app (w1 := [(h0, .inr (5, [.int so, .ref kna, .ref kke, .ref kta, .int nu, .int pa, .int ab, .int mo, .int ow, .int gr, .int si, .int sd]))]) (w2 := [(kke, .inl (cB, 11, .inl c2))]) (RO_pass (RO_one hZr 0 rfl) hS hFc hU) (RO_pass (RO_one hZr 1 rfl) hS hFc hU))⟩⟩ rfl rfl hl.1 rfl (lv_room (Nat.le_of_ble_eq_true rfl)) d_Node_addKeyTo_3 ⟨hkc, hks⟩) hS (fun q _ h => hFc q h) hFc (fun r1 u t H1 locs ht hvm hp_r1 hB hz1 hk1 hS => ?_)
  obtain ⟨hP1, hD1⟩ := hB
  rw [ht] at hP1
  obtain ⟨hP, hD⟩ := va_join (wr := [(bo, .inr (1, [.ref bq, .int L])), (bq, .inl (cB, n, .inl f))]) (w1 := []) hP hD [] [0, 1] rfl rfl (by decide +kernel) (by decide +kernel) hk1 hFc hP1 hD1
  clear hPc hDc hFc hP1 hD1 hk1 hz1 hkc hks
  generalize H1 = H at hP hS ⊢
  have hP : va_P D CL [(bo, .inr (1, [.ref bq, .int L])), (bq, .inl (cB, n, .inl f))] H := hP
  have hD : va_D A [(bo, .inr (1, [.ref bq, .int L])), (bq, .inl (cB, n, .inl f))] := hD
  try dsimp only at hp_r1
  obtain ⟨hr_2, hl9_3⟩ := hp_r1
  refine lv_istore hx hb d_Node_addKeyTo_6 hl (by decide) rfl (fun ls hl => ?_)
  have hl : lv_has ls 6 [(4, .int r1), (0, .ref h0), (1, .ref bo), (2, .int x), (3, .int y)] := hl
  refine lv_iconst (v := 0) hx hb d_Node_addKeyTo_8 (by decide) ?_
  refine lv_istore hx hb d_Node_addKeyTo_9 hl (by decide) rfl (fun ls hl => ?_)
  have hl : lv_has ls 6 [(5, .int 0), (4, .int r1), (0, .ref h0), (1, .ref bo), (2, .int x), (3, .int y)] := hl
  refine zz_labM (B := fun (lk : Nat) (K : Heap → List Loc → Array Slot → List Value → Prop) => ∀ (ct : Int32) (kx : Int32) (lL : Int32) (lf : Nat → Int32) (H : Heap) (locs : List Loc) (ls : Array Slot), lk = (ct.toInt - kx.toInt).toNat → (ct.toInt = q9) → (0 ≤ kx.toInt ∧ kx.toInt ≤ ct.toInt) → (lL.toInt = L.toInt + kx.toInt) → (BL (imC f) (imC lf) L.toInt (byL c2 x.toNatClampNeg kx.toInt.toNat)) → va_P D CL [(bo, .inr (1, [.ref bq, .int lL])), (bq, .inl (cB, n, .inl lf))] H → va_D A [(bo, .inr (1, [.ref bq, .int lL])), (bq, .inl (cB, n, .inl lf))] → va_S A s.heap H locs → lv_has ls 6 [(0, .ref h0), (1, .ref bo), (2, .int x), (3, .int y), (4, .int ct), (5, .int kx)] → K H locs ls []) 11 ?_ ?_
  · skip
    intro lk ih11 ct kx lL lf H locs ls hm11 e0 e1 e2 e4 hP hD hS hl
    refine lv_iload hx hb d_Node_addKeyTo_11 (lv_at hl 5 rfl) ?_
    refine lv_iload hx hb d_Node_addKeyTo_13 (lv_at hl 4 rfl) ?_
    refine lv_icmp_ge (tgt := 42) hx hb d_Node_addKeyTo_15 (by decide) (fun h_9 => ?_) (fun h_9 => ?_)
    · skip
      have g15_10 : ct.toInt ≤ kx.toInt := (i_le rfl rfl).mp h_9
      have hP9 := hP.sub (ws' := [(bo, .inr (1, [.ref bq, .int lL])), (bq, .inl (cB, n, .inl lf))]) [0, 1] rfl
      have hD9 := hD.sub (ws' := [(bo, .inr (1, [.ref bq, .int lL])), (bq, .inl (cB, n, .inl lf))]) [0, 1] (by decide +kernel) rfl
      exact W.vret hx hb hr (fun t ht hW => ⟨⟨(lL, lf), rfl, ⟨(by (try dsimp only); first | assumption | omega | trivial), (by (try dsimp only); have h7 := e4; rw [show kx.toInt = q9 by omega] at h7; exact h7)⟩, by rw [ht]; exact hP9, hD9⟩, hS.F ht⟩) hS.2.2 d_Node_addKeyTo_42
    · skip
      have g15_10 : ¬ ct.toInt ≤ kx.toInt := fun h8 => h_9 ((i_le rfl rfl).mpr h8)
      refine lv_aload_n hx hb d_Node_addKeyTo_18 rfl (lv_at hl 1 rfl) ?_
      refine lv_aload_n hx hb d_Node_addKeyTo_19 rfl (lv_at hl 1 rfl) ?_
      refine lv_iconst (v := 1) hx hb d_Node_addKeyTo_20 (by decide) ?_
      have hPc := hP.sub (ws' := [(bo, .inr (1, [.ref bq, .int lL])), (bq, .inl (cB, n, .inl lf))]) [0, 1] rfl
      have hDc := hD.sub (ws' := [(bo, .inr (1, [.ref bq, .int lL])), (bq, .inl (cB, n, .inl lf))]) [0, 1] (by decide +kernel) rfl
      have hFc := va_free (wc := [(bo, .inr (1, [.ref bq, .int lL])), (bq, .inl (cB, n, .inl lf))]) hD hS hA [0, 1] rfl
      have hkc : 0 ≤ 0 := by decide
      have hks : 0 ≤ 0 := by decide
      refine va_calli (va_runV (C := "DiscMaker$Bytes") (As := [.int 1]) (rest := [.ref bo]) ⟨hx, hb, hml, hown, hts⟩ (c3_extendF l D cB cI cJ cZ cN cF H.size bo bq n lL lf 1 (by (try dsimp only); first | assumption | omega | trivial) (by (try dsimp only); first | assumption | omega | trivial) (by (try dsimp only); first | assumption | omega | trivial)) (cwV 1 hts (lg_goodV k983 k908 k909 k119 kc_Bytes_extend) rfl rfl rfl (by decide +kernel) ⟨Nat.le_of_ble_eq_true rfl, Nat.le_of_ble_eq_true rfl⟩) ⟨fun a U g mk q => by obtain ⟨q0, q1, qP, qK, qN, qD⟩ := q; exact ⟨q0, q1, qP, va_K.moved (u := U) (U := U.calling g mk a) (Vm.Alike.refl U.vm) qK, qN.calling, qD⟩, va_recv hK hP (ci := 1) (q0 := 0) rfl rfl, fun U hU hW => ⟨rfl, by rw [hU], by rw [hU]; exact hPc, va_K.moved hW.alike hK, NN.warm hW hN, hDc.weaken (fun _ _ _ _ => trivial)⟩⟩ rfl rfl hl.1 rfl (lv_room (Nat.le_of_ble_eq_true rfl)) d_Node_addKeyTo_21 ⟨hkc, hks⟩) hS (fun q _ h => hFc q h) hFc (fun r4 u t H1 locs ht hvm hp_r4 hB hz1 hk1 hS => ?_)
      obtain ⟨L2_5, g_6⟩ := u
      obtain ⟨hP1, hD1⟩ := hB
      rw [ht] at hP1
      obtain ⟨hP, hD⟩ := va_join (wr := []) (w1 := [(bo, .inr (1, [.ref bq, .int L2_5])), (bq, .inl (cB, n, .inl g_6))]) hP hD [0, 1] [] rfl rfl (by decide +kernel) (by decide +kernel) hk1 hFc hP1 hD1
      clear hPc hDc hFc hP1 hD1 hk1 hz1 hkc hks
      generalize H1 = H at hP hS ⊢
      have hP : va_P D CL [(bo, .inr (1, [.ref bq, .int L2_5])), (bq, .inl (cB, n, .inl g_6))] H := hP
      have hD : va_D A [(bo, .inr (1, [.ref bq, .int L2_5])), (bq, .inl (cB, n, .inl g_6))] := hD
      try dsimp only at hp_r4
      obtain ⟨hv_7, hE_8, hw_9⟩ := hp_r4
      try rw [L_1] at hE_8
      try rw [L_1] at hw_9
      refine lv_aload_n hx hb d_Node_addKeyTo_24 rfl (lv_at hl 0 rfl) ?_
      have hPR := RO_at hZr hS
      refine va_get (D := D) (ci := 5) (v := .ref kke) (C := "DiscMaker$Node") (T := F_Node) (N := 12) hx hb ht9 in_Node hown hK hPR 0 rfl rfl 2 (by decide) (ht9 _ k188) (fun _ h9 => h9) rfl d_Node_addKeyTo_25 ?_
      refine lv_iload_n hx hb d_Node_addKeyTo_28 rfl (lv_at hl 2 rfl) ?_
      refine lv_iload hx hb d_Node_addKeyTo_29 (lv_at hl 5 rfl) ?_
      refine lv_iadd hx hb d_Node_addKeyTo_31 ?_
      refine lv_topi (fun v10 e_v10 => ?_)
      have t_v10 : v10.toInt = x.toInt + kx.toInt := by rw [e_v10]; exact i_add rfl rfl (by omega) (by omega)
      have hPR := RO_at hZr hS
      refine va_bald hx hb hK hPR 1 0 rfl rfl (vp_in_iff.mpr ⟨by omega, by omega⟩) d_Node_addKeyTo_32 ?_
      refine lv_topi (fun v11 e_v11 => ?_)
      have hPc := hP.sub (ws' := [(bo, .inr (1, [.ref bq, .int L2_5])), (bq, .inl (cB, n, .inl g_6))]) [0, 1] rfl
      have hDc := hD.sub (ws' := [(bo, .inr (1, [.ref bq, .int L2_5])), (bq, .inl (cB, n, .inl g_6))]) [0, 1] (by decide +kernel) rfl
      have hFc := va_free (wc := [(bo, .inr (1, [.ref bq, .int L2_5])), (bq, .inl (cB, n, .inl g_6))]) hD hS hA [0, 1] rfl
      have hkc : 0 ≤ 0 := by decide
      have hks : 0 ≤ 0 := by decide
      refine va_callv (va_runV (C := "DiscMaker$Bytes") (As := [.int r4, .int v11]) (rest := []) ⟨hx, hb, hml, hown, hts⟩ (c3_putF l D cB cI cJ cZ cN cF H.size bo bq n L2_5 g_6 r4 v11 (by (try dsimp only); first | assumption | omega | trivial) (by (try dsimp only); first | assumption | omega | trivial) (by (try dsimp only); first | assumption | omega | trivial)) (cwV 2 hts (lg_goodV k997 k912 k913 k119 kc_Bytes_put) rfl rfl rfl (by decide +kernel) ⟨Nat.le_of_ble_eq_true rfl, Nat.le_of_ble_eq_true rfl⟩) ⟨fun a U g mk q => by obtain ⟨q0, q1, qP, qK, qN, qD⟩ := q; exact ⟨q0, q1, qP, va_K.moved (u := U) (U := U.calling g mk a) (Vm.Alike.refl U.vm) qK, qN.calling, qD⟩, va_recv hK hP (ci := 1) (q0 := 0) rfl rfl, fun U hU hW => ⟨rfl, by rw [hU], by rw [hU]; exact hPc, va_K.moved hW.alike hK, NN.warm hW hN, hDc.weaken (fun _ _ _ _ => trivial)⟩⟩ rfl rfl hl.1 rfl (lv_room (Nat.le_of_ble_eq_true rfl)) d_Node_addKeyTo_33 ⟨hkc, hks⟩) hS (fun q _ h => hFc q h) hFc (fun u t H1 locs ht hvm hp_r12 hB hz1 hk1 hS => ?_)
      obtain ⟨g_13, rfl⟩ : ∃ z, z = u := ⟨_, rfl⟩
      obtain ⟨hP1, hD1⟩ := hB
      rw [ht] at hP1
      obtain ⟨hP, hD⟩ := va_join (wr := []) (w1 := [(bo, .inr (1, [.ref bq, .int L2_5])), (bq, .inl (cB, n, .inl g_13))]) hP hD [0, 1] [] rfl rfl (by decide +kernel) (by decide +kernel) hk1 hFc hP1 hD1
      clear hPc hDc hFc hP1 hD1 hk1 hz1 hkc hks
      generalize H1 = H at hP hS ⊢
      have hP : va_P D CL [(bo, .inr (1, [.ref bq, .int L2_5])), (bq, .inl (cB, n, .inl g_13))] H := hP
      have hD : va_D A [(bo, .inr (1, [.ref bq, .int L2_5])), (bq, .inl (cB, n, .inl g_13))] := hD
      try dsimp only at hp_r12
      have hw_14 := hp_r12
      obtain ⟨v15, e_v15⟩ : ∃ z : Int32, z = kx + 1 := ⟨_, rfl⟩
      refine lv_iinc (v := v15) hx hb d_Node_addKeyTo_36 hl (k := 5) rfl e_v15.symm (by decide +kernel) rfl (fun ls hl => ?_)
      have t_v15 : v15.toInt = kx.toInt + 1 := by rw [e_v15]; exact i_add rfl (by decide) (by omega) (by omega)
      have hl : lv_has ls 6 [(5, .int v15), (0, .ref h0), (1, .ref bo), (2, .int x), (3, .int y), (4, .int ct)] := hl
      refine lv_goto (tgt := 11) hx hb d_Node_addKeyTo_39 (by decide) ?_
      have hP := hP.sub (ws' := [(bo, .inr (1, [.ref bq, .int L2_5])), (bq, .inl (cB, n, .inl g_13))]) [0, 1] rfl
      have hD := hD.sub (ws' := [(bo, .inr (1, [.ref bq, .int L2_5])), (bq, .inl (cB, n, .inl g_13))]) [0, 1] (by decide +kernel) rfl
      have hl := lv_sub hl [1, 2, 3, 4, 5, 0] rfl
      exact ih11 _ (by first | omega | (dsimp only; omega)) ct v15 L2_5 g_13 _ _ _ rfl (e0) ((by (try dsimp only); first | assumption | omega | trivial)) ((by (try dsimp only); first | assumption | omega | trivial)) ((BL.step e4 (Pt_ext hw_9 hw_14 (by decide) (by omega)) (by omega) (by omega) (show v15.toInt = kx.toInt + 1 by omega) (by show v11.toInt % 256 = (c2 (x.toNatClampNeg + kx.toInt.toNat)).toInt % 256; have h7 := i_cl (a := v10) (by omega); have h6 := i_cl (a := x) (by omega); rw [e_v11, show v10.toNatClampNeg = x.toNatClampNeg + kx.toInt.toNat by omega]))) hP hD hS hl
  · skip
    intro kk11
    have hP := hP.sub (ws' := [(bo, .inr (1, [.ref bq, .int L])), (bq, .inl (cB, n, .inl f))]) [0, 1] rfl
    have hD := hD.sub (ws' := [(bo, .inr (1, [.ref bq, .int L])), (bq, .inl (cB, n, .inl f))]) [0, 1] (by decide +kernel) rfl
    have hl := lv_sub hl [2, 3, 4, 5, 1, 0] rfl
    exact kk11 _ r1 0 L f _ _ _ rfl ((LenP_uniq hl9_3 hq (fun _ _ => rfl))) ((by (try dsimp only); first | assumption | omega | trivial)) ((by (try dsimp only); first | assumption | omega | trivial)) ((BL_tb0 (by omega))) hP hD hS hl

set_option maxHeartbeats 4000000 in
set_option maxRecDepth 100000 in
theorem c3_addShortToF (l : Launch) (D : va_G) (cB cI cJ cZ cN cF : ClassId) (sz : Nat) (h0 : Nat) (kna : Nat) (kke : Nat) (kta : Nat) (so : Int32) (nu : Int32) (pa : Int32) (ab : Int32) (mo : Int32) (ow : Int32) (gr : Int32) (si : Int32) (sd : Int32) (c2 : Nat → Int32) (bo : Nat) (bq : Nat) (n : Nat) (L : Int32) (f : Nat → Int32) (q1 : Int) (q2 : Int) (hL : 0 ≤ L.toInt ∧ L.toInt ≤ n) (hn : n ≤ 3000000) (hq1 : LenP (fun j => (c2 j).toInt) 0 8 q1) (hq2 : LenP (fun j => (c2 j).toInt) 8 3 q2) (hin : L.toInt + 14 ≤ n) : Met l y_Node_addShortTo w_Node_addShortTo ({ frames := 2, cells := 0, slots := 0, locals := 60 }) (va_Pc [.ref h0, .ref bo] (fun U => U.heap.size = sz ∧ va_P D CL [(bo, .inr (1, [.ref bq, .int L])), (bq, .inl (cB, n, .inl f))] U.heap ∧ va_K D CL (TY cB cI cJ cZ cN cF) U ∧ NN U ∧ va_D (fun _ => True) [(bo, .inr (1, [.ref bq, .int L])), (bq, .inl (cB, n, .inl f))] ∧ RO D [(h0, .inr (5, [.int so, .ref kna, .ref kke, .ref kta, .int nu, .int pa, .int ab, .int mo, .int ow, .int gr, .int si, .int sd])), (kke, .inl (cB, 11, .inl c2))] (va_A [(bo, .inr (1, [.ref bq, .int L])), (bq, .inl (cB, n, .inl f))] sz) U U.heap)) (va_Qv (fun (u : Int32 × (Nat → Int32)) => match u with | (L2, g) => ((so.toInt = 0 → L2.toInt = L.toInt + q1) ∧ (so.toInt ≠ 0 → L2.toInt = L.toInt + q1 + q2 + 3)) ∧ (BL (imC f) (imC g) L.toInt (shL c2 q1 q2 so.toInt))) (fun (u : Int32 × (Nat → Int32)) (t : State) => match u with | (L2, g) => va_P D CL [(bo, .inr (1, [.ref bq, .int L2])), (bq, .inl (cB, n, .inl g))] t.heap ∧ va_D (va_A [(bo, .inr (1, [.ref bq, .int L])), (bq, .inl (cB, n, .inl f))] sz) [(bo, .inr (1, [.ref bq, .int L2])), (bq, .inl (cB, n, .inl g))]) (va_A [(bo, .inr (1, [.ref bq, .int L])), (bq, .inl (cB, n, .inl f))] sz)) 0 0 (va_A [(bo, .inr (1, [.ref bq, .int L])), (bq, .inl (cB, n, .inl f))] sz) := by
  refine Met.ofW (cc := b_Node_addShortTo) (maxL := 2) (ret := none) (by decide +kernel) rfl ?_
  intro p e s m args below meth c s₁ B hml hv
  obtain ⟨rfl, hsz, hP, hK, hN, hD0, hZr⟩ := hv
  have hx := B.exec
  have hb := B.bytes
  have hr := B.returns
  have hts := atoms_spec (ws := w_Node_addShortTo) B.pre
  have ht9 := fun (w : Cond) (h : w ∈ lw_g) => hts w (List.mem_cons_of_mem _ h)
  have hown : s.vm.findClass "DiscMaker$Node" = some m.cls := findClass_of_methodNamed B.named
  have hlocks := B.notSynchronized
  subst hsz
  have hD := hD0.self (sz := s.heap.size)
  generalize hAe : va_A [(bo, .inr (1, [.ref bq, .int L])), (bq, .inl (cB, n, .inl f))] s.heap.size = A at hD hZr ⊢
  have hA : ∀ q : Nat, s.heap.size ≤ q → A q := fun q h => by rw [← hAe]; exact Or.inr h
  have hS : va_S A s.heap s.heap [] := va_S.rf
  have hP : va_P D CL [(bo, .inr (1, [.ref bq, .int L])), (bq, .inl (cB, n, .inl f))] s.heap := hP
  have hl := lv_entry [.ref h0, .ref bo] (n := 2) (Nat.le_of_ble_eq_true rfl)
  rw [lg_entry_eq]
  generalize (lg_sl [.ref h0, .ref bo] ++ List.replicate (2 - (lg_sl [.ref h0, .ref bo]).length) Slot.unset).toArray = ls at hl ⊢
  have hl : lv_has ls 2 [(0, .ref h0), (1, .ref bo)] := hl
  have L_m1 : ((-1) : Int32).toInt = (-1) := by decide
  have L_0 : (0 : Int32).toInt = 0 := by decide
  have L_1 : (1 : Int32).toInt = 1 := by decide
  have L_3 : (3 : Int32).toInt = 3 := by decide
  have L_8 : (8 : Int32).toInt = 8 := by decide
  have L_46 : (46 : Int32).toInt = 46 := by decide
  have L_49 : (49 : Int32).toInt = 49 := by decide
  have L_59 : (59 : Int32).toInt = 59 := by decide
  have hq1r := hq1.1
  have hq2r := hq2.1
  refine lv_aload_n hx hb d_Node_addShortTo_0 rfl (lv_at hl 0 rfl) ?_
  refine lv_aload_n hx hb d_Node_addShortTo_1 rfl (lv_at hl 1 rfl) ?_
  refine lv_iconst (v := 0) hx hb d_Node_addShortTo_2 (by decide) ?_
  refine lv_bipush (v := 8) hx hb d_Node_addShortTo_3 (by decide) ?_
  have hPc := hP.sub (ws' := [(bo, .inr (1, [.ref bq, .int L])), (bq, .inl (cB, n, .inl f))]) [0, 1] rfl
  have hDc := hD.sub (ws' := [(bo, .inr (1, [.ref bq, .int L])), (bq, .inl (cB, n, .inl f))]) [0, 1] (by decide +kernel) rfl
  have hFc := va_free (wc := [(bo, .inr (1, [.ref bq, .int L])), (bq, .inl (cB, n, .inl f))]) hD hS hA [0, 1] rfl
  have hPR := RO_at hZr hS
  have hkc : 0 ≤ 0 := by decide
  have hks : 0 ≤ 0 := by decide
  refine va_callv (va_runV (C := "DiscMaker$Node") (As := [.ref bo, .int 0, .int 8]) (rest := []) ⟨hx, hb, hml, hown, hts⟩ (c3_addKeyToF l D cB cI cJ cZ cN cF s.heap.size h0 kna kke kta so nu pa ab mo ow gr si sd c2 bo bq n L f q1 0 8 (by (try dsimp only); first | assumption | omega | trivial) (by (try dsimp only); first | assumption | omega | trivial) (by (try dsimp only); first | assumption | omega | trivial) ((by rw [show (0 : Int32).toNatClampNeg = 0 by decide, show (8 : Int32).toNatClampNeg = 8 by decide]; exact hq1)) (by (try dsimp only); first | assumption | omega | trivial)) (cwV 3 hts (lg_goodV k993 k995 k19 k118 kc_Node_addKeyTo) rfl rfl rfl (by decide +kernel) ⟨Nat.le_of_ble_eq_true rfl, Nat.le_of_ble_eq_true rfl⟩) ⟨fun a U g mk q => by obtain ⟨q0, q1, qP, qK, qN, qD, qZ0⟩ := q; exact ⟨q0, q1, qP, va_K.moved (u := U) (U := U.calling g mk a) (Vm.Alike.refl U.vm) qK, qN.calling, qD, RO_blind qZ0⟩, va_recv hK hPR (ci := 5) (q0 := 0) rfl rfl, fun U hU hW => ⟨rfl, by rw [hU], by rw [hU]; exact hPc, va_K.moved hW.alike hK, NN.warm hW hN, hDc.weaken (fun _ _ _ _ => trivial), (RO_app (w1 := [(h0, .inr (5, [.int so, .ref kna, .ref kke, .ref kta, .int nu, .int pa, .int ab, .int mo, .int ow, .int gr, .int si, .int sd]))]) (w2 := [(kke, .inl (cB, 11, .inl c2))]) (RO_pass (RO_one hZr 0 rfl) hS hFc hU) (RO_pass (RO_one hZr 1 rfl) hS hFc hU))⟩⟩ rfl rfl hl.1 rfl (lv_room (Nat.le_of_ble_eq_true rfl)) d_Node_addShortTo_5 ⟨hkc, hks⟩) hS (fun q _ h => hFc q h) hFc (fun u t H1 locs ht hvm hp_r1 hB hz1 hk1 hS => ?_)
  obtain ⟨L2_2, g_3⟩ := u
  obtain ⟨hP1, hD1⟩ := hB
  rw [ht] at hP1
  obtain ⟨hP, hD⟩ := va_join (wr := []) (w1 := [(bo, .inr (1, [.ref bq, .int L2_2])), (bq, .inl (cB, n, .inl g_3))]) hP hD [0, 1] [] rfl rfl (by decide +kernel) (by decide +kernel) hk1 hFc hP1 hD1
  clear hPc hDc hFc hP1 hD1 hk1 hz1 hkc hks
  generalize H1 = H at hP hS ⊢
  have hP : va_P D CL [(bo, .inr (1, [.ref bq, .int L2_2])), (bq, .inl (cB, n, .inl g_3))] H := hP
  have hD : va_D A [(bo, .inr (1, [.ref bq, .int L2_2])), (bq, .inl (cB, n, .inl g_3))] := hD
  try dsimp only at hp_r1
  obtain ⟨hE_4, hw_5⟩ := hp_r1
  refine lv_aload_n hx hb d_Node_addShortTo_8 rfl (lv_at hl 0 rfl) ?_
  have hPR := RO_at hZr hS
  refine va_get (D := D) (ci := 5) (v := .int so) (C := "DiscMaker$Node") (T := F_Node) (N := 12) hx hb ht9 in_Node hown hK hPR 0 rfl rfl 0 (by decide) (ht9 _ k178) (fun _ h9 => h9) rfl d_Node_addShortTo_9 ?_
  refine lv_if_eq (tgt := 56) hx hb d_Node_addShortTo_12 (by decide) (fun h_9 => ?_) (fun h_9 => ?_)
  · skip
    have g12_8 : so.toInt = 0 := (i_eq rfl (by decide)).mp h_9
    have a9 := hw_5
    rw [show (0 : Int32).toNatClampNeg = 0 by decide] at a9
    have hP9 := hP.sub (ws' := [(bo, .inr (1, [.ref bq, .int L2_2])), (bq, .inl (cB, n, .inl g_3))]) [0, 1] rfl
    have hD9 := hD.sub (ws' := [(bo, .inr (1, [.ref bq, .int L2_2])), (bq, .inl (cB, n, .inl g_3))]) [0, 1] (by decide +kernel) rfl
    exact W.vret hx hb hr (fun t ht hW => ⟨⟨(L2_2, g_3), rfl, ⟨(by (try dsimp only); first | assumption | omega | trivial), (by (try dsimp only); unfold shL; rw [if_pos (by omega)]; exact a9)⟩, by rw [ht]; exact hP9, hD9⟩, hS.F ht⟩) hS.2.2 d_Node_addShortTo_56
  · skip
    have g12_8 : ¬ so.toInt = 0 := fun h8 => h_9 ((i_eq rfl (by decide)).mpr h8)
    refine lv_aload_n hx hb d_Node_addShortTo_15 rfl (lv_at hl 1 rfl) ?_
    refine lv_aload_n hx hb d_Node_addShortTo_16 rfl (lv_at hl 1 rfl) ?_
    refine lv_iconst (v := 1) hx hb d_Node_addShortTo_17 (by decide) ?_
    have hPc := hP.sub (ws' := [(bo, .inr (1, [.ref bq, .int L2_2])), (bq, .inl (cB, n, .inl g_3))]) [0, 1] rfl
    have hDc := hD.sub (ws' := [(bo, .inr (1, [.ref bq, .int L2_2])), (bq, .inl (cB, n, .inl g_3))]) [0, 1] (by decide +kernel) rfl
    have hFc := va_free (wc := [(bo, .inr (1, [.ref bq, .int L2_2])), (bq, .inl (cB, n, .inl g_3))]) hD hS hA [0, 1] rfl
    have hkc : 0 ≤ 0 := by decide
    have hks : 0 ≤ 0 := by decide
    refine va_calli (va_runV (C := "DiscMaker$Bytes") (As := [.int 1]) (rest := [.ref bo]) ⟨hx, hb, hml, hown, hts⟩ (c3_extendF l D cB cI cJ cZ cN cF H.size bo bq n L2_2 g_3 1 (by (try dsimp only); first | assumption | omega | trivial) (by (try dsimp only); first | assumption | omega | trivial) (by (try dsimp only); first | assumption | omega | trivial)) (cwV 1 hts (lg_goodV k983 k908 k909 k119 kc_Bytes_extend) rfl rfl rfl (by decide +kernel) ⟨Nat.le_of_ble_eq_true rfl, Nat.le_of_ble_eq_true rfl⟩) ⟨fun a U g mk q => by obtain ⟨q0, q1, qP, qK, qN, qD⟩ := q; exact ⟨q0, q1, qP, va_K.moved (u := U) (U := U.calling g mk a) (Vm.Alike.refl U.vm) qK, qN.calling, qD⟩, va_recv hK hP (ci := 1) (q0 := 0) rfl rfl, fun U hU hW => ⟨rfl, by rw [hU], by rw [hU]; exact hPc, va_K.moved hW.alike hK, NN.warm hW hN, hDc.weaken (fun _ _ _ _ => trivial)⟩⟩ rfl rfl hl.1 rfl (lv_room (Nat.le_of_ble_eq_true rfl)) d_Node_addShortTo_18 ⟨hkc, hks⟩) hS (fun q _ h => hFc q h) hFc (fun r6 u t H1 locs ht hvm hp_r6 hB hz1 hk1 hS => ?_)
    obtain ⟨L2_7, g_8⟩ := u
    obtain ⟨hP1, hD1⟩ := hB
    rw [ht] at hP1
    obtain ⟨hP, hD⟩ := va_join (wr := []) (w1 := [(bo, .inr (1, [.ref bq, .int L2_7])), (bq, .inl (cB, n, .inl g_8))]) hP hD [0, 1] [] rfl rfl (by decide +kernel) (by decide +kernel) hk1 hFc hP1 hD1
    clear hPc hDc hFc hP1 hD1 hk1 hz1 hkc hks
    generalize H1 = H at hP hS ⊢
    have hP : va_P D CL [(bo, .inr (1, [.ref bq, .int L2_7])), (bq, .inl (cB, n, .inl g_8))] H := hP
    have hD : va_D A [(bo, .inr (1, [.ref bq, .int L2_7])), (bq, .inl (cB, n, .inl g_8))] := hD
    try dsimp only at hp_r6
    obtain ⟨hv_9, hE_10, hw_11⟩ := hp_r6
    try rw [L_1] at hE_10
    try rw [L_1] at hw_11
    refine lv_bipush (v := 46) hx hb d_Node_addShortTo_21 (by decide) ?_
    have hPc := hP.sub (ws' := [(bo, .inr (1, [.ref bq, .int L2_7])), (bq, .inl (cB, n, .inl g_8))]) [0, 1] rfl
    have hDc := hD.sub (ws' := [(bo, .inr (1, [.ref bq, .int L2_7])), (bq, .inl (cB, n, .inl g_8))]) [0, 1] (by decide +kernel) rfl
    have hFc := va_free (wc := [(bo, .inr (1, [.ref bq, .int L2_7])), (bq, .inl (cB, n, .inl g_8))]) hD hS hA [0, 1] rfl
    have hkc : 0 ≤ 0 := by decide
    have hks : 0 ≤ 0 := by decide
    refine va_callv (va_runV (C := "DiscMaker$Bytes") (As := [.int r6, .int 46]) (rest := []) ⟨hx, hb, hml, hown, hts⟩ (c3_putF l D cB cI cJ cZ cN cF H.size bo bq n L2_7 g_8 r6 46 (by (try dsimp only); first | assumption | omega | trivial) (by (try dsimp only); first | assumption | omega | trivial) (by (try dsimp only); first | assumption | omega | trivial)) (cwV 2 hts (lg_goodV k997 k912 k913 k119 kc_Bytes_put) rfl rfl rfl (by decide +kernel) ⟨Nat.le_of_ble_eq_true rfl, Nat.le_of_ble_eq_true rfl⟩) ⟨fun a U g mk q => by obtain ⟨q0, q1, qP, qK, qN, qD⟩ := q; exact ⟨q0, q1, qP, va_K.moved (u := U) (U := U.calling g mk a) (Vm.Alike.refl U.vm) qK, qN.calling, qD⟩, va_recv hK hP (ci := 1) (q0 := 0) rfl rfl, fun U hU hW => ⟨rfl, by rw [hU], by rw [hU]; exact hPc, va_K.moved hW.alike hK, NN.warm hW hN, hDc.weaken (fun _ _ _ _ => trivial)⟩⟩ rfl rfl hl.1 rfl (lv_room (Nat.le_of_ble_eq_true rfl)) d_Node_addShortTo_23 ⟨hkc, hks⟩) hS (fun q _ h => hFc q h) hFc (fun u t H1 locs ht hvm hp_r12 hB hz1 hk1 hS => ?_)
    obtain ⟨g_13, rfl⟩ : ∃ z, z = u := ⟨_, rfl⟩
    obtain ⟨hP1, hD1⟩ := hB
    rw [ht] at hP1
    obtain ⟨hP, hD⟩ := va_join (wr := []) (w1 := [(bo, .inr (1, [.ref bq, .int L2_7])), (bq, .inl (cB, n, .inl g_13))]) hP hD [0, 1] [] rfl rfl (by decide +kernel) (by decide +kernel) hk1 hFc hP1 hD1
    clear hPc hDc hFc hP1 hD1 hk1 hz1 hkc hks
    generalize H1 = H at hP hS ⊢
    have hP : va_P D CL [(bo, .inr (1, [.ref bq, .int L2_7])), (bq, .inl (cB, n, .inl g_13))] H := hP
    have hD : va_D A [(bo, .inr (1, [.ref bq, .int L2_7])), (bq, .inl (cB, n, .inl g_13))] := hD
    try dsimp only at hp_r12
    have hw_14 := hp_r12
    try rw [L_46] at hw_14
    refine lv_aload_n hx hb d_Node_addShortTo_26 rfl (lv_at hl 0 rfl) ?_
    refine lv_aload_n hx hb d_Node_addShortTo_27 rfl (lv_at hl 1 rfl) ?_
    refine lv_bipush (v := 8) hx hb d_Node_addShortTo_28 (by decide) ?_
    refine lv_iconst (v := 3) hx hb d_Node_addShortTo_30 (by decide) ?_
    have hPc := hP.sub (ws' := [(bo, .inr (1, [.ref bq, .int L2_7])), (bq, .inl (cB, n, .inl g_13))]) [0, 1] rfl
    have hDc := hD.sub (ws' := [(bo, .inr (1, [.ref bq, .int L2_7])), (bq, .inl (cB, n, .inl g_13))]) [0, 1] (by decide +kernel) rfl
    have hFc := va_free (wc := [(bo, .inr (1, [.ref bq, .int L2_7])), (bq, .inl (cB, n, .inl g_13))]) hD hS hA [0, 1] rfl
    have hPR := RO_at hZr hS
    have hkc : 0 ≤ 0 := by decide
    have hks : 0 ≤ 0 := by decide
    refine va_callv (va_runV (C := "DiscMaker$Node") (As := [.ref bo, .int 8, .int 3]) (rest := []) ⟨hx, hb, hml, hown, hts⟩ (c3_addKeyToF l D cB cI cJ cZ cN cF H.size h0 kna kke kta so nu pa ab mo ow gr si sd c2 bo bq n L2_7 g_13 q2 8 3 (by (try dsimp only); first | assumption | omega | trivial) (by (try dsimp only); first | assumption | omega | trivial) (by (try dsimp only); first | assumption | omega | trivial) ((by rw [show (8 : Int32).toNatClampNeg = 8 by decide, show (3 : Int32).toNatClampNeg = 3 by decide]; exact hq2)) (by (try dsimp only); first | assumption | omega | trivial)) (cwV 3 hts (lg_goodV k993 k995 k19 k118 kc_Node_addKeyTo) rfl rfl rfl (by decide +kernel) ⟨Nat.le_of_ble_eq_true rfl, Nat.le_of_ble_eq_true rfl⟩) ⟨fun a U g mk q => by obtain ⟨q0, q1, qP, qK, qN, qD, qZ0⟩ := q; exact ⟨q0, q1, qP, va_K.moved (u := U) (U := U.calling g mk a) (Vm.Alike.refl U.vm) qK, qN.calling, qD, RO_blind qZ0⟩, va_recv hK hPR (ci := 5) (q0 := 0) rfl rfl, fun U hU hW => ⟨rfl, by rw [hU], by rw [hU]; exact hPc, va_K.moved hW.alike hK, NN.warm hW hN, hDc.weaken (fun _ _ _ _ => trivial), (RO_app (w1 := [(h0, .inr (5, [.int so, .ref kna, .ref kke, .ref kta, .int nu, .int pa, .int ab, .int mo, .int ow, .int gr, .int si, .int sd]))]) (w2 := [(kke, .inl (cB, 11, .inl c2))]) (RO_pass (RO_one hZr 0 rfl) hS hFc hU) (RO_pass (RO_one hZr 1 rfl) hS hFc hU))⟩⟩ rfl rfl hl.1 rfl (lv_room (Nat.le_of_ble_eq_true rfl)) d_Node_addShortTo_31 ⟨hkc, hks⟩) hS (fun q _ h => hFc q h) hFc (fun u t H1 locs ht hvm hp_r15 hB hz1 hk1 hS => ?_)
    obtain ⟨L2_16, g_17⟩ := u
    obtain ⟨hP1, hD1⟩ := hB
    rw [ht] at hP1
    obtain ⟨hP, hD⟩ := va_join (wr := []) (w1 := [(bo, .inr (1, [.ref bq, .int L2_16])), (bq, .inl (cB, n, .inl g_17))]) hP hD [0, 1] [] rfl rfl (by decide +kernel) (by decide +kernel) hk1 hFc hP1 hD1
    clear hPc hDc hFc hP1 hD1 hk1 hz1 hkc hks
    generalize H1 = H at hP hS ⊢
    have hP : va_P D CL [(bo, .inr (1, [.ref bq, .int L2_16])), (bq, .inl (cB, n, .inl g_17))] H := hP
    have hD : va_D A [(bo, .inr (1, [.ref bq, .int L2_16])), (bq, .inl (cB, n, .inl g_17))] := hD
    try dsimp only at hp_r15
    obtain ⟨hE_18, hw_19⟩ := hp_r15
    refine lv_aload_n hx hb d_Node_addShortTo_34 rfl (lv_at hl 1 rfl) ?_
    refine lv_aload_n hx hb d_Node_addShortTo_35 rfl (lv_at hl 1 rfl) ?_
    refine lv_iconst (v := 1) hx hb d_Node_addShortTo_36 (by decide) ?_
    have hPc := hP.sub (ws' := [(bo, .inr (1, [.ref bq, .int L2_16])), (bq, .inl (cB, n, .inl g_17))]) [0, 1] rfl
    have hDc := hD.sub (ws' := [(bo, .inr (1, [.ref bq, .int L2_16])), (bq, .inl (cB, n, .inl g_17))]) [0, 1] (by decide +kernel) rfl
    have hFc := va_free (wc := [(bo, .inr (1, [.ref bq, .int L2_16])), (bq, .inl (cB, n, .inl g_17))]) hD hS hA [0, 1] rfl
    have hkc : 0 ≤ 0 := by decide
    have hks : 0 ≤ 0 := by decide
    refine va_calli (va_runV (C := "DiscMaker$Bytes") (As := [.int 1]) (rest := [.ref bo]) ⟨hx, hb, hml, hown, hts⟩ (c3_extendF l D cB cI cJ cZ cN cF H.size bo bq n L2_16 g_17 1 (by (try dsimp only); first | assumption | omega | trivial) (by (try dsimp only); first | assumption | omega | trivial) (by (try dsimp only); first | assumption | omega | trivial)) (cwV 1 hts (lg_goodV k983 k908 k909 k119 kc_Bytes_extend) rfl rfl rfl (by decide +kernel) ⟨Nat.le_of_ble_eq_true rfl, Nat.le_of_ble_eq_true rfl⟩) ⟨fun a U g mk q => by obtain ⟨q0, q1, qP, qK, qN, qD⟩ := q; exact ⟨q0, q1, qP, va_K.moved (u := U) (U := U.calling g mk a) (Vm.Alike.refl U.vm) qK, qN.calling, qD⟩, va_recv hK hP (ci := 1) (q0 := 0) rfl rfl, fun U hU hW => ⟨rfl, by rw [hU], by rw [hU]; exact hPc, va_K.moved hW.alike hK, NN.warm hW hN, hDc.weaken (fun _ _ _ _ => trivial)⟩⟩ rfl rfl hl.1 rfl (lv_room (Nat.le_of_ble_eq_true rfl)) d_Node_addShortTo_37 ⟨hkc, hks⟩) hS (fun q _ h => hFc q h) hFc (fun r20 u t H1 locs ht hvm hp_r20 hB hz1 hk1 hS => ?_)
    obtain ⟨L2_21, g_22⟩ := u
    obtain ⟨hP1, hD1⟩ := hB
    rw [ht] at hP1
    obtain ⟨hP, hD⟩ := va_join (wr := []) (w1 := [(bo, .inr (1, [.ref bq, .int L2_21])), (bq, .inl (cB, n, .inl g_22))]) hP hD [0, 1] [] rfl rfl (by decide +kernel) (by decide +kernel) hk1 hFc hP1 hD1
    clear hPc hDc hFc hP1 hD1 hk1 hz1 hkc hks
    generalize H1 = H at hP hS ⊢
    have hP : va_P D CL [(bo, .inr (1, [.ref bq, .int L2_21])), (bq, .inl (cB, n, .inl g_22))] H := hP
    have hD : va_D A [(bo, .inr (1, [.ref bq, .int L2_21])), (bq, .inl (cB, n, .inl g_22))] := hD
    try dsimp only at hp_r20
    obtain ⟨hv_23, hE_24, hw_25⟩ := hp_r20
    try rw [L_1] at hE_24
    try rw [L_1] at hw_25
    refine lv_bipush (v := 59) hx hb d_Node_addShortTo_40 (by decide) ?_
    have hPc := hP.sub (ws' := [(bo, .inr (1, [.ref bq, .int L2_21])), (bq, .inl (cB, n, .inl g_22))]) [0, 1] rfl
    have hDc := hD.sub (ws' := [(bo, .inr (1, [.ref bq, .int L2_21])), (bq, .inl (cB, n, .inl g_22))]) [0, 1] (by decide +kernel) rfl
    have hFc := va_free (wc := [(bo, .inr (1, [.ref bq, .int L2_21])), (bq, .inl (cB, n, .inl g_22))]) hD hS hA [0, 1] rfl
    have hkc : 0 ≤ 0 := by decide
    have hks : 0 ≤ 0 := by decide
    refine va_callv (va_runV (C := "DiscMaker$Bytes") (As := [.int r20, .int 59]) (rest := []) ⟨hx, hb, hml, hown, hts⟩ (c3_putF l D cB cI cJ cZ cN cF H.size bo bq n L2_21 g_22 r20 59 (by (try dsimp only); first | assumption | omega | trivial) (by (try dsimp only); first | assumption | omega | trivial) (by (try dsimp only); first | assumption | omega | trivial)) (cwV 2 hts (lg_goodV k997 k912 k913 k119 kc_Bytes_put) rfl rfl rfl (by decide +kernel) ⟨Nat.le_of_ble_eq_true rfl, Nat.le_of_ble_eq_true rfl⟩) ⟨fun a U g mk q => by obtain ⟨q0, q1, qP, qK, qN, qD⟩ := q; exact ⟨q0, q1, qP, va_K.moved (u := U) (U := U.calling g mk a) (Vm.Alike.refl U.vm) qK, qN.calling, qD⟩, va_recv hK hP (ci := 1) (q0 := 0) rfl rfl, fun U hU hW => ⟨rfl, by rw [hU], by rw [hU]; exact hPc, va_K.moved hW.alike hK, NN.warm hW hN, hDc.weaken (fun _ _ _ _ => trivial)⟩⟩ rfl rfl hl.1 rfl (lv_room (Nat.le_of_ble_eq_true rfl)) d_Node_addShortTo_42 ⟨hkc, hks⟩) hS (fun q _ h => hFc q h) hFc (fun u t H1 locs ht hvm hp_r26 hB hz1 hk1 hS => ?_)
    obtain ⟨g_27, rfl⟩ : ∃ z, z = u := ⟨_, rfl⟩
    obtain ⟨hP1, hD1⟩ := hB
    rw [ht] at hP1
    obtain ⟨hP, hD⟩ := va_join (wr := []) (w1 := [(bo, .inr (1, [.ref bq, .int L2_21])), (bq, .inl (cB, n, .inl g_27))]) hP hD [0, 1] [] rfl rfl (by decide +kernel) (by decide +kernel) hk1 hFc hP1 hD1
    clear hPc hDc hFc hP1 hD1 hk1 hz1 hkc hks
    generalize H1 = H at hP hS ⊢
    have hP : va_P D CL [(bo, .inr (1, [.ref bq, .int L2_21])), (bq, .inl (cB, n, .inl g_27))] H := hP
    have hD : va_D A [(bo, .inr (1, [.ref bq, .int L2_21])), (bq, .inl (cB, n, .inl g_27))] := hD
    try dsimp only at hp_r26
    have hw_28 := hp_r26
    try rw [L_59] at hw_28
    refine lv_aload_n hx hb d_Node_addShortTo_45 rfl (lv_at hl 1 rfl) ?_
    refine lv_aload_n hx hb d_Node_addShortTo_46 rfl (lv_at hl 1 rfl) ?_
    refine lv_iconst (v := 1) hx hb d_Node_addShortTo_47 (by decide) ?_
    have hPc := hP.sub (ws' := [(bo, .inr (1, [.ref bq, .int L2_21])), (bq, .inl (cB, n, .inl g_27))]) [0, 1] rfl
    have hDc := hD.sub (ws' := [(bo, .inr (1, [.ref bq, .int L2_21])), (bq, .inl (cB, n, .inl g_27))]) [0, 1] (by decide +kernel) rfl
    have hFc := va_free (wc := [(bo, .inr (1, [.ref bq, .int L2_21])), (bq, .inl (cB, n, .inl g_27))]) hD hS hA [0, 1] rfl
    have hkc : 0 ≤ 0 := by decide
    have hks : 0 ≤ 0 := by decide
    refine va_calli (va_runV (C := "DiscMaker$Bytes") (As := [.int 1]) (rest := [.ref bo]) ⟨hx, hb, hml, hown, hts⟩ (c3_extendF l D cB cI cJ cZ cN cF H.size bo bq n L2_21 g_27 1 (by (try dsimp only); first | assumption | omega | trivial) (by (try dsimp only); first | assumption | omega | trivial) (by (try dsimp only); first | assumption | omega | trivial)) (cwV 1 hts (lg_goodV k983 k908 k909 k119 kc_Bytes_extend) rfl rfl rfl (by decide +kernel) ⟨Nat.le_of_ble_eq_true rfl, Nat.le_of_ble_eq_true rfl⟩) ⟨fun a U g mk q => by obtain ⟨q0, q1, qP, qK, qN, qD⟩ := q; exact ⟨q0, q1, qP, va_K.moved (u := U) (U := U.calling g mk a) (Vm.Alike.refl U.vm) qK, qN.calling, qD⟩, va_recv hK hP (ci := 1) (q0 := 0) rfl rfl, fun U hU hW => ⟨rfl, by rw [hU], by rw [hU]; exact hPc, va_K.moved hW.alike hK, NN.warm hW hN, hDc.weaken (fun _ _ _ _ => trivial)⟩⟩ rfl rfl hl.1 rfl (lv_room (Nat.le_of_ble_eq_true rfl)) d_Node_addShortTo_48 ⟨hkc, hks⟩) hS (fun q _ h => hFc q h) hFc (fun r29 u t H1 locs ht hvm hp_r29 hB hz1 hk1 hS => ?_)
    obtain ⟨L2_30, g_31⟩ := u
    obtain ⟨hP1, hD1⟩ := hB
    rw [ht] at hP1
    obtain ⟨hP, hD⟩ := va_join (wr := []) (w1 := [(bo, .inr (1, [.ref bq, .int L2_30])), (bq, .inl (cB, n, .inl g_31))]) hP hD [0, 1] [] rfl rfl (by decide +kernel) (by decide +kernel) hk1 hFc hP1 hD1
    clear hPc hDc hFc hP1 hD1 hk1 hz1 hkc hks
    generalize H1 = H at hP hS ⊢
    have hP : va_P D CL [(bo, .inr (1, [.ref bq, .int L2_30])), (bq, .inl (cB, n, .inl g_31))] H := hP
    have hD : va_D A [(bo, .inr (1, [.ref bq, .int L2_30])), (bq, .inl (cB, n, .inl g_31))] := hD
    try dsimp only at hp_r29
    obtain ⟨hv_32, hE_33, hw_34⟩ := hp_r29
    try rw [L_1] at hE_33
    try rw [L_1] at hw_34
    refine lv_bipush (v := 49) hx hb d_Node_addShortTo_51 (by decide) ?_
    have hPc := hP.sub (ws' := [(bo, .inr (1, [.ref bq, .int L2_30])), (bq, .inl (cB, n, .inl g_31))]) [0, 1] rfl
    have hDc := hD.sub (ws' := [(bo, .inr (1, [.ref bq, .int L2_30])), (bq, .inl (cB, n, .inl g_31))]) [0, 1] (by decide +kernel) rfl
    have hFc := va_free (wc := [(bo, .inr (1, [.ref bq, .int L2_30])), (bq, .inl (cB, n, .inl g_31))]) hD hS hA [0, 1] rfl
    have hkc : 0 ≤ 0 := by decide
    have hks : 0 ≤ 0 := by decide
    refine va_callv (va_runV (C := "DiscMaker$Bytes") (As := [.int r29, .int 49]) (rest := []) ⟨hx, hb, hml, hown, hts⟩ (c3_putF l D cB cI cJ cZ cN cF H.size bo bq n L2_30 g_31 r29 49 (by (try dsimp only); first | assumption | omega | trivial) (by (try dsimp only); first | assumption | omega | trivial) (by (try dsimp only); first | assumption | omega | trivial)) (cwV 2 hts (lg_goodV k997 k912 k913 k119 kc_Bytes_put) rfl rfl rfl (by decide +kernel) ⟨Nat.le_of_ble_eq_true rfl, Nat.le_of_ble_eq_true rfl⟩) ⟨fun a U g mk q => by obtain ⟨q0, q1, qP, qK, qN, qD⟩ := q; exact ⟨q0, q1, qP, va_K.moved (u := U) (U := U.calling g mk a) (Vm.Alike.refl U.vm) qK, qN.calling, qD⟩, va_recv hK hP (ci := 1) (q0 := 0) rfl rfl, fun U hU hW => ⟨rfl, by rw [hU], by rw [hU]; exact hPc, va_K.moved hW.alike hK, NN.warm hW hN, hDc.weaken (fun _ _ _ _ => trivial)⟩⟩ rfl rfl hl.1 rfl (lv_room (Nat.le_of_ble_eq_true rfl)) d_Node_addShortTo_53 ⟨hkc, hks⟩) hS (fun q _ h => hFc q h) hFc (fun u t H1 locs ht hvm hp_r35 hB hz1 hk1 hS => ?_)
    obtain ⟨g_36, rfl⟩ : ∃ z, z = u := ⟨_, rfl⟩
    obtain ⟨hP1, hD1⟩ := hB
    rw [ht] at hP1
    obtain ⟨hP, hD⟩ := va_join (wr := []) (w1 := [(bo, .inr (1, [.ref bq, .int L2_30])), (bq, .inl (cB, n, .inl g_36))]) hP hD [0, 1] [] rfl rfl (by decide +kernel) (by decide +kernel) hk1 hFc hP1 hD1
    clear hPc hDc hFc hP1 hD1 hk1 hz1 hkc hks
    generalize H1 = H at hP hS ⊢
    have hP : va_P D CL [(bo, .inr (1, [.ref bq, .int L2_30])), (bq, .inl (cB, n, .inl g_36))] H := hP
    have hD : va_D A [(bo, .inr (1, [.ref bq, .int L2_30])), (bq, .inl (cB, n, .inl g_36))] := hD
    try dsimp only at hp_r35
    have hw_37 := hp_r35
    try rw [L_49] at hw_37
    have a9 := hw_5
    rw [show (0 : Int32).toNatClampNeg = 0 by decide] at a9
    have b9 := hw_19
    rw [show (8 : Int32).toNatClampNeg = 8 by decide] at b9
    have hP9 := hP.sub (ws' := [(bo, .inr (1, [.ref bq, .int L2_30])), (bq, .inl (cB, n, .inl g_36))]) [0, 1] rfl
    have hD9 := hD.sub (ws' := [(bo, .inr (1, [.ref bq, .int L2_30])), (bq, .inl (cB, n, .inl g_36))]) [0, 1] (by decide +kernel) rfl
    exact W.vret hx hb hr (fun t ht hW => ⟨⟨(L2_30, g_36), rfl, ⟨(by (try dsimp only); first | assumption | omega | trivial), (sh_of a9 (Pt_ext hw_11 hw_14 (by decide) (by omega)) b9 (Pt_ext hw_25 hw_28 (by decide) (by omega)) (Pt_ext hw_34 hw_37 (by decide) (by omega)) (by omega) (by omega) (by omega) (by omega) (by omega) (by omega) (by omega) (by omega) (by omega) (by omega))⟩, by rw [ht]; exact hP9, hD9⟩, hS.F ht⟩) hS.2.2 d_Node_addShortTo_56

set_option maxHeartbeats 4000000 in
set_option maxRecDepth 100000 in
theorem c3_addLongToF (l : Launch) (D : va_G) (cB cI cJ cZ cN cF : ClassId) (sz : Nat) (h0 : Nat) (kna : Nat) (kke : Nat) (kta : Nat) (so : Int32) (nu : Int32) (pa : Int32) (ab : Int32) (mo : Int32) (ow : Int32) (gr : Int32) (si : Int32) (sd : Int32) (l1 : Nat) (c1 : Nat → Int32) (bo : Nat) (bq : Nat) (n : Nat) (L : Int32) (f : Nat → Int32) (hL : 0 ≤ L.toInt ∧ L.toInt ≤ n) (hn : n ≤ 3000000) (hl1 : l1 ≤ 400) (hin : L.toInt + 2 * l1 ≤ n) : Met l y_Node_addLongTo w_Node_addLongTo ({ frames := 2, cells := 0, slots := 0, locals := 58 }) (va_Pc [.ref h0, .ref bo] (fun U => U.heap.size = sz ∧ va_P D CL [(bo, .inr (1, [.ref bq, .int L])), (bq, .inl (cB, n, .inl f))] U.heap ∧ va_K D CL (TY cB cI cJ cZ cN cF) U ∧ NN U ∧ va_D (fun _ => True) [(bo, .inr (1, [.ref bq, .int L])), (bq, .inl (cB, n, .inl f))] ∧ RO D [(h0, .inr (5, [.int so, .ref kna, .ref kke, .ref kta, .int nu, .int pa, .int ab, .int mo, .int ow, .int gr, .int si, .int sd])), (kna, .inl (cB, l1, .inl c1))] (va_A [(bo, .inr (1, [.ref bq, .int L])), (bq, .inl (cB, n, .inl f))] sz) U U.heap)) (va_Qv (fun (u : Int32 × (Nat → Int32)) => match u with | (L2, g) => (L2.toInt = L.toInt + 2 * l1) ∧ (BL (imC f) (imC g) L.toInt (lnL c1 l1))) (fun (u : Int32 × (Nat → Int32)) (t : State) => match u with | (L2, g) => va_P D CL [(bo, .inr (1, [.ref bq, .int L2])), (bq, .inl (cB, n, .inl g))] t.heap ∧ va_D (va_A [(bo, .inr (1, [.ref bq, .int L])), (bq, .inl (cB, n, .inl f))] sz) [(bo, .inr (1, [.ref bq, .int L2])), (bq, .inl (cB, n, .inl g))]) (va_A [(bo, .inr (1, [.ref bq, .int L])), (bq, .inl (cB, n, .inl f))] sz)) 0 0 (va_A [(bo, .inr (1, [.ref bq, .int L])), (bq, .inl (cB, n, .inl f))] sz) := by
  refine Met.ofW (cc := b_Node_addLongTo) (maxL := 3) (ret := none) (by decide +kernel) rfl ?_
  intro p e s m args below meth c s₁ B hml hv
  obtain ⟨rfl, hsz, hP, hK, hN, hD0, hZr⟩ := hv
  have hx := B.exec
  have hb := B.bytes
  have hr := B.returns
  have hts := atoms_spec (ws := w_Node_addLongTo) B.pre
  have ht9 := fun (w : Cond) (h : w ∈ lw_g) => hts w (List.mem_cons_of_mem _ h)
  have hown : s.vm.findClass "DiscMaker$Node" = some m.cls := findClass_of_methodNamed B.named
  have hlocks := B.notSynchronized
  subst hsz
  have hD := hD0.self (sz := s.heap.size)
  generalize hAe : va_A [(bo, .inr (1, [.ref bq, .int L])), (bq, .inl (cB, n, .inl f))] s.heap.size = A at hD hZr ⊢
  have hA : ∀ q : Nat, s.heap.size ≤ q → A q := fun q h => by rw [← hAe]; exact Or.inr h
  have hS : va_S A s.heap s.heap [] := va_S.rf
  have hP : va_P D CL [(bo, .inr (1, [.ref bq, .int L])), (bq, .inl (cB, n, .inl f))] s.heap := hP
  have hl := lv_entry [.ref h0, .ref bo] (n := 3) (Nat.le_of_ble_eq_true rfl)
  rw [lg_entry_eq]
  generalize (lg_sl [.ref h0, .ref bo] ++ List.replicate (3 - (lg_sl [.ref h0, .ref bo]).length) Slot.unset).toArray = ls at hl ⊢
  have hl : lv_has ls 3 [(0, .ref h0), (1, .ref bo)] := hl
  have L_m1 : ((-1) : Int32).toInt = (-1) := by decide
  have L_0 : (0 : Int32).toInt = 0 := by decide
  have L_1 : (1 : Int32).toInt = 1 := by decide
  have L_2 : (2 : Int32).toInt = 2 := by decide
  refine lv_iconst (v := 0) hx hb d_Node_addLongTo_0 (by decide) ?_
  refine lv_istore_n hx hb d_Node_addLongTo_1 rfl hl (by decide) rfl (fun ls hl => ?_)
  have hl : lv_has ls 3 [(2, .int 0), (0, .ref h0), (1, .ref bo)] := hl
  refine zz_labM (B := fun (lk : Nat) (K : Heap → List Loc → Array Slot → List Value → Prop) => ∀ (kx : Int32) (lL : Int32) (lf : Nat → Int32) (H : Heap) (locs : List Loc) (ls : Array Slot), lk = (l1 - kx.toInt).toNat → (0 ≤ kx.toInt ∧ kx.toInt ≤ l1) → (lL.toInt = L.toInt + 2 * kx.toInt) → (BL (imC f) (imC lf) L.toInt (lnL c1 kx.toInt.toNat)) → va_P D CL [(bo, .inr (1, [.ref bq, .int lL])), (bq, .inl (cB, n, .inl lf))] H → va_D A [(bo, .inr (1, [.ref bq, .int lL])), (bq, .inl (cB, n, .inl lf))] → va_S A s.heap H locs → lv_has ls 3 [(0, .ref h0), (1, .ref bo), (2, .int kx)] → K H locs ls []) 2 ?_ ?_
  · skip
    intro lk ih2 kx lL lf H locs ls hm2 e1 e2 e4 hP hD hS hl
    refine lv_iload_n hx hb d_Node_addLongTo_2 rfl (lv_at hl 2 rfl) ?_
    refine lv_aload_n hx hb d_Node_addLongTo_3 rfl (lv_at hl 0 rfl) ?_
    have hPR := RO_at hZr hS
    refine va_get (D := D) (ci := 5) (v := .ref kna) (C := "DiscMaker$Node") (T := F_Node) (N := 12) hx hb ht9 in_Node hown hK hPR 0 rfl rfl 1 (by decide) (ht9 _ k183) (fun _ h9 => h9) rfl d_Node_addLongTo_4 ?_
    have hPR := RO_at hZr hS
    refine va_alen (v := nI l1) hx hb hK hPR 1 0 rfl rfl rfl d_Node_addLongTo_7 ?_
    refine lv_topi (fun v1 e_v1 => ?_)
    have t_v1 : v1.toInt = l1 := by rw [e_v1]; exact nI_toInt (by omega)
    refine lv_icmp_ge (tgt := 33) hx hb d_Node_addLongTo_8 (by decide) (fun h_9 => ?_) (fun h_9 => ?_)
    · skip
      have g8_7 : v1.toInt ≤ kx.toInt := (i_le rfl rfl).mp h_9
      have hP9 := hP.sub (ws' := [(bo, .inr (1, [.ref bq, .int lL])), (bq, .inl (cB, n, .inl lf))]) [0, 1] rfl
      have hD9 := hD.sub (ws' := [(bo, .inr (1, [.ref bq, .int lL])), (bq, .inl (cB, n, .inl lf))]) [0, 1] (by decide +kernel) rfl
      exact W.vret hx hb hr (fun t ht hW => ⟨⟨(lL, lf), rfl, ⟨(by (try dsimp only); first | assumption | omega | trivial), (by (try dsimp only); have h7 := e4; rw [show kx.toInt.toNat = l1 by omega] at h7; exact h7)⟩, by rw [ht]; exact hP9, hD9⟩, hS.F ht⟩) hS.2.2 d_Node_addLongTo_33
    · skip
      have g8_7 : ¬ v1.toInt ≤ kx.toInt := fun h8 => h_9 ((i_le rfl rfl).mpr h8)
      refine lv_aload_n hx hb d_Node_addLongTo_11 rfl (lv_at hl 1 rfl) ?_
      refine lv_aload_n hx hb d_Node_addLongTo_12 rfl (lv_at hl 1 rfl) ?_
      refine lv_iconst (v := 2) hx hb d_Node_addLongTo_13 (by decide) ?_
      have hPc := hP.sub (ws' := [(bo, .inr (1, [.ref bq, .int lL])), (bq, .inl (cB, n, .inl lf))]) [0, 1] rfl
      have hDc := hD.sub (ws' := [(bo, .inr (1, [.ref bq, .int lL])), (bq, .inl (cB, n, .inl lf))]) [0, 1] (by decide +kernel) rfl
      have hFc := va_free (wc := [(bo, .inr (1, [.ref bq, .int lL])), (bq, .inl (cB, n, .inl lf))]) hD hS hA [0, 1] rfl
      have hkc : 0 ≤ 0 := by decide
      have hks : 0 ≤ 0 := by decide
      refine va_calli (va_runV (C := "DiscMaker$Bytes") (As := [.int 2]) (rest := [.ref bo]) ⟨hx, hb, hml, hown, hts⟩ (c3_extendF l D cB cI cJ cZ cN cF H.size bo bq n lL lf 2 (by (try dsimp only); first | assumption | omega | trivial) (by (try dsimp only); first | assumption | omega | trivial) (by (try dsimp only); first | assumption | omega | trivial)) (cwV 1 hts (lg_goodV k983 k908 k909 k119 kc_Bytes_extend) rfl rfl rfl (by decide +kernel) ⟨Nat.le_of_ble_eq_true rfl, Nat.le_of_ble_eq_true rfl⟩) ⟨fun a U g mk q => by obtain ⟨q0, q1, qP, qK, qN, qD⟩ := q; exact ⟨q0, q1, qP, va_K.moved (u := U) (U := U.calling g mk a) (Vm.Alike.refl U.vm) qK, qN.calling, qD⟩, va_recv hK hP (ci := 1) (q0 := 0) rfl rfl, fun U hU hW => ⟨rfl, by rw [hU], by rw [hU]; exact hPc, va_K.moved hW.alike hK, NN.warm hW hN, hDc.weaken (fun _ _ _ _ => trivial)⟩⟩ rfl rfl hl.1 rfl (lv_room (Nat.le_of_ble_eq_true rfl)) d_Node_addLongTo_14 ⟨hkc, hks⟩) hS (fun q _ h => hFc q h) hFc (fun r2 u t H1 locs ht hvm hp_r2 hB hz1 hk1 hS => ?_)
      obtain ⟨L2_3, g_4⟩ := u
      obtain ⟨hP1, hD1⟩ := hB
      rw [ht] at hP1
      obtain ⟨hP, hD⟩ := va_join (wr := []) (w1 := [(bo, .inr (1, [.ref bq, .int L2_3])), (bq, .inl (cB, n, .inl g_4))]) hP hD [0, 1] [] rfl rfl (by decide +kernel) (by decide +kernel) hk1 hFc hP1 hD1
      clear hPc hDc hFc hP1 hD1 hk1 hz1 hkc hks
      generalize H1 = H at hP hS ⊢
      have hP : va_P D CL [(bo, .inr (1, [.ref bq, .int L2_3])), (bq, .inl (cB, n, .inl g_4))] H := hP
      have hD : va_D A [(bo, .inr (1, [.ref bq, .int L2_3])), (bq, .inl (cB, n, .inl g_4))] := hD
      try dsimp only at hp_r2
      obtain ⟨hv_5, hE_6, hw_7⟩ := hp_r2
      try rw [L_2] at hE_6
      try rw [L_2] at hw_7
      refine lv_aload_n hx hb d_Node_addLongTo_17 rfl (lv_at hl 0 rfl) ?_
      have hPR := RO_at hZr hS
      refine va_get (D := D) (ci := 5) (v := .ref kna) (C := "DiscMaker$Node") (T := F_Node) (N := 12) hx hb ht9 in_Node hown hK hPR 0 rfl rfl 1 (by decide) (ht9 _ k183) (fun _ h9 => h9) rfl d_Node_addLongTo_18 ?_
      refine lv_iload_n hx hb d_Node_addLongTo_21 rfl (lv_at hl 2 rfl) ?_
      have hPR := RO_at hZr hS
      refine va_bald hx hb hK hPR 1 0 rfl rfl (vp_in_iff.mpr ⟨by omega, by omega⟩) d_Node_addLongTo_22 ?_
      refine lv_topi (fun v8 e_v8 => ?_)
      refine lv_iconst (v := 2) hx hb d_Node_addLongTo_23 (by decide) ?_
      have hPc := hP.sub (ws' := [(bo, .inr (1, [.ref bq, .int L2_3])), (bq, .inl (cB, n, .inl g_4))]) [0, 1] rfl
      have hDc := hD.sub (ws' := [(bo, .inr (1, [.ref bq, .int L2_3])), (bq, .inl (cB, n, .inl g_4))]) [0, 1] (by decide +kernel) rfl
      have hFc := va_free (wc := [(bo, .inr (1, [.ref bq, .int L2_3])), (bq, .inl (cB, n, .inl g_4))]) hD hS hA [0, 1] rfl
      have hkc : 0 ≤ 0 := by decide
      have hks : 0 ≤ 0 := by decide
      refine va_callv (va_runV (C := "DiscMaker$Bytes") (As := [.int r2, .int v8, .int 2]) (rest := []) ⟨hx, hb, hml, hown, hts⟩ (c3_putHigh2F l D cB cI cJ cZ cN cF H.size bo bq n L2_3 g_4 r2 v8 (by (try dsimp only); first | assumption | omega | trivial) (by (try dsimp only); first | assumption | omega | trivial) (by (try dsimp only); first | assumption | omega | trivial)) (cwV 3 hts (lg_goodV k984 k985 k986 k119 kc_Bytes_putHigh) rfl rfl rfl (by decide +kernel) ⟨Nat.le_of_ble_eq_true rfl, Nat.le_of_ble_eq_true rfl⟩) ⟨fun a U g mk q => by obtain ⟨q0, q1, qP, qK, qN, qD⟩ := q; exact ⟨q0, q1, qP, va_K.moved (u := U) (U := U.calling g mk a) (Vm.Alike.refl U.vm) qK, qN.calling, qD⟩, va_recv hK hP (ci := 1) (q0 := 0) rfl rfl, fun U hU hW => ⟨rfl, by rw [hU], by rw [hU]; exact hPc, va_K.moved hW.alike hK, NN.warm hW hN, hDc.weaken (fun _ _ _ _ => trivial)⟩⟩ rfl rfl hl.1 rfl (lv_room (Nat.le_of_ble_eq_true rfl)) d_Node_addLongTo_24 ⟨hkc, hks⟩) hS (fun q _ h => hFc q h) hFc (fun u t H1 locs ht hvm hp_r9 hB hz1 hk1 hS => ?_)
      obtain ⟨g_10, rfl⟩ : ∃ z, z = u := ⟨_, rfl⟩
      obtain ⟨hP1, hD1⟩ := hB
      rw [ht] at hP1
      obtain ⟨hP, hD⟩ := va_join (wr := []) (w1 := [(bo, .inr (1, [.ref bq, .int L2_3])), (bq, .inl (cB, n, .inl g_10))]) hP hD [0, 1] [] rfl rfl (by decide +kernel) (by decide +kernel) hk1 hFc hP1 hD1
      clear hPc hDc hFc hP1 hD1 hk1 hz1 hkc hks
      generalize H1 = H at hP hS ⊢
      have hP : va_P D CL [(bo, .inr (1, [.ref bq, .int L2_3])), (bq, .inl (cB, n, .inl g_10))] H := hP
      have hD : va_D A [(bo, .inr (1, [.ref bq, .int L2_3])), (bq, .inl (cB, n, .inl g_10))] := hD
      try dsimp only at hp_r9
      have hw_11 := hp_r9
      obtain ⟨v12, e_v12⟩ : ∃ z : Int32, z = kx + 1 := ⟨_, rfl⟩
      refine lv_iinc (v := v12) hx hb d_Node_addLongTo_27 hl (k := 2) rfl e_v12.symm (by decide +kernel) rfl (fun ls hl => ?_)
      have t_v12 : v12.toInt = kx.toInt + 1 := by rw [e_v12]; exact i_add rfl (by decide) (by omega) (by omega)
      have hl : lv_has ls 3 [(2, .int v12), (0, .ref h0), (1, .ref bo)] := hl
      refine lv_goto (tgt := 2) hx hb d_Node_addLongTo_30 (by decide) ?_
      have hP := hP.sub (ws' := [(bo, .inr (1, [.ref bq, .int L2_3])), (bq, .inl (cB, n, .inl g_10))]) [0, 1] rfl
      have hD := hD.sub (ws' := [(bo, .inr (1, [.ref bq, .int L2_3])), (bq, .inl (cB, n, .inl g_10))]) [0, 1] (by decide +kernel) rfl
      have hl := lv_sub hl [1, 2, 0] rfl
      exact ih2 _ (by first | omega | (dsimp only; omega)) v12 L2_3 g_10 _ _ _ rfl ((by (try dsimp only); first | assumption | omega | trivial)) ((by (try dsimp only); first | assumption | omega | trivial)) ((ln_st (k2 := v12.toInt.toNat) e4 hw_7 hw_11 (by decide) (by omega) (by omega) (by rw [e_v8, show kx.toNatClampNeg = kx.toInt.toNat by (have h7 := i_cl (a := kx) (by omega); omega)]) (by omega))) hP hD hS hl
  · skip
    intro kk2
    have hP := hP.sub (ws' := [(bo, .inr (1, [.ref bq, .int L])), (bq, .inl (cB, n, .inl f))]) [0, 1] rfl
    have hD := hD.sub (ws' := [(bo, .inr (1, [.ref bq, .int L])), (bq, .inl (cB, n, .inl f))]) [0, 1] (by decide +kernel) rfl
    have hl := lv_sub hl [1, 2, 0] rfl
    exact kk2 _ 0 L f _ _ _ rfl ((by (try dsimp only); first | assumption | omega | trivial)) ((by (try dsimp only); first | assumption | omega | trivial)) ((BL_nil _ _)) hP hD hS hl
