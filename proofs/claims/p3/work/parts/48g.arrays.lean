theorem d_Bytes_reset_0 : decode b_Bytes_reset 0 = .ok (.iload_n 1, 1) := by decide +kernel
theorem d_Bytes_reset_1 : decode b_Bytes_reset 1 = .ok (.aload_n 0, 1) := by decide +kernel
theorem d_Bytes_reset_2 : decode b_Bytes_reset 2 = .ok (.getfield 7, 3) := by decide +kernel
theorem d_Bytes_reset_5 : decode b_Bytes_reset 5 = .ok (.arraylength, 1) := by decide +kernel
theorem d_Bytes_reset_6 : decode b_Bytes_reset 6 = .ok (.if_icmp .le 23, 3) := by decide +kernel
theorem d_Bytes_reset_9 : decode b_Bytes_reset 9 = .ok (.aload_n 0, 1) := by decide +kernel
theorem d_Bytes_reset_10 : decode b_Bytes_reset 10 = .ok (.iload_n 1, 1) := by decide +kernel
theorem d_Bytes_reset_11 : decode b_Bytes_reset 11 = .ok (.iconst 2, 1) := by decide +kernel
theorem d_Bytes_reset_12 : decode b_Bytes_reset 12 = .ok (.aload_n 0, 1) := by decide +kernel
theorem d_Bytes_reset_13 : decode b_Bytes_reset 13 = .ok (.getfield 7, 3) := by decide +kernel
theorem d_Bytes_reset_16 : decode b_Bytes_reset 16 = .ok (.arraylength, 1) := by decide +kernel
theorem d_Bytes_reset_17 : decode b_Bytes_reset 17 = .ok (.imul, 1) := by decide +kernel
theorem d_Bytes_reset_18 : decode b_Bytes_reset 18 = .ok (.invokestatic 13, 3) := by decide +kernel
theorem d_Bytes_reset_21 : decode b_Bytes_reset 21 = .ok (.newarray .byte, 2) := by decide +kernel
theorem d_Bytes_reset_23 : decode b_Bytes_reset 23 = .ok (.putfield 7, 3) := by decide +kernel
theorem d_Bytes_reset_26 : decode b_Bytes_reset 26 = .ok (.goto 11, 3) := by decide +kernel
theorem d_Bytes_reset_29 : decode b_Bytes_reset 29 = .ok (.aload_n 0, 1) := by decide +kernel
theorem d_Bytes_reset_30 : decode b_Bytes_reset 30 = .ok (.getfield 7, 3) := by decide +kernel
theorem d_Bytes_reset_33 : decode b_Bytes_reset 33 = .ok (.iconst 0, 1) := by decide +kernel
theorem d_Bytes_reset_34 : decode b_Bytes_reset 34 = .ok (.invokestatic 19, 3) := by decide +kernel
theorem d_Bytes_reset_37 : decode b_Bytes_reset 37 = .ok (.aload_n 0, 1) := by decide +kernel
theorem d_Bytes_reset_38 : decode b_Bytes_reset 38 = .ok (.iload_n 1, 1) := by decide +kernel
theorem d_Bytes_reset_39 : decode b_Bytes_reset 39 = .ok (.putfield 25, 3) := by decide +kernel
theorem d_Bytes_reset_42 : decode b_Bytes_reset 42 = .ok (.return_, 1) := by decide +kernel
set_option maxHeartbeats 4000000 in
set_option maxRecDepth 100000 in
theorem c3_reset (l : Launch) (D : va_G) (cB cI cJ cZ cN cF : ClassId) (sz : Nat) (h0 : Nat) (q : Nat) (n : Nat) (L : Int32) (f : Nat → Int32) (T0 : Nat) (x : Int32) (hL : 0 ≤ L.toInt ∧ L.toInt ≤ n) (hn : n ≤ 3000000) (hx : 0 ≤ x.toInt ∧ x.toInt ≤ 1100000) : Met l y_Bytes_reset w_Bytes_reset ({ frames := 1, cells := 1, slots := 2200000, locals := 30 }) (va_Pc [.ref h0, .int x] (fun U => U.heap.size = sz ∧ va_P D CL [(h0, .inr (1, [.ref q, .int L])), (q, .inl (cB, n, .inl f))] U.heap ∧ va_K D CL (TY cB cI cJ cZ cN cF) U ∧ NN U ∧ va_D (fun _ => True) [(h0, .inr (1, [.ref q, .int L])), (q, .inl (cB, n, .inl f))] ∧ TOT T0 (va_A [(h0, .inr (1, [.ref q, .int L])), (q, .inl (cB, n, .inl f))] sz) U U.heap)) (va_Qv (fun (u : Nat × Nat × (Nat → Int32)) => match u with | (q2, n2, g) => (x.toInt ≤ n2 ∧ (n2 ≤ 2200000 ∨ n2 = n)) ∧ (n2 = n ∨ (2 * n ≤ n2 ∧ n < n2))) (fun (u : Nat × Nat × (Nat → Int32)) (t : State) => match u with | (q2, n2, g) => ((n2 = n ∧ tot t.heap ≤ T0) ∨ (n < n2 ∧ tot t.heap ≤ T0 + n2)) ∧ va_P D CL [(h0, .inr (1, [.ref q2, .int x])), (q2, .inl (cB, n2, .inl g))] t.heap ∧ va_D (va_A [(h0, .inr (1, [.ref q, .int L])), (q, .inl (cB, n, .inl f))] sz) [(h0, .inr (1, [.ref q2, .int x])), (q2, .inl (cB, n2, .inl g))]) (va_A [(h0, .inr (1, [.ref q, .int L])), (q, .inl (cB, n, .inl f))] sz)) 1 2200000 (va_A [(h0, .inr (1, [.ref q, .int L])), (q, .inl (cB, n, .inl f))] sz) := by
  refine Met.ofW (cc := b_Bytes_reset) (maxL := 2) (ret := none) (by decide +kernel) rfl ?_
  intro p e s m args below meth c s₁ B hml hv
  obtain ⟨rfl, hsz, hP, hK, hN, hD0, hZq⟩ := hv
  have hx := B.exec
  have hb := B.bytes
  have hr := B.returns
  have hts := atoms_spec (ws := w_Bytes_reset) B.pre
  have ht9 := fun (w : Cond) (h : w ∈ lw_g) => hts w (List.mem_cons_of_mem _ h)
  have hown : s.vm.findClass "DiscMaker$Bytes" = some m.cls := findClass_of_methodNamed B.named
  have hlocks := B.notSynchronized
  subst hsz
  have hD := hD0.self (sz := s.heap.size)
  generalize hAe : va_A [(h0, .inr (1, [.ref q, .int L])), (q, .inl (cB, n, .inl f))] s.heap.size = A at hD hZq ⊢
  have hA : ∀ q : Nat, s.heap.size ≤ q → A q := fun q h => by rw [← hAe]; exact Or.inr h
  have hS : va_S A s.heap s.heap [] := va_S.rf
  have hP : va_P D CL [(h0, .inr (1, [.ref q, .int L])), (q, .inl (cB, n, .inl f))] s.heap := hP
  have hl := lv_entry [.ref h0, .int x] (n := 2) (Nat.le_of_ble_eq_true rfl)
  rw [lg_entry_eq]
  generalize (lg_sl [.ref h0, .int x] ++ List.replicate (2 - (lg_sl [.ref h0, .int x]).length) Slot.unset).toArray = ls at hl ⊢
  have hl : lv_has ls 2 [(0, .ref h0), (1, .int x)] := hl
  have L_m1 : ((-1) : Int32).toInt = (-1) := by decide
  have L_0 : (0 : Int32).toInt = 0 := by decide
  have L_1 : (1 : Int32).toInt = 1 := by decide
  have L_2 : (2 : Int32).toInt = 2 := by decide
  refine lv_iload_n hx hb d_Bytes_reset_0 rfl (lv_at hl 1 rfl) ?_
  refine lv_aload_n hx hb d_Bytes_reset_1 rfl (lv_at hl 0 rfl) ?_
  refine va_get (D := D) (ci := 1) (v := .ref q) (C := "DiscMaker$Bytes") (T := F_Bytes) (N := 2) hx hb ht9 in_Bytes hown hK hP 0 rfl rfl 0 (by decide) (ht9 _ k256) (fun _ h9 => h9) rfl d_Bytes_reset_2 ?_
  refine va_alen (v := nI n) hx hb hK hP 1 0 rfl rfl rfl d_Bytes_reset_5 ?_
  refine lv_topi (fun v1 e_v1 => ?_)
  have t_v1 : v1.toInt = n := by rw [e_v1]; exact nI_toInt (by omega)
  refine lv_icmp_le (tgt := 29) hx hb d_Bytes_reset_6 (by decide) (fun h_9 => ?_) (fun h_9 => ?_)
  · skip
    have g6_5 : x.toInt ≤ v1.toInt := (i_le rfl rfl).mp h_9
    refine lv_aload_n hx hb d_Bytes_reset_29 rfl (lv_at hl 0 rfl) ?_
    refine va_get (D := D) (ci := 1) (v := .ref q) (C := "DiscMaker$Bytes") (T := F_Bytes) (N := 2) hx hb ht9 in_Bytes hown hK hP 0 rfl rfl 0 (by decide) (ht9 _ k256) (fun _ h9 => h9) rfl d_Bytes_reset_30 ?_
    refine lv_iconst (v := 0) hx hb d_Bytes_reset_33 (by decide) ?_
    have hPc := hP.sub (ws' := [(q, .inl (cB, n, .inl f))]) [1] rfl
    have hDc := hD.sub (ws' := [(q, .inl (cB, n, .inl f))]) [1] (by decide +kernel) rfl
    have hFc := va_free (wc := [(q, .inl (cB, n, .inl f))]) hD hS hA [1] rfl
    have hkc : 0 ≤ 1 := by decide
    have hks : 0 ≤ 2200000 := by decide
    refine va_callv (va_runS (As := [.ref q, .int 0]) (rest := []) ⟨hx, hb, hml, hown, hts⟩ (c3_Arrays_fill l D cB cI cJ cZ cN cF s.heap.size q n f 0 (by (try dsimp only); first | assumption | omega | trivial)) (va_cwS 2 hts (lg_goodSX k1086 k844 k126 kc_Arrays_fill) rfl rfl rfl (by decide +kernel) ⟨Nat.le_of_ble_eq_true rfl, Nat.le_of_ble_eq_true rfl⟩) ⟨fun a U g mk q => by obtain ⟨q0, q1, qP, qK, qN, qD⟩ := q; exact ⟨q0, q1, qP, va_K.moved (u := U) (U := U.calling g mk a) (Vm.Alike.refl U.vm) qK, qN.calling, qD⟩, fun U hU hW => ⟨rfl, by rw [hU], by rw [hU]; exact hPc, va_K.moved hW.alike hK, NN.warm hW hN, hDc.weaken (fun _ _ _ _ => trivial)⟩⟩ rfl rfl hl.1 rfl (lv_room (Nat.le_of_ble_eq_true rfl)) d_Bytes_reset_34 ⟨hkc, hks⟩) hS (fun q _ h => hFc q h) hFc (fun u t H1 locs ht hvm hp_r2 hB hz1 hk1 hS => ?_)
    obtain ⟨g_3, rfl⟩ : ∃ z, z = u := ⟨_, rfl⟩
    obtain ⟨hP1, hD1⟩ := hB
    rw [ht] at hP1
    obtain ⟨hP, hD⟩ := va_join (wr := [(h0, .inr (1, [.ref q, .int L]))]) (w1 := [(q, .inl (cB, n, .inl g_3))]) hP hD [1] [0] rfl rfl (by decide +kernel) (by decide +kernel) hk1 hFc hP1 hD1
    clear hPc hDc hFc hP1 hD1 hk1 hz1 hkc hks
    generalize H1 = H at hP hS ⊢
    have hP : va_P D CL [(h0, .inr (1, [.ref q, .int L])), (q, .inl (cB, n, .inl g_3))] H := hP
    have hD : va_D A [(h0, .inr (1, [.ref q, .int L])), (q, .inl (cB, n, .inl g_3))] := hD
    refine lv_aload_n hx hb d_Bytes_reset_37 rfl (lv_at hl 0 rfl) ?_
    refine lv_iload_n hx hb d_Bytes_reset_38 rfl (lv_at hl 1 rfl) ?_
    refine va_put (D := D) (ci := 1) (v := .int x) (ty := .int) (C := "DiscMaker$Bytes") (T := F_Bytes) (N := 2) hx hb ht9 in_Bytes t_Bytes t_Bytes_ok n_Bytes hown hK hP hD hS 0 rfl rfl 1 (by decide) (ht9 _ k258) (fun _ h9 => h9) rfl (by decide +kernel) rfl rfl (Nat.le_of_ble_eq_true rfl) d_Bytes_reset_39 (fun H locs hP hD hS => ?_)
    have hP : va_P D CL [(h0, .inr (1, [.ref q, .int x])), (q, .inl (cB, n, .inl g_3))] H := hP
    have hD : va_D A [(h0, .inr (1, [.ref q, .int x])), (q, .inl (cB, n, .inl g_3))] := hD
    have hT0 : tot s.heap = T0 := hZq
    refine zz_know (fun hk9 hn9 => ?_)
    have hP9 := hP.sub (ws' := [(h0, .inr (1, [.ref q, .int x])), (q, .inl (cB, n, .inl g_3))]) [0, 1] rfl
    have hD9 := hD.sub (ws' := [(h0, .inr (1, [.ref q, .int x])), (q, .inl (cB, n, .inl g_3))]) [0, 1] (by decide +kernel) rfl
    refine W.widen (k := 1) (n := 2200000) (by decide) (by decide) ?_
    exact W.vret hx hb hr (fun t ht hW => ⟨⟨(q, n, g_3), rfl, ⟨(by (try dsimp only); first | assumption | omega | trivial), (by (try dsimp only); first | assumption | omega | trivial)⟩, Or.inl ⟨rfl, by rw [ht]; omega⟩, by rw [ht]; exact hP9, hD9⟩, hS.F ht⟩) hS.2.2 d_Bytes_reset_42
  · skip
    have g6_5 : ¬ x.toInt ≤ v1.toInt := fun h8 => h_9 ((i_le rfl rfl).mpr h8)
    refine lv_aload_n hx hb d_Bytes_reset_9 rfl (lv_at hl 0 rfl) ?_
    refine lv_iload_n hx hb d_Bytes_reset_10 rfl (lv_at hl 1 rfl) ?_
    refine lv_iconst (v := 2) hx hb d_Bytes_reset_11 (by decide) ?_
    refine lv_aload_n hx hb d_Bytes_reset_12 rfl (lv_at hl 0 rfl) ?_
    refine va_get (D := D) (ci := 1) (v := .ref q) (C := "DiscMaker$Bytes") (T := F_Bytes) (N := 2) hx hb ht9 in_Bytes hown hK hP 0 rfl rfl 0 (by decide) (ht9 _ k256) (fun _ h9 => h9) rfl d_Bytes_reset_13 ?_
    refine va_alen (v := nI n) hx hb hK hP 1 0 rfl rfl rfl d_Bytes_reset_16 ?_
    refine lv_topi (fun v4 e_v4 => ?_)
    have t_v4 : v4.toInt = n := by rw [e_v4]; exact nI_toInt (by omega)
    refine lv_imul hx hb d_Bytes_reset_17 ?_
    refine lv_topi (fun v5 e_v5 => ?_)
    have t_v5 : v5.toInt = 2 * v4.toInt := by rw [e_v5]; exact i_mul (by decide) rfl (by omega) (by omega)
    refine va_mmax (x := x) (y := v5) hx hb (hml.trans hl.1.symm) hown (ht9 _ k1085) (ht9 _ k589) (ht9 _ k137) (ht9 _ kMax) (Nat.le_of_ble_eq_true rfl) (Nat.le_of_ble_eq_true rfl) (by decide) (by decide) d_Bytes_reset_18 ?_
    refine lv_topi (fun v6 e_v6 => ?_)
    have t_v6 : (v6.toInt = x.toInt ∧ v5.toInt ≤ x.toInt) ∨ (v6.toInt = v5.toInt ∧ x.toInt < v5.toInt) := by rw [e_v6]; exact i_max rfl rfl
    obtain ⟨N8, e_N8⟩ : ∃ z : Nat, v6.toNatClampNeg = z := ⟨_, rfl⟩
    have t_N8 : (N8 : Int) = v6.toInt := by rw [← e_N8]; exact i_cl (by omega)
    have hc_21 : 1 ≤ 1 := by decide
    have hs_21 : 0 + N8 ≤ 2200000 := Nat.le_trans (m := 2200000) (by omega) (by decide)
    refine zz_newa (atype := .byte) (cK := cB) (ty := .byte) (N' := N8) (a0 := (N8, .inl (fun _ => 0))) 0 (fun _ _ _ h1 h2 => Option.some.inj (h1.symm.trans h2)) rfl hx hb (ht9 _ k164) rfl hK hP hD hS hA (fun _ => rfl) (by rw [i_lt (a := v6) rfl (b := 0) L_0]; omega) e_N8 (by show N8 * 1 ≤ 536870912; omega) hc_21 hs_21 d_Bytes_reset_21 (fun q7 H hP hD hS => ?_)
    have hP : va_P D CL [(h0, .inr (1, [.ref q, .int L])), (q, .inl (cB, n, .inl f)), (q7, .inl (cB, N8, .inl (fun _ => 0)))] H := hP
    have hD : va_D A [(h0, .inr (1, [.ref q, .int L])), (q, .inl (cB, n, .inl f)), (q7, .inl (cB, N8, .inl (fun _ => 0)))] := hD
    refine va_put (D := D) (ci := 1) (v := .ref q7) (ty := .array .byte) (C := "DiscMaker$Bytes") (T := F_Bytes) (N := 2) hx hb ht9 in_Bytes t_Bytes t_Bytes_ok n_Bytes hown hK hP hD hS 0 rfl rfl 0 (by decide) (ht9 _ k256) (fun _ h9 => h9) rfl (by decide +kernel) rfl rfl (Nat.le_of_ble_eq_true rfl) d_Bytes_reset_23 (fun H locs hP hD hS => ?_)
    have hP : va_P D CL [(h0, .inr (1, [.ref q7, .int L])), (q, .inl (cB, n, .inl f)), (q7, .inl (cB, N8, .inl (fun _ => 0)))] H := hP
    have hD : va_D A [(h0, .inr (1, [.ref q7, .int L])), (q, .inl (cB, n, .inl f)), (q7, .inl (cB, N8, .inl (fun _ => 0)))] := hD
    refine lv_goto (tgt := 37) hx hb d_Bytes_reset_26 (by decide) ?_
    refine lv_aload_n hx hb d_Bytes_reset_37 rfl (lv_at hl 0 rfl) ?_
    refine lv_iload_n hx hb d_Bytes_reset_38 rfl (lv_at hl 1 rfl) ?_
    refine va_put (D := D) (ci := 1) (v := .int x) (ty := .int) (C := "DiscMaker$Bytes") (T := F_Bytes) (N := 2) hx hb ht9 in_Bytes t_Bytes t_Bytes_ok n_Bytes hown hK hP hD hS 0 rfl rfl 1 (by decide) (ht9 _ k258) (fun _ h9 => h9) rfl (by decide +kernel) rfl rfl (Nat.le_of_ble_eq_true rfl) d_Bytes_reset_39 (fun H locs hP hD hS => ?_)
    have hP : va_P D CL [(h0, .inr (1, [.ref q7, .int x])), (q, .inl (cB, n, .inl f)), (q7, .inl (cB, N8, .inl (fun _ => 0)))] H := hP
    have hD : va_D A [(h0, .inr (1, [.ref q7, .int x])), (q, .inl (cB, n, .inl f)), (q7, .inl (cB, N8, .inl (fun _ => 0)))] := hD
    have hT0 : tot s.heap = T0 := hZq
    refine zz_know (fun hk9 hn9 => ?_)
    have hP9 := hP.sub (ws' := [(h0, .inr (1, [.ref q7, .int x])), (q7, .inl (cB, N8, .inl (fun _ => 0)))]) [0, 2] rfl
    have hD9 := hD.sub (ws' := [(h0, .inr (1, [.ref q7, .int x])), (q7, .inl (cB, N8, .inl (fun _ => 0)))]) [0, 2] (by decide +kernel) rfl
    refine W.widen (k := 1) (n := 2200000) (by decide) (by omega) ?_
    exact W.vret hx hb hr (fun t ht hW => ⟨⟨(q7, N8, (fun _ => 0)), rfl, ⟨(by (try dsimp only); first | assumption | omega | trivial), (by (try dsimp only); first | assumption | omega | trivial)⟩, Or.inr ⟨by omega, by rw [ht]; omega⟩, by rw [ht]; exact hP9, hD9⟩, hS.F ht⟩) hS.2.2 d_Bytes_reset_42
