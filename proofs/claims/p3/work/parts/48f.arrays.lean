theorem d_Text_part_0 : decode b_Text_part 0 = .ok (.iload_n 1, 1) := by decide +kernel
theorem d_Text_part_1 : decode b_Text_part 1 = .ok (.iload_n 2, 1) := by decide +kernel
theorem d_Text_part_2 : decode b_Text_part 2 = .ok (.if_icmp .ge 15, 3) := by decide +kernel
theorem d_Text_part_5 : decode b_Text_part 5 = .ok (.aload_n 0, 1) := by decide +kernel
theorem d_Text_part_6 : decode b_Text_part 6 = .ok (.getfield 9, 3) := by decide +kernel
theorem d_Text_part_9 : decode b_Text_part 9 = .ok (.iload_n 1, 1) := by decide +kernel
theorem d_Text_part_10 : decode b_Text_part 10 = .ok (.iload_n 2, 1) := by decide +kernel
theorem d_Text_part_11 : decode b_Text_part 11 = .ok (.invokestatic 23, 3) := by decide +kernel
theorem d_Text_part_14 : decode b_Text_part 14 = .ok (.goto 6, 3) := by decide +kernel
theorem d_Text_part_17 : decode b_Text_part 17 = .ok (.iconst 0, 1) := by decide +kernel
theorem d_Text_part_18 : decode b_Text_part 18 = .ok (.newarray .byte, 2) := by decide +kernel
theorem d_Text_part_20 : decode b_Text_part 20 = .ok (.areturn, 1) := by decide +kernel
set_option maxHeartbeats 4000000 in
set_option maxRecDepth 100000 in
theorem c3_part (l : Launch) (D : va_G) (cB cI cJ cZ cN cF : ClassId) (sz : Nat) (h0 : Nat) (q : Nat) (L : Int32) (f : Nat → Int32) (x : Int32) (y : Int32) (hx : 0 ≤ x.toInt ∧ y.toInt ≤ 400) (hB : Rg (-128) 127 400 f) : Met l y_Text_part w_Text_part ({ frames := 3, cells := 1, slots := 400, locals := 118 }) (va_Pc [.ref h0, .int x, .int y] (fun U => U.heap.size = sz ∧ va_P D CL [(h0, .inr (9, [.ref q, .int L])), (q, .inl (cB, 400, .inl f))] U.heap ∧ va_K D CL (TY cB cI cJ cZ cN cF) U ∧ NN U ∧ va_D (fun _ => True) [(h0, .inr (9, [.ref q, .int L])), (q, .inl (cB, 400, .inl f))] ∧ CST (va_A [(h0, .inr (9, [.ref q, .int L])), (q, .inl (cB, 400, .inl f))] sz) U U.heap)) (va_Qr (fun (u : Nat × (Nat → Int32)) => match u with | (n2, g) => ((n2 : Int) ≤ 400 ∧ ((n2 : Int) = y.toInt - x.toInt ∨ (y.toInt ≤ x.toInt ∧ n2 = 0))) ∧ (Rg (-128) 127 n2 g) ∧ (∀ j, j < n2 → g j = f (x.toNatClampNeg + j))) (fun (u : Nat × (Nat → Int32)) (a : Nat) (t : State) => match u with | (n2, g) => va_P D CL [(h0, .inr (9, [.ref q, .int L])), (q, .inl (cB, 400, .inl f)), (a, .inl (cB, n2, .inl g))] t.heap ∧ va_D (va_A [(h0, .inr (9, [.ref q, .int L])), (q, .inl (cB, 400, .inl f))] sz) [(h0, .inr (9, [.ref q, .int L])), (q, .inl (cB, 400, .inl f)), (a, .inl (cB, n2, .inl g))]) (va_A [(h0, .inr (9, [.ref q, .int L])), (q, .inl (cB, 400, .inl f))] sz)) 1 400 (va_A [(h0, .inr (9, [.ref q, .int L])), (q, .inl (cB, 400, .inl f))] sz) := by
  refine Met.ofW (cc := b_Text_part) (maxL := 3) (ret := some (.array .byte)) (by decide +kernel) rfl ?_
  intro p e s m args below meth c s₁ B hml hv
  obtain ⟨rfl, hsz, hP, hK, hN, hD0, hZc⟩ := hv
  have hx := B.exec
  have hb := B.bytes
  have hr := B.returns
  have hts := atoms_spec (ws := w_Text_part) B.pre
  have ht9 := fun (w : Cond) (h : w ∈ lw_g) => hts w (List.mem_cons_of_mem _ h)
  have hown : s.vm.findClass "DiscMaker$Text" = some m.cls := findClass_of_methodNamed B.named
  have hlocks := B.notSynchronized
  subst hsz
  have hD := hD0.self (sz := s.heap.size)
  generalize hAe : va_A [(h0, .inr (9, [.ref q, .int L])), (q, .inl (cB, 400, .inl f))] s.heap.size = A at hD hZc ⊢
  have hA : ∀ q : Nat, s.heap.size ≤ q → A q := fun q h => by rw [← hAe]; exact Or.inr h
  have hS : va_S A s.heap s.heap [] := va_S.rf
  have hP : va_P D CL [(h0, .inr (9, [.ref q, .int L])), (q, .inl (cB, 400, .inl f))] s.heap := hP
  have hl := lv_entry [.ref h0, .int x, .int y] (n := 3) (Nat.le_of_ble_eq_true rfl)
  rw [lg_entry_eq]
  generalize (lg_sl [.ref h0, .int x, .int y] ++ List.replicate (3 - (lg_sl [.ref h0, .int x, .int y]).length) Slot.unset).toArray = ls at hl ⊢
  have hl : lv_has ls 3 [(0, .ref h0), (1, .int x), (2, .int y)] := hl
  have L_m1 : ((-1) : Int32).toInt = (-1) := by decide
  have L_0 : (0 : Int32).toInt = 0 := by decide
  have L_1 : (1 : Int32).toInt = 1 := by decide
  refine lv_iload_n hx hb d_Text_part_0 rfl (lv_at hl 1 rfl) ?_
  refine lv_iload_n hx hb d_Text_part_1 rfl (lv_at hl 2 rfl) ?_
  refine lv_icmp_ge (tgt := 17) hx hb d_Text_part_2 (by decide) (fun h_9 => ?_) (fun h_9 => ?_)
  · skip
    have g2_3 : y.toInt ≤ x.toInt := (i_le rfl rfl).mp h_9
    refine lv_iconst (v := 0) hx hb d_Text_part_17 (by decide) ?_
    have hc_18 : 1 ≤ 1 := by decide
    have hs_18 : 0 ≤ 400 := by decide
    refine zz_newa (atype := .byte) (cK := cB) (ty := .byte) (N' := 0) (a0 := (0, .inl (fun _ => 0))) 0 (fun _ _ _ h1 h2 => Option.some.inj (h1.symm.trans h2)) rfl hx hb (ht9 _ k164) rfl hK hP hD hS hA (fun _ => rfl) (by decide) (by decide) (by decide) hc_18 hs_18 d_Text_part_18 (fun q1 H hP hD hS => ?_)
    have hP : va_P D CL [(h0, .inr (9, [.ref q, .int L])), (q, .inl (cB, 400, .inl f)), (q1, .inl (cB, 0, .inl (fun _ => 0)))] H := hP
    have hD : va_D A [(h0, .inr (9, [.ref q, .int L])), (q, .inl (cB, 400, .inl f)), (q1, .inl (cB, 0, .inl (fun _ => 0)))] := hD
    refine W.widen (k := 1) (n := 0) (by decide) (by decide) ?_
    have hP9 := hP.sub (ws' := [(h0, .inr (9, [.ref q, .int L])), (q, .inl (cB, 400, .inl f)), (q1, .inl (cB, 0, .inl (fun _ => 0)))]) [0, 1, 2] rfl
    have hD9 := hD.sub (ws' := [(h0, .inr (9, [.ref q, .int L])), (q, .inl (cB, 400, .inl f)), (q1, .inl (cB, 0, .inl (fun _ => 0)))]) [0, 1, 2] (by decide +kernel) rfl
    refine W.widen (k := 1) (n := 400) (by decide) (by decide) ?_
    exact W.aret (v := .ref q1) hx hb hr (Or.inr ⟨_, rfl⟩) (Or.inr ⟨_, rfl⟩) (fun t ht hW => ⟨⟨(0, (fun _ => 0)), q1, rfl, ⟨(by (try dsimp only); first | assumption | omega | trivial), (fun j hj => absurd hj (by omega)), (fun j hj => absurd hj (by omega))⟩, by rw [ht]; exact hP9, hD9⟩, hS.F ht⟩) hS.2.2 d_Text_part_20
  · skip
    have g2_3 : ¬ y.toInt ≤ x.toInt := fun h8 => h_9 ((i_le rfl rfl).mpr h8)
    refine lv_aload_n hx hb d_Text_part_5 rfl (lv_at hl 0 rfl) ?_
    refine va_get (D := D) (ci := 9) (v := .ref q) (C := "DiscMaker$Text") (T := F_Text) (N := 2) hx hb ht9 in_Text hown hK hP 0 rfl rfl 0 (by decide) (ht9 _ k157) (fun _ h9 => h9) rfl d_Text_part_6 ?_
    refine lv_iload_n hx hb d_Text_part_9 rfl (lv_at hl 1 rfl) ?_
    refine lv_iload_n hx hb d_Text_part_10 rfl (lv_at hl 2 rfl) ?_
    have hPc := hP.sub (ws' := [(q, .inl (cB, 400, .inl f))]) [1] rfl
    have hDc := hD.sub (ws' := [(q, .inl (cB, 400, .inl f))]) [1] (by decide +kernel) rfl
    have hFc := va_free (wc := [(q, .inl (cB, 400, .inl f))]) hD hS hA [1] rfl
    have hkc : 1 ≤ 1 := by decide
    have hks : 400 ≤ 400 := by decide
    refine va_callr (va_runS (As := [.ref q, .int x, .int y]) (rest := []) ⟨hx, hb, hml, hown, hts⟩ (c3_copyOfRange l D cB cI cJ cZ cN cF s.heap.size q f x y (by (try dsimp only); first | assumption | omega | trivial) (by (try dsimp only); first | assumption | omega | trivial)) (va_cwS 3 hts (lg_goodSX k487 k488 k126 kc_Arrays_copyOfRange) rfl rfl rfl (by decide +kernel) ⟨Nat.le_of_ble_eq_true rfl, Nat.le_of_ble_eq_true rfl⟩) ⟨fun a U g mk q => by obtain ⟨q0, q1, qP, qK, qN, qD, qZ0⟩ := q; exact ⟨q0, q1, qP, va_K.moved (u := U) (U := U.calling g mk a) (Vm.Alike.refl U.vm) qK, qN.calling, qD, CST_blind qZ0⟩, fun U hU hW => ⟨rfl, by rw [hU], by rw [hU]; exact hPc, va_K.moved hW.alike hK, NN.warm hW hN, hDc.weaken (fun _ _ _ _ => trivial), va_Nw.warmC hW hZc⟩⟩ rfl rfl hl.1 rfl (lv_room (Nat.le_of_ble_eq_true rfl)) d_Text_part_11 ⟨hkc, hks⟩) hS (fun q _ h => hFc q h) hFc (fun u r2 t H1 locs ht hvm hp_r2 hB hz1 hk1 hS => ?_)
    obtain ⟨n2_3, g_4⟩ := u
    obtain ⟨hP1, hD1⟩ := hB
    rw [ht] at hP1
    obtain ⟨hP, hD⟩ := va_join (wr := [(h0, .inr (9, [.ref q, .int L]))]) (w1 := [(q, .inl (cB, 400, .inl f)), (r2, .inl (cB, n2_3, .inl g_4))]) hP hD [1] [0] rfl rfl (by decide +kernel) (by decide +kernel) hk1 hFc hP1 hD1
    clear hPc hDc hFc hP1 hD1 hk1 hz1 hkc hks
    generalize H1 = H at hP hS ⊢
    have hP : va_P D CL [(h0, .inr (9, [.ref q, .int L])), (q, .inl (cB, 400, .inl f)), (r2, .inl (cB, n2_3, .inl g_4))] H := hP
    have hD : va_D A [(h0, .inr (9, [.ref q, .int L])), (q, .inl (cB, 400, .inl f)), (r2, .inl (cB, n2_3, .inl g_4))] := hD
    refine W.widen (k := 1) (n := 400) (by decide) (by decide) ?_
    try dsimp only at hp_r2
    obtain ⟨hn2_5, hB2_6, hcp_7⟩ := hp_r2
    refine lv_goto (tgt := 20) hx hb d_Text_part_14 (by decide) ?_
    have hP9 := hP.sub (ws' := [(h0, .inr (9, [.ref q, .int L])), (q, .inl (cB, 400, .inl f)), (r2, .inl (cB, n2_3, .inl g_4))]) [0, 1, 2] rfl
    have hD9 := hD.sub (ws' := [(h0, .inr (9, [.ref q, .int L])), (q, .inl (cB, 400, .inl f)), (r2, .inl (cB, n2_3, .inl g_4))]) [0, 1, 2] (by decide +kernel) rfl
    exact W.aret (v := .ref r2) hx hb hr (Or.inr ⟨_, rfl⟩) (Or.inr ⟨_, rfl⟩) (fun t ht hW => ⟨⟨(n2_3, g_4), r2, rfl, ⟨(by (try dsimp only); first | assumption | omega | trivial), hB2_6, hcp_7⟩, by rw [ht]; exact hP9, hD9⟩, hS.F ht⟩) hS.2.2 d_Text_part_20
