theorem d_Arrays_copyOfRangeByte_0 : decode b_Arrays_copyOfRangeByte 0 = .ok (.iload_n 1, 1) := by decide +kernel
theorem d_Arrays_copyOfRangeByte_1 : decode b_Arrays_copyOfRangeByte 1 = .ok (.iload_n 2, 1) := by decide +kernel
theorem d_Arrays_copyOfRangeByte_2 : decode b_Arrays_copyOfRangeByte 2 = .ok (.invokestatic 343, 3) := by decide +kernel
theorem d_Arrays_copyOfRangeByte_5 : decode b_Arrays_copyOfRangeByte 5 = .ok (.iload_n 2, 1) := by decide +kernel
theorem d_Arrays_copyOfRangeByte_6 : decode b_Arrays_copyOfRangeByte 6 = .ok (.iload_n 1, 1) := by decide +kernel
theorem d_Arrays_copyOfRangeByte_7 : decode b_Arrays_copyOfRangeByte 7 = .ok (.isub, 1) := by decide +kernel
theorem d_Arrays_copyOfRangeByte_8 : decode b_Arrays_copyOfRangeByte 8 = .ok (.istore_n 3, 1) := by decide +kernel
theorem d_Arrays_copyOfRangeByte_9 : decode b_Arrays_copyOfRangeByte 9 = .ok (.iload_n 3, 1) := by decide +kernel
theorem d_Arrays_copyOfRangeByte_10 : decode b_Arrays_copyOfRangeByte 10 = .ok (.newarray .byte, 2) := by decide +kernel
theorem d_Arrays_copyOfRangeByte_12 : decode b_Arrays_copyOfRangeByte 12 = .ok (.astore 4, 2) := by decide +kernel
theorem d_Arrays_copyOfRangeByte_14 : decode b_Arrays_copyOfRangeByte 14 = .ok (.aload_n 0, 1) := by decide +kernel
theorem d_Arrays_copyOfRangeByte_15 : decode b_Arrays_copyOfRangeByte 15 = .ok (.iload_n 1, 1) := by decide +kernel
theorem d_Arrays_copyOfRangeByte_16 : decode b_Arrays_copyOfRangeByte 16 = .ok (.aload 4, 2) := by decide +kernel
theorem d_Arrays_copyOfRangeByte_18 : decode b_Arrays_copyOfRangeByte 18 = .ok (.iconst 0, 1) := by decide +kernel
theorem d_Arrays_copyOfRangeByte_19 : decode b_Arrays_copyOfRangeByte 19 = .ok (.aload_n 0, 1) := by decide +kernel
theorem d_Arrays_copyOfRangeByte_20 : decode b_Arrays_copyOfRangeByte 20 = .ok (.arraylength, 1) := by decide +kernel
theorem d_Arrays_copyOfRangeByte_21 : decode b_Arrays_copyOfRangeByte 21 = .ok (.iload_n 1, 1) := by decide +kernel
theorem d_Arrays_copyOfRangeByte_22 : decode b_Arrays_copyOfRangeByte 22 = .ok (.isub, 1) := by decide +kernel
theorem d_Arrays_copyOfRangeByte_23 : decode b_Arrays_copyOfRangeByte 23 = .ok (.iload_n 3, 1) := by decide +kernel
theorem d_Arrays_copyOfRangeByte_24 : decode b_Arrays_copyOfRangeByte 24 = .ok (.invokestatic 304, 3) := by decide +kernel
theorem d_Arrays_copyOfRangeByte_27 : decode b_Arrays_copyOfRangeByte 27 = .ok (.invokestatic 150, 3) := by decide +kernel
theorem d_Arrays_copyOfRangeByte_30 : decode b_Arrays_copyOfRangeByte 30 = .ok (.aload 4, 2) := by decide +kernel
theorem d_Arrays_copyOfRangeByte_32 : decode b_Arrays_copyOfRangeByte 32 = .ok (.areturn, 1) := by decide +kernel
set_option maxHeartbeats 4000000 in
set_option maxRecDepth 100000 in
theorem c3_copyOfRangeByte (l : Launch) (D : va_G) (cB cI cJ cZ cN cF : ClassId) (sz : Nat) (q : Nat) (f : Nat → Int32) (x : Int32) (y : Int32) (hxy : 0 ≤ x.toInt ∧ x.toInt ≤ y.toInt ∧ y.toInt ≤ 400) (hB : Rg (-128) 127 400 f) : Met l y_Arrays_copyOfRangeByte w_Arrays_copyOfRangeByte ({ frames := 1, cells := 1, slots := 400, locals := 60 }) (va_Pc [.ref q, .int x, .int y] (fun U => U.heap.size = sz ∧ va_P D CL [(q, .inl (cB, 400, .inl f))] U.heap ∧ va_K D CL (TY cB cI cJ cZ cN cF) U ∧ NN U ∧ va_D (fun _ => True) [(q, .inl (cB, 400, .inl f))])) (va_Qr (fun (u : Nat × (Nat → Int32)) => match u with | (n2, g) => ((n2 : Int) = y.toInt - x.toInt) ∧ (Rg (-128) 127 n2 g) ∧ (∀ j, j < n2 → g j = f (x.toNatClampNeg + j))) (fun (u : Nat × (Nat → Int32)) (a : Nat) (t : State) => match u with | (n2, g) => va_P D CL [(q, .inl (cB, 400, .inl f)), (a, .inl (cB, n2, .inl g))] t.heap ∧ va_D (va_A [(q, .inl (cB, 400, .inl f))] sz) [(q, .inl (cB, 400, .inl f)), (a, .inl (cB, n2, .inl g))]) (va_A [(q, .inl (cB, 400, .inl f))] sz)) 1 400 (va_A [(q, .inl (cB, 400, .inl f))] sz) := by
  refine Met.ofW (cc := b_Arrays_copyOfRangeByte) (maxL := 5) (ret := some (.array .byte)) (by decide +kernel) rfl ?_
  intro p e s m args below meth c s₁ B hml hv
  obtain ⟨rfl, hsz, hP, hK, hN, hD0⟩ := hv
  have hx := B.exec
  have hb := B.bytes
  have hr := B.returns
  have hts := atoms_spec (ws := w_Arrays_copyOfRangeByte) B.pre
  have ht9 := fun (w : Cond) (h : w ∈ lw_g) => hts w (List.mem_cons_of_mem _ h)
  have hown : s.vm.findClass "java/util/Arrays" = some m.cls := findClass_of_methodNamed B.named
  have hlocks := B.notSynchronized
  subst hsz
  have hD := hD0.self (sz := s.heap.size)
  generalize hAe : va_A [(q, .inl (cB, 400, .inl f))] s.heap.size = A at hD ⊢
  have hA : ∀ q : Nat, s.heap.size ≤ q → A q := fun q h => by rw [← hAe]; exact Or.inr h
  have hS : va_S A s.heap s.heap [] := va_S.rf
  have hP : va_P D CL [(q, .inl (cB, 400, .inl f))] s.heap := hP
  have hl := lv_entry [.ref q, .int x, .int y] (n := 5) (Nat.le_of_ble_eq_true rfl)
  rw [lg_entry_eq]
  generalize (lg_sl [.ref q, .int x, .int y] ++ List.replicate (5 - (lg_sl [.ref q, .int x, .int y]).length) Slot.unset).toArray = ls at hl ⊢
  have hl : lv_has ls 5 [(0, .ref q), (1, .int x), (2, .int y)] := hl
  have L_m1 : ((-1) : Int32).toInt = (-1) := by decide
  have L_0 : (0 : Int32).toInt = 0 := by decide
  have L_1 : (1 : Int32).toInt = 1 := by decide
  refine lv_iload_n hx hb d_Arrays_copyOfRangeByte_0 rfl (lv_at hl 1 rfl) ?_
  refine lv_iload_n hx hb d_Arrays_copyOfRangeByte_1 rfl (lv_at hl 2 rfl) ?_
  have hPc := hP.sub (ws' := []) [] rfl
  have hDc := hD.sub (ws' := []) [] (by decide +kernel) rfl
  have hFc := va_free (wc := []) hD hS hA [] rfl
  have hkc : 0 ≤ 1 := by decide
  have hks : 0 ≤ 400 := by decide
  refine va_callv (va_runS (As := [.int x, .int y]) (rest := []) ⟨hx, hb, hml, hown, hts⟩ (c3_checkLength l D cB cI cJ cZ cN cF s.heap.size x y (by (try dsimp only); first | assumption | omega | trivial)) (cwS 2 hts (lg_goodS k493 k494 k126 kc_Arrays_checkLength) rfl rfl rfl (by decide +kernel) ⟨Nat.le_of_ble_eq_true rfl, Nat.le_of_ble_eq_true rfl⟩) ⟨fun a U g mk q => by obtain ⟨q0, q1, qP, qK, qN, qD⟩ := q; exact ⟨q0, q1, qP, va_K.moved (u := U) (U := U.calling g mk a) (Vm.Alike.refl U.vm) qK, qN.calling, qD⟩, fun U hU hW => ⟨rfl, by rw [hU], by rw [hU]; exact hPc, va_K.moved hW.alike hK, NN.warm hW hN, hDc.weaken (fun _ _ _ _ => trivial)⟩⟩ rfl rfl hl.1 rfl (lv_room (Nat.le_of_ble_eq_true rfl)) d_Arrays_copyOfRangeByte_2 ⟨hkc, hks⟩) hS (fun q _ h => hFc q h) hFc (fun u t H1 locs ht hvm hp_r1 hB hz1 hk1 hS => ?_)
  obtain ⟨hP1, hD1⟩ := hB
  rw [ht] at hP1
  obtain ⟨hP, hD⟩ := va_join (wr := [(q, .inl (cB, 400, .inl f))]) (w1 := []) hP hD [] [0] rfl rfl (by decide +kernel) (by decide +kernel) hk1 hFc hP1 hD1
  clear hPc hDc hFc hP1 hD1 hk1 hz1 hkc hks
  generalize H1 = H at hP hS ⊢
  have hP : va_P D CL [(q, .inl (cB, 400, .inl f))] H := hP
  have hD : va_D A [(q, .inl (cB, 400, .inl f))] := hD
  refine lv_iload_n hx hb d_Arrays_copyOfRangeByte_5 rfl (lv_at hl 2 rfl) ?_
  refine lv_iload_n hx hb d_Arrays_copyOfRangeByte_6 rfl (lv_at hl 1 rfl) ?_
  refine lv_isub hx hb d_Arrays_copyOfRangeByte_7 ?_
  refine lv_topi (fun v2 e_v2 => ?_)
  have t_v2 : v2.toInt = y.toInt - x.toInt := by rw [e_v2]; exact i_sub rfl rfl (by omega) (by omega)
  refine lv_istore_n hx hb d_Arrays_copyOfRangeByte_8 rfl hl (by decide) rfl (fun ls hl => ?_)
  have hl : lv_has ls 5 [(3, .int v2), (0, .ref q), (1, .int x), (2, .int y)] := hl
  refine lv_iload_n hx hb d_Arrays_copyOfRangeByte_9 rfl (lv_at hl 0 rfl) ?_
  obtain ⟨N4, e_N4⟩ : ∃ z : Nat, v2.toNatClampNeg = z := ⟨_, rfl⟩
  have t_N4 : (N4 : Int) = v2.toInt := by rw [← e_N4]; exact i_cl (by omega)
  have hc_10 : 1 ≤ 1 := by decide
  have hs_10 : 0 + N4 ≤ 400 := Nat.le_trans (m := 400) (by omega) (by decide)
  refine zz_newa (atype := .byte) (cK := cB) (ty := .byte) (N' := N4) (a0 := (N4, .inl (fun _ => 0))) 0 (fun _ _ _ h1 h2 => Option.some.inj (h1.symm.trans h2)) rfl hx hb (ht9 _ k164) rfl hK hP hD hS hA (fun _ => rfl) (by rw [i_lt (a := v2) rfl (b := 0) L_0]; omega) e_N4 (by show N4 * 1 ≤ 536870912; omega) hc_10 hs_10 d_Arrays_copyOfRangeByte_10 (fun q3 H hP hD hS => ?_)
  have hP : va_P D CL [(q, .inl (cB, 400, .inl f)), (q3, .inl (cB, N4, .inl (fun _ => 0)))] H := hP
  have hD : va_D A [(q, .inl (cB, 400, .inl f)), (q3, .inl (cB, N4, .inl (fun _ => 0)))] := hD
  refine W.widen (k := 1) (n := 400) (by decide) (by omega) ?_
  refine lv_astore hx hb d_Arrays_copyOfRangeByte_12 hl (by decide) rfl (fun ls hl => ?_)
  have hl : lv_has ls 5 [(4, .ref q3), (3, .int v2), (0, .ref q), (1, .int x), (2, .int y)] := hl
  refine lv_aload_n hx hb d_Arrays_copyOfRangeByte_14 rfl (lv_at hl 2 rfl) ?_
  refine lv_iload_n hx hb d_Arrays_copyOfRangeByte_15 rfl (lv_at hl 3 rfl) ?_
  refine lv_aload hx hb d_Arrays_copyOfRangeByte_16 (lv_at hl 0 rfl) ?_
  refine lv_iconst (v := 0) hx hb d_Arrays_copyOfRangeByte_18 (by decide) ?_
  refine lv_aload_n hx hb d_Arrays_copyOfRangeByte_19 rfl (lv_at hl 2 rfl) ?_
  refine va_alen (v := 400) hx hb hK hP 0 0 rfl rfl rfl d_Arrays_copyOfRangeByte_20 ?_
  have L_400 : (400 : Int32).toInt = 400 := by decide
  refine lv_iload_n hx hb d_Arrays_copyOfRangeByte_21 rfl (lv_at hl 3 rfl) ?_
  refine lv_isub hx hb d_Arrays_copyOfRangeByte_22 ?_
  refine lv_topi (fun v5 e_v5 => ?_)
  have t_v5 : v5.toInt = 400 - x.toInt := by rw [e_v5]; exact i_sub (by decide) rfl (by omega) (by omega)
  refine lv_iload_n hx hb d_Arrays_copyOfRangeByte_23 rfl (lv_at hl 1 rfl) ?_
  refine va_mmin (x := v5) (y := v2) hx hb (hml.trans hl.1.symm) hown (ht9 _ k606) (ht9 _ k607) (ht9 _ k137) (ht9 _ kMin) (Nat.le_of_ble_eq_true rfl) (Nat.le_of_ble_eq_true rfl) (by decide) (by decide) d_Arrays_copyOfRangeByte_24 ?_
  refine lv_topi (fun v6 e_v6 => ?_)
  have t_v6 : (v6.toInt = v5.toInt ∧ v5.toInt ≤ v2.toInt) ∨ (v6.toInt = v2.toInt ∧ v2.toInt < v5.toInt) := by rw [e_v6]; exact i_min rfl rfl
  have hcn := i_cl (a := v6) (by omega)
  have hcs := i_cl (a := x) (by omega)
  refine va_copyi hx hb (hml.trans hl.1.symm) hown (ht9 _ k609) (ht9 _ kNat) (ht9 _ k610) (ht9 _ kIniS) hK hP hD hS 0 1 0 0 rfl rfl rfl rfl rfl (by rw [i_lt (a := x) rfl (b := 0) L_0]; omega) (by decide) (by rw [i_lt (a := v6) rfl (b := 0) L_0]; omega) (by omega) (by show 0 + _ ≤ _; omega) (fun i hi => i_fitB (hB _ (by omega))) (Nat.le_of_ble_eq_true rfl) (by decide +kernel) d_Arrays_copyOfRangeByte_27 (fun H locs hP hD hS => ?_)
  have hP : va_P D CL [(q, .inl (cB, 400, .inl f)), (q3, .inl (cB, N4, .inl (va_cpy f (fun _ => 0) x.toNatClampNeg 0 v6.toNatClampNeg)))] H := hP
  have hD : va_D A [(q, .inl (cB, 400, .inl f)), (q3, .inl (cB, N4, .inl (va_cpy f (fun _ => 0) x.toNatClampNeg 0 v6.toNatClampNeg)))] := hD
  refine lv_aload hx hb d_Arrays_copyOfRangeByte_30 (lv_at hl 0 rfl) ?_
  have hP9 := hP.sub (ws' := [(q, .inl (cB, 400, .inl f)), (q3, .inl (cB, N4, .inl (va_cpy f (fun _ => 0) x.toNatClampNeg 0 v6.toNatClampNeg)))]) [0, 1] rfl
  have hD9 := hD.sub (ws' := [(q, .inl (cB, 400, .inl f)), (q3, .inl (cB, N4, .inl (va_cpy f (fun _ => 0) x.toNatClampNeg 0 v6.toNatClampNeg)))]) [0, 1] (by decide +kernel) rfl
  exact W.aret (v := .ref q3) hx hb hr (Or.inr ⟨_, rfl⟩) (Or.inr ⟨_, rfl⟩) (fun t ht hW => ⟨⟨(N4, (va_cpy f (fun _ => 0) x.toNatClampNeg 0 v6.toNatClampNeg)), q3, rfl, ⟨(by (try dsimp only); first | assumption | omega | trivial), (Rg_cpy hB (fun _ => by decide) (by omega) _), (fun j hj => by unfold va_cpy; rw [if_pos ⟨Nat.zero_le _, by omega⟩, Nat.sub_zero])⟩, by rw [ht]; exact hP9, hD9⟩, hS.F ht⟩) hS.2.2 d_Arrays_copyOfRangeByte_32
