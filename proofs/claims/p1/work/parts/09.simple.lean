theorem d_Text_append_0 : decode b_Text_append 0 = .ok (.aload_n 0, 1) := by decide +kernel
theorem d_Text_append_1 : decode b_Text_append 1 = .ok (.getfield 15, 3) := by decide +kernel
theorem d_Text_append_4 : decode b_Text_append 4 = .ok (.bipush 20, 2) := by decide +kernel
theorem d_Text_append_6 : decode b_Text_append 6 = .ok (.iadd, 1) := by decide +kernel
theorem d_Text_append_7 : decode b_Text_append 7 = .ok (.sipush 400, 3) := by decide +kernel
theorem d_Text_append_10 : decode b_Text_append 10 = .ok (.if_icmp .le 5, 3) := by decide +kernel
theorem d_Text_append_15 : decode b_Text_append 15 = .ok (.aload_n 0, 1) := by decide +kernel
theorem d_Text_append_16 : decode b_Text_append 16 = .ok (.iload_n 1, 1) := by decide +kernel
theorem d_Text_append_17 : decode b_Text_append 17 = .ok (.invokevirtual 19, 3) := by decide +kernel
theorem d_Text_append_20 : decode b_Text_append 20 = .ok (.aload_n 0, 1) := by decide +kernel
theorem d_Text_append_21 : decode b_Text_append 21 = .ok (.iload_n 2, 1) := by decide +kernel
theorem d_Text_append_22 : decode b_Text_append 22 = .ok (.invokevirtual 19, 3) := by decide +kernel
theorem d_Text_append_25 : decode b_Text_append 25 = .ok (.aload_n 0, 1) := by decide +kernel
theorem d_Text_append_26 : decode b_Text_append 26 = .ok (.iload_n 3, 1) := by decide +kernel
theorem d_Text_append_27 : decode b_Text_append 27 = .ok (.invokevirtual 19, 3) := by decide +kernel
theorem d_Text_append_30 : decode b_Text_append 30 = .ok (.aload_n 0, 1) := by decide +kernel
theorem d_Text_append_31 : decode b_Text_append 31 = .ok (.iload 4, 2) := by decide +kernel
theorem d_Text_append_33 : decode b_Text_append 33 = .ok (.invokevirtual 19, 3) := by decide +kernel
theorem d_Text_append_36 : decode b_Text_append 36 = .ok (.aload_n 0, 1) := by decide +kernel
theorem d_Text_append_37 : decode b_Text_append 37 = .ok (.iload 5, 2) := by decide +kernel
theorem d_Text_append_39 : decode b_Text_append 39 = .ok (.invokevirtual 19, 3) := by decide +kernel
theorem d_Text_append_42 : decode b_Text_append 42 = .ok (.iconst 1, 1) := by decide +kernel
theorem d_Text_append_43 : decode b_Text_append 43 = .ok (.ireturn, 1) := by decide +kernel
set_option maxHeartbeats 4000000 in
set_option maxRecDepth 100000 in
theorem c_append (l : Launch) (D : va_G) (cB cI cJ cZ cN cF : ClassId) (sz : Nat) (h0 q : Nat) (f : Nat → Int32) (x1 x2 x3 x4 x5 : Int32) : Met l y_Text_append w_Text_append ({ frames := 1, cells := 0, slots := 0, locals := 22 }) (va_Pc [.ref h0, .int x1, .int x2, .int x3, .int x4, .int x5] (fun U => U.heap.size = sz ∧ va_P D CL [(h0, .inr (9, [.ref q, .int 0])), (q, .inl (cB, 400, .inl f))] U.heap ∧ va_K D CL (TY cB cI cJ cZ cN cF) U ∧ NN U ∧ va_D (fun _ => True) [(h0, .inr (9, [.ref q, .int 0])), (q, .inl (cB, 400, .inl f))])) (va_Qi (fun (r : Int32) (u : Unit) => r = 1) (fun (u : Unit) (t : State) => match u with | () => va_P D CL [] t.heap ∧ va_D (va_A [(h0, .inr (9, [.ref q, .int 0])), (q, .inl (cB, 400, .inl f))] sz) []) (va_A [(h0, .inr (9, [.ref q, .int 0])), (q, .inl (cB, 400, .inl f))] sz)) 0 0 (va_A [(h0, .inr (9, [.ref q, .int 0])), (q, .inl (cB, 400, .inl f))] sz) := by
  refine Met.ofW (cc := b_Text_append) (maxL := 6) (ret := some .boolean) (by decide) rfl ?_
  intro p e s m args below meth c s₁ B hml hv
  obtain ⟨rfl, hsz, hP, hK, hN, hD0⟩ := hv
  have hx := B.exec
  have hb := B.bytes
  have hr := B.returns
  have hts := atoms_spec (ws := w_Text_append) B.pre
  have ht9 := fun (w : Cond) (h : w ∈ lw_g) => hts w (List.mem_cons_of_mem _ h)
  have hown : s.vm.findClass "DiscMaker$Text" = some m.cls := findClass_of_methodNamed B.named
  have hlocks := B.notSynchronized
  subst hsz
  have hD := hD0.self (sz := s.heap.size)
  generalize hAe : va_A [(h0, .inr (9, [.ref q, .int 0])), (q, .inl (cB, 400, .inl f))] s.heap.size = A at hD ⊢
  have hA : ∀ q : Nat, s.heap.size ≤ q → A q := fun q h => by rw [← hAe]; exact Or.inr h
  have hS : va_S A s.heap s.heap [] := va_S.rf
  have hP : va_P D CL [(h0, .inr (9, [.ref q, .int 0])), (q, .inl (cB, 400, .inl f))] s.heap := hP
  have hl := lv_entry [.ref h0, .int x1, .int x2, .int x3, .int x4, .int x5] (n := 6) (Nat.le_of_ble_eq_true rfl)
  rw [lg_entry_eq]
  generalize (lg_sl [.ref h0, .int x1, .int x2, .int x3, .int x4, .int x5] ++ List.replicate (6 - (lg_sl [.ref h0, .int x1, .int x2, .int x3, .int x4, .int x5]).length) Slot.unset).toArray = ls at hl ⊢
  have hl : lv_has ls 6 [(0, .ref h0), (1, .int x1), (2, .int x2), (3, .int x3), (4, .int x4), (5, .int x5)] := hl
  refine lv_aload_n hx hb d_Text_append_0 rfl (lv_at hl 0 rfl) ?_
  refine va_get (D := D) (ci := 9) (v := .int 0) (C := "DiscMaker$Text") (T := F_Text) (N := 2) hx hb ht9 in_Text hown hK hP 0 rfl rfl 1 (by decide) (ht9 _ k158) (fun _ h9 => h9) rfl d_Text_append_1 ?_
  refine lv_bipush (v := 20) hx hb d_Text_append_4 (by decide) ?_
  refine lv_iadd hx hb d_Text_append_6 ?_
  refine W.eq (g2 := F0 m 7 ls [.int 20]) (by rw [show ((0 + 20) : Int32) = 20 from by decide]) ?_
  refine lv_sipush (v := 400) hx hb d_Text_append_7 (by decide) ?_
  refine lv_icmp_le (tgt := 15) hx hb d_Text_append_10 (by decide) (fun h_10 => ?_) (fun h_10 => absurd (by decide) h_10)
  refine lv_aload_n hx hb d_Text_append_15 rfl (lv_at hl 0 rfl) ?_
  refine lv_iload_n hx hb d_Text_append_16 rfl (lv_at hl 1 rfl) ?_
  have hPc := hP.sub (ws' := [(h0, .inr (9, [.ref q, .int (nI 0)])), (q, .inl (cB, 400, .inl f))]) [0, 1] rfl
  have hDc := hD.sub (ws' := [(h0, .inr (9, [.ref q, .int (nI 0)])), (q, .inl (cB, 400, .inl f))]) [0, 1] (by decide) rfl
  have hFc := va_free (wc := [(h0, .inr (9, [.ref q, .int (nI 0)])), (q, .inl (cB, 400, .inl f))]) hD hS hA [0, 1] rfl
  have hkc : 0 ≤ 0 := by decide
  have hks : 0 ≤ 0 := by decide
  refine va_callv (va_runV (C := "DiscMaker$Text") (As := [.int x1]) (rest := []) ⟨hx, hb, hml, hown, hts⟩ (c_addFour l D cB cI cJ cZ cN cF s.heap.size h0 q 0 f x1 (by decide)) (cwV 1 hts (lg_goodV k455 k457 k0 k116 kc_Text_addFour) rfl rfl rfl (by decide +kernel) ⟨Nat.le_of_ble_eq_true rfl, Nat.le_of_ble_eq_true rfl⟩) ⟨fun a U g mk q => by obtain ⟨q0, q1, qP, qK, qN, qD⟩ := q; exact ⟨q0, q1, qP, va_K.moved (u := U) (U := U.calling g mk a) (Vm.Alike.refl U.vm) qK, qN.calling, qD⟩, va_recv hK hP (ci := 9) (q0 := 0) rfl rfl, fun U hU hW => ⟨rfl, by rw [hU], by rw [hU]; exact hPc, va_K.moved hW.alike hK, NN.warm hW hN, hDc.weaken (fun _ _ _ _ => trivial)⟩⟩ rfl rfl hl.1 rfl (lv_room (Nat.le_of_ble_eq_true rfl)) d_Text_append_17 ⟨hkc, hks⟩) hS (fun q _ h => hFc q h) hFc (fun u t H1 locs ht hvm hp_17 hB hz1 hk1 hS => ?_)
  obtain ⟨g1, rfl⟩ : ∃ z, z = u := ⟨_, rfl⟩
  obtain ⟨hP1, hD1⟩ := hB
  rw [ht] at hP1
  obtain ⟨hP, hD⟩ := va_join (wr := []) (w1 := [(h0, .inr (9, [.ref q, .int (nI (0 + 4))])), (q, .inl (cB, 400, .inl g1))]) hP hD [0, 1] [] rfl rfl (by decide) (by decide) hk1 hFc hP1 hD1
  clear hPc hDc hFc hP1 hD1 hk1 hz1
  generalize H1 = H at hP hS ⊢
  have hP : va_P D CL [(h0, .inr (9, [.ref q, .int (nI (0 + 4))])), (q, .inl (cB, 400, .inl g1))] H := hP
  have hD : va_D A [(h0, .inr (9, [.ref q, .int (nI (0 + 4))])), (q, .inl (cB, 400, .inl g1))] := hD
  refine lv_aload_n hx hb d_Text_append_20 rfl (lv_at hl 0 rfl) ?_
  refine lv_iload_n hx hb d_Text_append_21 rfl (lv_at hl 2 rfl) ?_
  have hPc := hP.sub (ws' := [(h0, .inr (9, [.ref q, .int (nI 4)])), (q, .inl (cB, 400, .inl g1))]) [0, 1] rfl
  have hDc := hD.sub (ws' := [(h0, .inr (9, [.ref q, .int (nI 4)])), (q, .inl (cB, 400, .inl g1))]) [0, 1] (by decide) rfl
  have hFc := va_free (wc := [(h0, .inr (9, [.ref q, .int (nI 4)])), (q, .inl (cB, 400, .inl g1))]) hD hS hA [0, 1] rfl
  have hkc : 0 ≤ 0 := by decide
  have hks : 0 ≤ 0 := by decide
  refine va_callv (va_runV (C := "DiscMaker$Text") (As := [.int x2]) (rest := []) ⟨hx, hb, hml, hown, hts⟩ (c_addFour l D cB cI cJ cZ cN cF H.size h0 q 4 g1 x2 (by decide)) (cwV 1 hts (lg_goodV k455 k457 k0 k116 kc_Text_addFour) rfl rfl rfl (by decide +kernel) ⟨Nat.le_of_ble_eq_true rfl, Nat.le_of_ble_eq_true rfl⟩) ⟨fun a U g mk q => by obtain ⟨q0, q1, qP, qK, qN, qD⟩ := q; exact ⟨q0, q1, qP, va_K.moved (u := U) (U := U.calling g mk a) (Vm.Alike.refl U.vm) qK, qN.calling, qD⟩, va_recv hK hP (ci := 9) (q0 := 0) rfl rfl, fun U hU hW => ⟨rfl, by rw [hU], by rw [hU]; exact hPc, va_K.moved hW.alike hK, NN.warm hW hN, hDc.weaken (fun _ _ _ _ => trivial)⟩⟩ rfl rfl hl.1 rfl (lv_room (Nat.le_of_ble_eq_true rfl)) d_Text_append_22 ⟨hkc, hks⟩) hS (fun q _ h => hFc q h) hFc (fun u t H1 locs ht hvm hp_22 hB hz1 hk1 hS => ?_)
  obtain ⟨g2, rfl⟩ : ∃ z, z = u := ⟨_, rfl⟩
  obtain ⟨hP1, hD1⟩ := hB
  rw [ht] at hP1
  obtain ⟨hP, hD⟩ := va_join (wr := []) (w1 := [(h0, .inr (9, [.ref q, .int (nI (4 + 4))])), (q, .inl (cB, 400, .inl g2))]) hP hD [0, 1] [] rfl rfl (by decide) (by decide) hk1 hFc hP1 hD1
  clear hPc hDc hFc hP1 hD1 hk1 hz1
  generalize H1 = H at hP hS ⊢
  have hP : va_P D CL [(h0, .inr (9, [.ref q, .int (nI (4 + 4))])), (q, .inl (cB, 400, .inl g2))] H := hP
  have hD : va_D A [(h0, .inr (9, [.ref q, .int (nI (4 + 4))])), (q, .inl (cB, 400, .inl g2))] := hD
  refine lv_aload_n hx hb d_Text_append_25 rfl (lv_at hl 0 rfl) ?_
  refine lv_iload_n hx hb d_Text_append_26 rfl (lv_at hl 3 rfl) ?_
  have hPc := hP.sub (ws' := [(h0, .inr (9, [.ref q, .int (nI 8)])), (q, .inl (cB, 400, .inl g2))]) [0, 1] rfl
  have hDc := hD.sub (ws' := [(h0, .inr (9, [.ref q, .int (nI 8)])), (q, .inl (cB, 400, .inl g2))]) [0, 1] (by decide) rfl
  have hFc := va_free (wc := [(h0, .inr (9, [.ref q, .int (nI 8)])), (q, .inl (cB, 400, .inl g2))]) hD hS hA [0, 1] rfl
  have hkc : 0 ≤ 0 := by decide
  have hks : 0 ≤ 0 := by decide
  refine va_callv (va_runV (C := "DiscMaker$Text") (As := [.int x3]) (rest := []) ⟨hx, hb, hml, hown, hts⟩ (c_addFour l D cB cI cJ cZ cN cF H.size h0 q 8 g2 x3 (by decide)) (cwV 1 hts (lg_goodV k455 k457 k0 k116 kc_Text_addFour) rfl rfl rfl (by decide +kernel) ⟨Nat.le_of_ble_eq_true rfl, Nat.le_of_ble_eq_true rfl⟩) ⟨fun a U g mk q => by obtain ⟨q0, q1, qP, qK, qN, qD⟩ := q; exact ⟨q0, q1, qP, va_K.moved (u := U) (U := U.calling g mk a) (Vm.Alike.refl U.vm) qK, qN.calling, qD⟩, va_recv hK hP (ci := 9) (q0 := 0) rfl rfl, fun U hU hW => ⟨rfl, by rw [hU], by rw [hU]; exact hPc, va_K.moved hW.alike hK, NN.warm hW hN, hDc.weaken (fun _ _ _ _ => trivial)⟩⟩ rfl rfl hl.1 rfl (lv_room (Nat.le_of_ble_eq_true rfl)) d_Text_append_27 ⟨hkc, hks⟩) hS (fun q _ h => hFc q h) hFc (fun u t H1 locs ht hvm hp_27 hB hz1 hk1 hS => ?_)
  obtain ⟨g3, rfl⟩ : ∃ z, z = u := ⟨_, rfl⟩
  obtain ⟨hP1, hD1⟩ := hB
  rw [ht] at hP1
  obtain ⟨hP, hD⟩ := va_join (wr := []) (w1 := [(h0, .inr (9, [.ref q, .int (nI (8 + 4))])), (q, .inl (cB, 400, .inl g3))]) hP hD [0, 1] [] rfl rfl (by decide) (by decide) hk1 hFc hP1 hD1
  clear hPc hDc hFc hP1 hD1 hk1 hz1
  generalize H1 = H at hP hS ⊢
  have hP : va_P D CL [(h0, .inr (9, [.ref q, .int (nI (8 + 4))])), (q, .inl (cB, 400, .inl g3))] H := hP
  have hD : va_D A [(h0, .inr (9, [.ref q, .int (nI (8 + 4))])), (q, .inl (cB, 400, .inl g3))] := hD
  refine lv_aload_n hx hb d_Text_append_30 rfl (lv_at hl 0 rfl) ?_
  refine lv_iload hx hb d_Text_append_31 (lv_at hl 4 rfl) ?_
  have hPc := hP.sub (ws' := [(h0, .inr (9, [.ref q, .int (nI 12)])), (q, .inl (cB, 400, .inl g3))]) [0, 1] rfl
  have hDc := hD.sub (ws' := [(h0, .inr (9, [.ref q, .int (nI 12)])), (q, .inl (cB, 400, .inl g3))]) [0, 1] (by decide) rfl
  have hFc := va_free (wc := [(h0, .inr (9, [.ref q, .int (nI 12)])), (q, .inl (cB, 400, .inl g3))]) hD hS hA [0, 1] rfl
  have hkc : 0 ≤ 0 := by decide
  have hks : 0 ≤ 0 := by decide
  refine va_callv (va_runV (C := "DiscMaker$Text") (As := [.int x4]) (rest := []) ⟨hx, hb, hml, hown, hts⟩ (c_addFour l D cB cI cJ cZ cN cF H.size h0 q 12 g3 x4 (by decide)) (cwV 1 hts (lg_goodV k455 k457 k0 k116 kc_Text_addFour) rfl rfl rfl (by decide +kernel) ⟨Nat.le_of_ble_eq_true rfl, Nat.le_of_ble_eq_true rfl⟩) ⟨fun a U g mk q => by obtain ⟨q0, q1, qP, qK, qN, qD⟩ := q; exact ⟨q0, q1, qP, va_K.moved (u := U) (U := U.calling g mk a) (Vm.Alike.refl U.vm) qK, qN.calling, qD⟩, va_recv hK hP (ci := 9) (q0 := 0) rfl rfl, fun U hU hW => ⟨rfl, by rw [hU], by rw [hU]; exact hPc, va_K.moved hW.alike hK, NN.warm hW hN, hDc.weaken (fun _ _ _ _ => trivial)⟩⟩ rfl rfl hl.1 rfl (lv_room (Nat.le_of_ble_eq_true rfl)) d_Text_append_33 ⟨hkc, hks⟩) hS (fun q _ h => hFc q h) hFc (fun u t H1 locs ht hvm hp_33 hB hz1 hk1 hS => ?_)
  obtain ⟨g4, rfl⟩ : ∃ z, z = u := ⟨_, rfl⟩
  obtain ⟨hP1, hD1⟩ := hB
  rw [ht] at hP1
  obtain ⟨hP, hD⟩ := va_join (wr := []) (w1 := [(h0, .inr (9, [.ref q, .int (nI (12 + 4))])), (q, .inl (cB, 400, .inl g4))]) hP hD [0, 1] [] rfl rfl (by decide) (by decide) hk1 hFc hP1 hD1
  clear hPc hDc hFc hP1 hD1 hk1 hz1
  generalize H1 = H at hP hS ⊢
  have hP : va_P D CL [(h0, .inr (9, [.ref q, .int (nI (12 + 4))])), (q, .inl (cB, 400, .inl g4))] H := hP
  have hD : va_D A [(h0, .inr (9, [.ref q, .int (nI (12 + 4))])), (q, .inl (cB, 400, .inl g4))] := hD
  refine lv_aload_n hx hb d_Text_append_36 rfl (lv_at hl 0 rfl) ?_
  refine lv_iload hx hb d_Text_append_37 (lv_at hl 5 rfl) ?_
  have hPc := hP.sub (ws' := [(h0, .inr (9, [.ref q, .int (nI 16)])), (q, .inl (cB, 400, .inl g4))]) [0, 1] rfl
  have hDc := hD.sub (ws' := [(h0, .inr (9, [.ref q, .int (nI 16)])), (q, .inl (cB, 400, .inl g4))]) [0, 1] (by decide) rfl
  have hFc := va_free (wc := [(h0, .inr (9, [.ref q, .int (nI 16)])), (q, .inl (cB, 400, .inl g4))]) hD hS hA [0, 1] rfl
  have hkc : 0 ≤ 0 := by decide
  have hks : 0 ≤ 0 := by decide
  refine va_callv (va_runV (C := "DiscMaker$Text") (As := [.int x5]) (rest := []) ⟨hx, hb, hml, hown, hts⟩ (c_addFour l D cB cI cJ cZ cN cF H.size h0 q 16 g4 x5 (by decide)) (cwV 1 hts (lg_goodV k455 k457 k0 k116 kc_Text_addFour) rfl rfl rfl (by decide +kernel) ⟨Nat.le_of_ble_eq_true rfl, Nat.le_of_ble_eq_true rfl⟩) ⟨fun a U g mk q => by obtain ⟨q0, q1, qP, qK, qN, qD⟩ := q; exact ⟨q0, q1, qP, va_K.moved (u := U) (U := U.calling g mk a) (Vm.Alike.refl U.vm) qK, qN.calling, qD⟩, va_recv hK hP (ci := 9) (q0 := 0) rfl rfl, fun U hU hW => ⟨rfl, by rw [hU], by rw [hU]; exact hPc, va_K.moved hW.alike hK, NN.warm hW hN, hDc.weaken (fun _ _ _ _ => trivial)⟩⟩ rfl rfl hl.1 rfl (lv_room (Nat.le_of_ble_eq_true rfl)) d_Text_append_39 ⟨hkc, hks⟩) hS (fun q _ h => hFc q h) hFc (fun u t H1 locs ht hvm hp_39 hB hz1 hk1 hS => ?_)
  obtain ⟨g5, rfl⟩ : ∃ z, z = u := ⟨_, rfl⟩
  obtain ⟨hP1, hD1⟩ := hB
  rw [ht] at hP1
  obtain ⟨hP, hD⟩ := va_join (wr := []) (w1 := [(h0, .inr (9, [.ref q, .int (nI (16 + 4))])), (q, .inl (cB, 400, .inl g5))]) hP hD [0, 1] [] rfl rfl (by decide) (by decide) hk1 hFc hP1 hD1
  clear hPc hDc hFc hP1 hD1 hk1 hz1
  generalize H1 = H at hP hS ⊢
  have hP : va_P D CL [(h0, .inr (9, [.ref q, .int (nI (16 + 4))])), (q, .inl (cB, 400, .inl g5))] H := hP
  have hD : va_D A [(h0, .inr (9, [.ref q, .int (nI (16 + 4))])), (q, .inl (cB, 400, .inl g5))] := hD
  refine lv_iconst (v := 1) hx hb d_Text_append_42 (by decide) ?_
  have hP9 := hP.sub (ws' := []) [] rfl
  have hD9 := hD.sub (ws' := []) [] (by decide) rfl
  exact W.zret (v := 1) hx hb hr (by first | rfl | decide) (fun t ht hW => ⟨⟨1, (), rfl, rfl, by rw [ht]; exact hP9, hD9⟩, hS.F ht⟩) hS.2.2 d_Text_append_43

theorem d_DiscMaker_feed_0 : decode b_DiscMaker_feed 0 = .ok (.aload_n 0, 1) := by decide +kernel
theorem d_DiscMaker_feed_1 : decode b_DiscMaker_feed 1 = .ok (.getfield 10, 3) := by decide +kernel
theorem d_DiscMaker_feed_4 : decode b_DiscMaker_feed 4 = .ok (.iload_n 1, 1) := by decide +kernel
theorem d_DiscMaker_feed_5 : decode b_DiscMaker_feed 5 = .ok (.iload_n 2, 1) := by decide +kernel
theorem d_DiscMaker_feed_6 : decode b_DiscMaker_feed 6 = .ok (.iload_n 3, 1) := by decide +kernel
theorem d_DiscMaker_feed_7 : decode b_DiscMaker_feed 7 = .ok (.iload 4, 2) := by decide +kernel
theorem d_DiscMaker_feed_9 : decode b_DiscMaker_feed 9 = .ok (.iload 5, 2) := by decide +kernel
theorem d_DiscMaker_feed_11 : decode b_DiscMaker_feed 11 = .ok (.invokevirtual 50, 3) := by decide +kernel
theorem d_DiscMaker_feed_14 : decode b_DiscMaker_feed 14 = .ok (.ireturn, 1) := by decide +kernel
set_option maxHeartbeats 4000000 in
set_option maxRecDepth 100000 in
theorem c_feed (l : Launch) (D : va_G) (cB cI cJ cZ cN cF : ClassId) (sz : Nat) (h0 tx tr im mk rd : Nat) (q : Nat) (f : Nat → Int32) (x1 x2 x3 x4 x5 : Int32) : Met l y_DiscMaker_feed w_DiscMaker_feed ({ frames := 2, cells := 0, slots := 0, locals := 47 }) (va_Pc [.ref h0, .int x1, .int x2, .int x3, .int x4, .int x5] (fun U => U.heap.size = sz ∧ va_P D CL [(h0, .inr (0, [.ref tx, .ref tr, .ref im, .ref mk, .ref rd])), (tx, .inr (9, [.ref q, .int 0])), (q, .inl (cB, 400, .inl f))] U.heap ∧ va_K D CL (TY cB cI cJ cZ cN cF) U ∧ NN U ∧ va_D (fun _ => True) [(h0, .inr (0, [.ref tx, .ref tr, .ref im, .ref mk, .ref rd])), (tx, .inr (9, [.ref q, .int 0])), (q, .inl (cB, 400, .inl f))])) (va_Qi (fun (r : Int32) (u : Unit) => r = 1) (fun (u : Unit) (t : State) => match u with | () => va_P D CL [] t.heap ∧ va_D (va_A [(h0, .inr (0, [.ref tx, .ref tr, .ref im, .ref mk, .ref rd])), (tx, .inr (9, [.ref q, .int 0])), (q, .inl (cB, 400, .inl f))] sz) []) (va_A [(h0, .inr (0, [.ref tx, .ref tr, .ref im, .ref mk, .ref rd])), (tx, .inr (9, [.ref q, .int 0])), (q, .inl (cB, 400, .inl f))] sz)) 0 0 (va_A [(h0, .inr (0, [.ref tx, .ref tr, .ref im, .ref mk, .ref rd])), (tx, .inr (9, [.ref q, .int 0])), (q, .inl (cB, 400, .inl f))] sz) := by
  refine Met.ofW (cc := b_DiscMaker_feed) (maxL := 6) (ret := some .boolean) (by decide) rfl ?_
  intro p e s m args below meth c s₁ B hml hv
  obtain ⟨rfl, hsz, hP, hK, hN, hD0⟩ := hv
  have hx := B.exec
  have hb := B.bytes
  have hr := B.returns
  have hts := atoms_spec (ws := w_DiscMaker_feed) B.pre
  have ht9 := fun (w : Cond) (h : w ∈ lw_g) => hts w (List.mem_cons_of_mem _ h)
  have hown : s.vm.findClass "DiscMaker" = some m.cls := findClass_of_methodNamed B.named
  have hlocks := B.notSynchronized
  subst hsz
  have hD := hD0.self (sz := s.heap.size)
  generalize hAe : va_A [(h0, .inr (0, [.ref tx, .ref tr, .ref im, .ref mk, .ref rd])), (tx, .inr (9, [.ref q, .int 0])), (q, .inl (cB, 400, .inl f))] s.heap.size = A at hD ⊢
  have hA : ∀ q : Nat, s.heap.size ≤ q → A q := fun q h => by rw [← hAe]; exact Or.inr h
  have hS : va_S A s.heap s.heap [] := va_S.rf
  have hP : va_P D CL [(h0, .inr (0, [.ref tx, .ref tr, .ref im, .ref mk, .ref rd])), (tx, .inr (9, [.ref q, .int 0])), (q, .inl (cB, 400, .inl f))] s.heap := hP
  have hl := lv_entry [.ref h0, .int x1, .int x2, .int x3, .int x4, .int x5] (n := 6) (Nat.le_of_ble_eq_true rfl)
  rw [lg_entry_eq]
  generalize (lg_sl [.ref h0, .int x1, .int x2, .int x3, .int x4, .int x5] ++ List.replicate (6 - (lg_sl [.ref h0, .int x1, .int x2, .int x3, .int x4, .int x5]).length) Slot.unset).toArray = ls at hl ⊢
  have hl : lv_has ls 6 [(0, .ref h0), (1, .int x1), (2, .int x2), (3, .int x3), (4, .int x4), (5, .int x5)] := hl
  refine lv_aload_n hx hb d_DiscMaker_feed_0 rfl (lv_at hl 0 rfl) ?_
  refine va_get (D := D) (ci := 0) (v := .ref tx) (C := "DiscMaker") (T := F_DiscMaker) (N := 5) hx hb ht9 in_DiscMaker hown hK hP 0 rfl rfl 0 (by decide) (ht9 _ k431) (fun _ h9 => h9) rfl d_DiscMaker_feed_1 ?_
  refine lv_iload_n hx hb d_DiscMaker_feed_4 rfl (lv_at hl 1 rfl) ?_
  refine lv_iload_n hx hb d_DiscMaker_feed_5 rfl (lv_at hl 2 rfl) ?_
  refine lv_iload_n hx hb d_DiscMaker_feed_6 rfl (lv_at hl 3 rfl) ?_
  refine lv_iload hx hb d_DiscMaker_feed_7 (lv_at hl 4 rfl) ?_
  refine lv_iload hx hb d_DiscMaker_feed_9 (lv_at hl 5 rfl) ?_
  have hPc := hP.sub (ws' := [(tx, .inr (9, [.ref q, .int 0])), (q, .inl (cB, 400, .inl f))]) [1, 2] rfl
  have hDc := hD.sub (ws' := [(tx, .inr (9, [.ref q, .int 0])), (q, .inl (cB, 400, .inl f))]) [1, 2] (by decide) rfl
  have hFc := va_free (wc := [(tx, .inr (9, [.ref q, .int 0])), (q, .inl (cB, 400, .inl f))]) hD hS hA [1, 2] rfl
  have hkc : 0 ≤ 0 := by decide
  have hks : 0 ≤ 0 := by decide
  refine va_calli (va_runV (C := "DiscMaker$Text") (As := [.int x1, .int x2, .int x3, .int x4, .int x5]) (rest := []) ⟨hx, hb, hml, hown, hts⟩ (c_append l D cB cI cJ cZ cN cF s.heap.size tx q f x1 x2 x3 x4 x5) (cwV 5 hts (lg_goodV k451 k452 k453 k116 kc_Text_append) rfl rfl rfl (by decide +kernel) ⟨Nat.le_of_ble_eq_true rfl, Nat.le_of_ble_eq_true rfl⟩) ⟨fun a U g mk q => by obtain ⟨q0, q1, qP, qK, qN, qD⟩ := q; exact ⟨q0, q1, qP, va_K.moved (u := U) (U := U.calling g mk a) (Vm.Alike.refl U.vm) qK, qN.calling, qD⟩, va_recv hK hP (ci := 9) (q0 := 1) rfl rfl, fun U hU hW => ⟨rfl, by rw [hU], by rw [hU]; exact hPc, va_K.moved hW.alike hK, NN.warm hW hN, hDc.weaken (fun _ _ _ _ => trivial)⟩⟩ rfl rfl hl.1 rfl (lv_room (Nat.le_of_ble_eq_true rfl)) d_DiscMaker_feed_11 ⟨hkc, hks⟩) hS (fun q _ h => hFc q h) hFc (fun r11 u t H1 locs ht hvm hp_11 hB hz1 hk1 hS => ?_)
  obtain ⟨hP1, hD1⟩ := hB
  rw [ht] at hP1
  try dsimp only at hp_11
  obtain ⟨hP, hD⟩ := va_join (wr := [(h0, .inr (0, [.ref tx, .ref tr, .ref im, .ref mk, .ref rd]))]) (w1 := []) hP hD [1, 2] [0] rfl rfl (by decide) (by decide) hk1 hFc hP1 hD1
  clear hPc hDc hFc hP1 hD1 hk1 hz1
  generalize H1 = H at hP hS ⊢
  have hP : va_P D CL [(h0, .inr (0, [.ref tx, .ref tr, .ref im, .ref mk, .ref rd]))] H := hP
  have hD : va_D A [(h0, .inr (0, [.ref tx, .ref tr, .ref im, .ref mk, .ref rd]))] := hD
  have hP9 := hP.sub (ws' := []) [] rfl
  have hD9 := hD.sub (ws' := []) [] (by decide) rfl
  exact W.zret (v := r11) hx hb hr (by rw [hp_11]; rfl) (fun t ht hW => ⟨⟨r11, (), rfl, hp_11, by rw [ht]; exact hP9, hD9⟩, hS.F ht⟩) hS.2.2 d_DiscMaker_feed_14

theorem d_Text_shorten_0 : decode b_Text_shorten 0 = .ok (.iload_n 1, 1) := by decide +kernel
theorem d_Text_shorten_1 : decode b_Text_shorten 1 = .ok (.ifCond .lt 11, 3) := by decide +kernel
theorem d_Text_shorten_4 : decode b_Text_shorten 4 = .ok (.iload_n 1, 1) := by decide +kernel
theorem d_Text_shorten_5 : decode b_Text_shorten 5 = .ok (.aload_n 0, 1) := by decide +kernel
theorem d_Text_shorten_6 : decode b_Text_shorten 6 = .ok (.getfield 15, 3) := by decide +kernel
theorem d_Text_shorten_9 : decode b_Text_shorten 9 = .ok (.if_icmp .le 5, 3) := by decide +kernel
theorem d_Text_shorten_12 : decode b_Text_shorten 12 = .ok (.iconst 0, 1) := by decide +kernel
theorem d_Text_shorten_13 : decode b_Text_shorten 13 = .ok (.ireturn, 1) := by decide +kernel
theorem d_Text_shorten_14 : decode b_Text_shorten 14 = .ok (.aload_n 0, 1) := by decide +kernel
theorem d_Text_shorten_15 : decode b_Text_shorten 15 = .ok (.iload_n 1, 1) := by decide +kernel
theorem d_Text_shorten_16 : decode b_Text_shorten 16 = .ok (.putfield 15, 3) := by decide +kernel
theorem d_Text_shorten_19 : decode b_Text_shorten 19 = .ok (.iconst 1, 1) := by decide +kernel
theorem d_Text_shorten_20 : decode b_Text_shorten 20 = .ok (.ireturn, 1) := by decide +kernel
set_option maxHeartbeats 4000000 in
set_option maxRecDepth 100000 in
theorem c_Text_shorten (l : Launch) (D : va_G) (cB cI cJ cZ cN cF : ClassId) (sz : Nat) (h0 q : Nat) (n : Int32) : Met l y_Text_shorten w_Text_shorten ({ frames := 0, cells := 0, slots := 0, locals := 0 }) (va_Pc [.ref h0, .int n] (fun U => U.heap.size = sz ∧ va_P D CL [(h0, .inr (9, [.ref q, .int 0]))] U.heap ∧ va_K D CL (TY cB cI cJ cZ cN cF) U ∧ NN U ∧ va_D (fun _ => True) [(h0, .inr (9, [.ref q, .int 0]))])) (va_Qi (fun (r : Int32) (u : Unit) => (r = 1 ∧ n = 0) ∨ (r = 0 ∧ ¬ n = 0)) (fun (u : Unit) (t : State) => match u with | () => va_P D CL [] t.heap ∧ va_D (va_A [(h0, .inr (9, [.ref q, .int 0]))] sz) []) (va_A [(h0, .inr (9, [.ref q, .int 0]))] sz)) 0 0 (va_A [(h0, .inr (9, [.ref q, .int 0]))] sz) := by
  refine Met.ofW (cc := b_Text_shorten) (maxL := 2) (ret := some .boolean) (by decide) rfl ?_
  intro p e s m args below meth c s₁ B hml hv
  obtain ⟨rfl, hsz, hP, hK, hN, hD0⟩ := hv
  have hx := B.exec
  have hb := B.bytes
  have hr := B.returns
  have hts := atoms_spec (ws := w_Text_shorten) B.pre
  have ht9 := fun (w : Cond) (h : w ∈ lw_g) => hts w (List.mem_cons_of_mem _ h)
  have hown : s.vm.findClass "DiscMaker$Text" = some m.cls := findClass_of_methodNamed B.named
  have hlocks := B.notSynchronized
  subst hsz
  have hD := hD0.self (sz := s.heap.size)
  generalize hAe : va_A [(h0, .inr (9, [.ref q, .int 0]))] s.heap.size = A at hD ⊢
  have hA : ∀ q : Nat, s.heap.size ≤ q → A q := fun q h => by rw [← hAe]; exact Or.inr h
  have hS : va_S A s.heap s.heap [] := va_S.rf
  have hP : va_P D CL [(h0, .inr (9, [.ref q, .int 0]))] s.heap := hP
  have hl := lv_entry [.ref h0, .int n] (n := 2) (Nat.le_of_ble_eq_true rfl)
  rw [lg_entry_eq]
  generalize (lg_sl [.ref h0, .int n] ++ List.replicate (2 - (lg_sl [.ref h0, .int n]).length) Slot.unset).toArray = ls at hl ⊢
  have hl : lv_has ls 2 [(0, .ref h0), (1, .int n)] := hl
  refine lv_iload_n hx hb d_Text_shorten_0 rfl (lv_at hl 1 rfl) ?_
  refine lv_if_lt (tgt := 12) hx hb d_Text_shorten_1 (by decide) (fun h_1 => ?_) (fun h_1 => ?_)
  · skip
    refine lv_iconst (v := 0) hx hb d_Text_shorten_12 (by decide) ?_
    have hP9 := hP.sub (ws' := []) [] rfl
    have hD9 := hD.sub (ws' := []) [] (by decide) rfl
    exact W.zret (v := 0) hx hb hr (by first | rfl | decide) (fun t ht hW => ⟨⟨0, (), rfl, by first | exact Or.inr ⟨rfl, z_ne_lt h_1⟩ | exact Or.inl ⟨rfl, z_eq0' h_1 h_9⟩ | exact Or.inr ⟨rfl, z_ne_nle h_9⟩, by rw [ht]; exact hP9, hD9⟩, hS.F ht⟩) hS.2.2 d_Text_shorten_13
  · skip
    refine lv_iload_n hx hb d_Text_shorten_4 rfl (lv_at hl 1 rfl) ?_
    refine lv_aload_n hx hb d_Text_shorten_5 rfl (lv_at hl 0 rfl) ?_
    refine va_get (D := D) (ci := 9) (v := .int 0) (C := "DiscMaker$Text") (T := F_Text) (N := 2) hx hb ht9 in_Text hown hK hP 0 rfl rfl 1 (by decide) (ht9 _ k158) (fun _ h9 => h9) rfl d_Text_shorten_6 ?_
    refine lv_icmp_le (tgt := 14) hx hb d_Text_shorten_9 (by decide) (fun h_9 => ?_) (fun h_9 => ?_)
    · skip
      refine lv_aload_n hx hb d_Text_shorten_14 rfl (lv_at hl 0 rfl) ?_
      refine lv_iload_n hx hb d_Text_shorten_15 rfl (lv_at hl 1 rfl) ?_
      refine va_put (D := D) (ci := 9) (v := .int n) (ty := .int) (C := "DiscMaker$Text") (T := F_Text) (N := 2) hx hb ht9 in_Text t_Text t_Text_ok n_Text hown hK hP hD hS 0 rfl rfl 1 (by decide) (ht9 _ k158) (fun _ h9 => h9) rfl (by decide +kernel) rfl rfl (Nat.le_of_ble_eq_true rfl) d_Text_shorten_16 (fun H locs hP hD hS => ?_)
      have hP : va_P D CL [(h0, .inr (9, [.ref q, .int n]))] H := hP
      have hD : va_D A [(h0, .inr (9, [.ref q, .int n]))] := hD
      refine lv_iconst (v := 1) hx hb d_Text_shorten_19 (by decide) ?_
      have hP9 := hP.sub (ws' := []) [] rfl
      have hD9 := hD.sub (ws' := []) [] (by decide) rfl
      exact W.zret (v := 1) hx hb hr (by first | rfl | decide) (fun t ht hW => ⟨⟨1, (), rfl, by first | exact Or.inr ⟨rfl, z_ne_lt h_1⟩ | exact Or.inl ⟨rfl, z_eq0' h_1 h_9⟩ | exact Or.inr ⟨rfl, z_ne_nle h_9⟩, by rw [ht]; exact hP9, hD9⟩, hS.F ht⟩) hS.2.2 d_Text_shorten_20
    · skip
      refine lv_iconst (v := 0) hx hb d_Text_shorten_12 (by decide) ?_
      have hP9 := hP.sub (ws' := []) [] rfl
      have hD9 := hD.sub (ws' := []) [] (by decide) rfl
      exact W.zret (v := 0) hx hb hr (by first | rfl | decide) (fun t ht hW => ⟨⟨0, (), rfl, by first | exact Or.inr ⟨rfl, z_ne_lt h_1⟩ | exact Or.inl ⟨rfl, z_eq0' h_1 h_9⟩ | exact Or.inr ⟨rfl, z_ne_nle h_9⟩, by rw [ht]; exact hP9, hD9⟩, hS.F ht⟩) hS.2.2 d_Text_shorten_13

theorem d_DiscMaker_end_0 : decode b_DiscMaker_end 0 = .ok (.aload_n 0, 1) := by decide +kernel
theorem d_DiscMaker_end_1 : decode b_DiscMaker_end 1 = .ok (.getfield 10, 3) := by decide +kernel
theorem d_DiscMaker_end_4 : decode b_DiscMaker_end 4 = .ok (.iload_n 1, 1) := by decide +kernel
theorem d_DiscMaker_end_5 : decode b_DiscMaker_end 5 = .ok (.invokevirtual 54, 3) := by decide +kernel
theorem d_DiscMaker_end_8 : decode b_DiscMaker_end 8 = .ok (.ireturn, 1) := by decide +kernel
set_option maxHeartbeats 4000000 in
set_option maxRecDepth 100000 in
theorem c_end (l : Launch) (D : va_G) (cB cI cJ cZ cN cF : ClassId) (sz : Nat) (h0 tx tr im mk rd : Nat) (q : Nat) (n : Int32) : Met l y_DiscMaker_end w_DiscMaker_end ({ frames := 1, cells := 0, slots := 0, locals := 21 }) (va_Pc [.ref h0, .int n] (fun U => U.heap.size = sz ∧ va_P D CL [(h0, .inr (0, [.ref tx, .ref tr, .ref im, .ref mk, .ref rd])), (tx, .inr (9, [.ref q, .int 0]))] U.heap ∧ va_K D CL (TY cB cI cJ cZ cN cF) U ∧ NN U ∧ va_D (fun _ => True) [(h0, .inr (0, [.ref tx, .ref tr, .ref im, .ref mk, .ref rd])), (tx, .inr (9, [.ref q, .int 0]))])) (va_Qi (fun (r : Int32) (u : Unit) => (r = 1 ∧ n = 0) ∨ (r = 0 ∧ ¬ n = 0)) (fun (u : Unit) (t : State) => match u with | () => va_P D CL [] t.heap ∧ va_D (va_A [(h0, .inr (0, [.ref tx, .ref tr, .ref im, .ref mk, .ref rd])), (tx, .inr (9, [.ref q, .int 0]))] sz) []) (va_A [(h0, .inr (0, [.ref tx, .ref tr, .ref im, .ref mk, .ref rd])), (tx, .inr (9, [.ref q, .int 0]))] sz)) 0 0 (va_A [(h0, .inr (0, [.ref tx, .ref tr, .ref im, .ref mk, .ref rd])), (tx, .inr (9, [.ref q, .int 0]))] sz) := by
  refine Met.ofW (cc := b_DiscMaker_end) (maxL := 2) (ret := some .boolean) (by decide) rfl ?_
  intro p e s m args below meth c s₁ B hml hv
  obtain ⟨rfl, hsz, hP, hK, hN, hD0⟩ := hv
  have hx := B.exec
  have hb := B.bytes
  have hr := B.returns
  have hts := atoms_spec (ws := w_DiscMaker_end) B.pre
  have ht9 := fun (w : Cond) (h : w ∈ lw_g) => hts w (List.mem_cons_of_mem _ h)
  have hown : s.vm.findClass "DiscMaker" = some m.cls := findClass_of_methodNamed B.named
  have hlocks := B.notSynchronized
  subst hsz
  have hD := hD0.self (sz := s.heap.size)
  generalize hAe : va_A [(h0, .inr (0, [.ref tx, .ref tr, .ref im, .ref mk, .ref rd])), (tx, .inr (9, [.ref q, .int 0]))] s.heap.size = A at hD ⊢
  have hA : ∀ q : Nat, s.heap.size ≤ q → A q := fun q h => by rw [← hAe]; exact Or.inr h
  have hS : va_S A s.heap s.heap [] := va_S.rf
  have hP : va_P D CL [(h0, .inr (0, [.ref tx, .ref tr, .ref im, .ref mk, .ref rd])), (tx, .inr (9, [.ref q, .int 0]))] s.heap := hP
  have hl := lv_entry [.ref h0, .int n] (n := 2) (Nat.le_of_ble_eq_true rfl)
  rw [lg_entry_eq]
  generalize (lg_sl [.ref h0, .int n] ++ List.replicate (2 - (lg_sl [.ref h0, .int n]).length) Slot.unset).toArray = ls at hl ⊢
  have hl : lv_has ls 2 [(0, .ref h0), (1, .int n)] := hl
  refine lv_aload_n hx hb d_DiscMaker_end_0 rfl (lv_at hl 0 rfl) ?_
  refine va_get (D := D) (ci := 0) (v := .ref tx) (C := "DiscMaker") (T := F_DiscMaker) (N := 5) hx hb ht9 in_DiscMaker hown hK hP 0 rfl rfl 0 (by decide) (ht9 _ k431) (fun _ h9 => h9) rfl d_DiscMaker_end_1 ?_
  refine lv_iload_n hx hb d_DiscMaker_end_4 rfl (lv_at hl 1 rfl) ?_
  have hPc := hP.sub (ws' := [(tx, .inr (9, [.ref q, .int 0]))]) [1] rfl
  have hDc := hD.sub (ws' := [(tx, .inr (9, [.ref q, .int 0]))]) [1] (by decide) rfl
  have hFc := va_free (wc := [(tx, .inr (9, [.ref q, .int 0]))]) hD hS hA [1] rfl
  have hkc : 0 ≤ 0 := by decide
  have hks : 0 ≤ 0 := by decide
  refine va_calli (va_runV (C := "DiscMaker$Text") (As := [.int n]) (rest := []) ⟨hx, hb, hml, hown, hts⟩ (c_Text_shorten l D cB cI cJ cZ cN cF s.heap.size tx q n) (cwV 1 hts (lg_goodV k463 k464 k465 k116 kc_Text_shorten) rfl rfl rfl (by decide +kernel) ⟨Nat.le_of_ble_eq_true rfl, Nat.le_of_ble_eq_true rfl⟩) ⟨fun a U g mk q => by obtain ⟨q0, q1, qP, qK, qN, qD⟩ := q; exact ⟨q0, q1, qP, va_K.moved (u := U) (U := U.calling g mk a) (Vm.Alike.refl U.vm) qK, qN.calling, qD⟩, va_recv hK hP (ci := 9) (q0 := 1) rfl rfl, fun U hU hW => ⟨rfl, by rw [hU], by rw [hU]; exact hPc, va_K.moved hW.alike hK, NN.warm hW hN, hDc.weaken (fun _ _ _ _ => trivial)⟩⟩ rfl rfl hl.1 rfl (lv_room (Nat.le_of_ble_eq_true rfl)) d_DiscMaker_end_5 ⟨hkc, hks⟩) hS (fun q _ h => hFc q h) hFc (fun r5 u t H1 locs ht hvm hp_5 hB hz1 hk1 hS => ?_)
  obtain ⟨hP1, hD1⟩ := hB
  rw [ht] at hP1
  try dsimp only at hp_5
  obtain ⟨hP, hD⟩ := va_join (wr := [(h0, .inr (0, [.ref tx, .ref tr, .ref im, .ref mk, .ref rd]))]) (w1 := []) hP hD [1] [0] rfl rfl (by decide) (by decide) hk1 hFc hP1 hD1
  clear hPc hDc hFc hP1 hD1 hk1 hz1
  generalize H1 = H at hP hS ⊢
  have hP : va_P D CL [(h0, .inr (0, [.ref tx, .ref tr, .ref im, .ref mk, .ref rd]))] H := hP
  have hD : va_D A [(h0, .inr (0, [.ref tx, .ref tr, .ref im, .ref mk, .ref rd]))] := hD
  have hP9 := hP.sub (ws' := []) [] rfl
  have hD9 := hD.sub (ws' := []) [] (by decide) rfl
  exact W.zret (v := r5) hx hb hr (by rcases hp_5 with ⟨h, -⟩ | ⟨h, -⟩ <;> rw [h] <;> rfl) (fun t ht hW => ⟨⟨r5, (), rfl, hp_5, by rw [ht]; exact hP9, hD9⟩, hS.F ht⟩) hS.2.2 d_DiscMaker_end_8

theorem d_DiscMaker_sectors_0 : decode b_DiscMaker_sectors 0 = .ok (.aload_n 0, 1) := by decide +kernel
theorem d_DiscMaker_sectors_1 : decode b_DiscMaker_sectors 1 = .ok (.getfield 28, 3) := by decide +kernel
theorem d_DiscMaker_sectors_4 : decode b_DiscMaker_sectors 4 = .ok (.getfield 120, 3) := by decide +kernel
theorem d_DiscMaker_sectors_7 : decode b_DiscMaker_sectors 7 = .ok (.sipush 2048, 3) := by decide +kernel
theorem d_DiscMaker_sectors_10 : decode b_DiscMaker_sectors 10 = .ok (.idiv, 1) := by decide +kernel
theorem d_DiscMaker_sectors_11 : decode b_DiscMaker_sectors 11 = .ok (.ireturn, 1) := by decide +kernel
set_option maxHeartbeats 4000000 in
set_option maxRecDepth 100000 in
theorem c_sectors (l : Launch) (D : va_G) (cB cI cJ cZ cN cF : ClassId) (sz : Nat) (h0 tx tr im mk rd : Nat) (q : Nat) : Met l y_DiscMaker_sectors w_DiscMaker_sectors ({ frames := 0, cells := 0, slots := 0, locals := 0 }) (va_Pc [.ref h0] (fun U => U.heap.size = sz ∧ va_P D CL [(h0, .inr (0, [.ref tx, .ref tr, .ref im, .ref mk, .ref rd])), (im, .inr (1, [.ref q, .int 0]))] U.heap ∧ va_K D CL (TY cB cI cJ cZ cN cF) U ∧ NN U ∧ va_D (fun _ => True) [(h0, .inr (0, [.ref tx, .ref tr, .ref im, .ref mk, .ref rd])), (im, .inr (1, [.ref q, .int 0]))])) (va_Qi (fun (r : Int32) (u : Unit) => r = 0) (fun (u : Unit) (t : State) => match u with | () => va_P D CL [] t.heap ∧ va_D (va_A [(h0, .inr (0, [.ref tx, .ref tr, .ref im, .ref mk, .ref rd])), (im, .inr (1, [.ref q, .int 0]))] sz) []) (va_A [(h0, .inr (0, [.ref tx, .ref tr, .ref im, .ref mk, .ref rd])), (im, .inr (1, [.ref q, .int 0]))] sz)) 0 0 (va_A [(h0, .inr (0, [.ref tx, .ref tr, .ref im, .ref mk, .ref rd])), (im, .inr (1, [.ref q, .int 0]))] sz) := by
  refine Met.ofW (cc := b_DiscMaker_sectors) (maxL := 1) (ret := some .int) (by decide) rfl ?_
  intro p e s m args below meth c s₁ B hml hv
  obtain ⟨rfl, hsz, hP, hK, hN, hD0⟩ := hv
  have hx := B.exec
  have hb := B.bytes
  have hr := B.returns
  have hts := atoms_spec (ws := w_DiscMaker_sectors) B.pre
  have ht9 := fun (w : Cond) (h : w ∈ lw_g) => hts w (List.mem_cons_of_mem _ h)
  have hown : s.vm.findClass "DiscMaker" = some m.cls := findClass_of_methodNamed B.named
  have hlocks := B.notSynchronized
  subst hsz
  have hD := hD0.self (sz := s.heap.size)
  generalize hAe : va_A [(h0, .inr (0, [.ref tx, .ref tr, .ref im, .ref mk, .ref rd])), (im, .inr (1, [.ref q, .int 0]))] s.heap.size = A at hD ⊢
  have hA : ∀ q : Nat, s.heap.size ≤ q → A q := fun q h => by rw [← hAe]; exact Or.inr h
  have hS : va_S A s.heap s.heap [] := va_S.rf
  have hP : va_P D CL [(h0, .inr (0, [.ref tx, .ref tr, .ref im, .ref mk, .ref rd])), (im, .inr (1, [.ref q, .int 0]))] s.heap := hP
  have hl := lv_entry [.ref h0] (n := 1) (Nat.le_of_ble_eq_true rfl)
  rw [lg_entry_eq]
  generalize (lg_sl [.ref h0] ++ List.replicate (1 - (lg_sl [.ref h0]).length) Slot.unset).toArray = ls at hl ⊢
  have hl : lv_has ls 1 [(0, .ref h0)] := hl
  refine lv_aload_n hx hb d_DiscMaker_sectors_0 rfl (lv_at hl 0 rfl) ?_
  refine va_get (D := D) (ci := 0) (v := .ref im) (C := "DiscMaker") (T := F_DiscMaker) (N := 5) hx hb ht9 in_DiscMaker hown hK hP 0 rfl rfl 2 (by decide) (ht9 _ k433) (fun _ h9 => h9) rfl d_DiscMaker_sectors_1 ?_
  refine va_getN (D := D) (ci := 1) (v := .int 0) (C := "DiscMaker$Bytes") (T := F_Bytes) (N := 2) hx hb ht9 in_Bytes hown hK hP 1 rfl rfl 1 (by decide) (va_Nw.use rfl (hN _ k261)) (fun _ h9 => h9) rfl d_DiscMaker_sectors_4 ?_
  refine lv_sipush (v := 2048) hx hb d_DiscMaker_sectors_7 (by decide) ?_
  refine lv_idiv hx hb d_DiscMaker_sectors_10 (by decide) ?_
  refine W.eq (g2 := F0 m 11 ls [.int 0]) (by rw [show ((0 / 2048) : Int32) = 0 from by decide]) ?_
  have hP9 := hP.sub (ws' := []) [] rfl
  have hD9 := hD.sub (ws' := []) [] (by decide) rfl
  exact W.iret (v := 0) hx hb hr (fun t ht hW => ⟨⟨0, (), rfl, rfl, by rw [ht]; exact hP9, hD9⟩, hS.F ht⟩) hS.2.2 d_DiscMaker_sectors_11

theorem d_Bytes_has_0 : decode b_Bytes_has 0 = .ok (.iload_n 1, 1) := by decide +kernel
theorem d_Bytes_has_1 : decode b_Bytes_has 1 = .ok (.ifCond .lt 15, 3) := by decide +kernel
theorem d_Bytes_has_4 : decode b_Bytes_has 4 = .ok (.iload_n 1, 1) := by decide +kernel
theorem d_Bytes_has_5 : decode b_Bytes_has 5 = .ok (.aload_n 0, 1) := by decide +kernel
theorem d_Bytes_has_6 : decode b_Bytes_has 6 = .ok (.getfield 25, 3) := by decide +kernel
theorem d_Bytes_has_9 : decode b_Bytes_has 9 = .ok (.if_icmp .ge 7, 3) := by decide +kernel
theorem d_Bytes_has_16 : decode b_Bytes_has 16 = .ok (.iconst 0, 1) := by decide +kernel
theorem d_Bytes_has_17 : decode b_Bytes_has 17 = .ok (.ireturn, 1) := by decide +kernel
set_option maxHeartbeats 4000000 in
set_option maxRecDepth 100000 in
theorem c_Bytes_has (l : Launch) (D : va_G) (cB cI cJ cZ cN cF : ClassId) (sz : Nat) (h0 q : Nat) (n : Int32) : Met l y_Bytes_has w_Bytes_has ({ frames := 0, cells := 0, slots := 0, locals := 0 }) (va_Pc [.ref h0, .int n] (fun U => U.heap.size = sz ∧ va_P D CL [(h0, .inr (1, [.ref q, .int 0]))] U.heap ∧ va_K D CL (TY cB cI cJ cZ cN cF) U ∧ NN U ∧ va_D (fun _ => True) [(h0, .inr (1, [.ref q, .int 0]))])) (va_Qi (fun (r : Int32) (u : Unit) => r = 0) (fun (u : Unit) (t : State) => match u with | () => va_P D CL [(h0, .inr (1, [.ref q, .int 0]))] t.heap ∧ va_D (va_A [(h0, .inr (1, [.ref q, .int 0]))] sz) [(h0, .inr (1, [.ref q, .int 0]))]) (va_A [(h0, .inr (1, [.ref q, .int 0]))] sz)) 0 0 (va_A [(h0, .inr (1, [.ref q, .int 0]))] sz) := by
  refine Met.ofW (cc := b_Bytes_has) (maxL := 2) (ret := some .boolean) (by decide) rfl ?_
  intro p e s m args below meth c s₁ B hml hv
  obtain ⟨rfl, hsz, hP, hK, hN, hD0⟩ := hv
  have hx := B.exec
  have hb := B.bytes
  have hr := B.returns
  have hts := atoms_spec (ws := w_Bytes_has) B.pre
  have ht9 := fun (w : Cond) (h : w ∈ lw_g) => hts w (List.mem_cons_of_mem _ h)
  have hown : s.vm.findClass "DiscMaker$Bytes" = some m.cls := findClass_of_methodNamed B.named
  have hlocks := B.notSynchronized
  subst hsz
  have hD := hD0.self (sz := s.heap.size)
  generalize hAe : va_A [(h0, .inr (1, [.ref q, .int 0]))] s.heap.size = A at hD ⊢
  have hA : ∀ q : Nat, s.heap.size ≤ q → A q := fun q h => by rw [← hAe]; exact Or.inr h
  have hS : va_S A s.heap s.heap [] := va_S.rf
  have hP : va_P D CL [(h0, .inr (1, [.ref q, .int 0]))] s.heap := hP
  have hl := lv_entry [.ref h0, .int n] (n := 2) (Nat.le_of_ble_eq_true rfl)
  rw [lg_entry_eq]
  generalize (lg_sl [.ref h0, .int n] ++ List.replicate (2 - (lg_sl [.ref h0, .int n]).length) Slot.unset).toArray = ls at hl ⊢
  have hl : lv_has ls 2 [(0, .ref h0), (1, .int n)] := hl
  refine lv_iload_n hx hb d_Bytes_has_0 rfl (lv_at hl 1 rfl) ?_
  refine lv_if_lt (tgt := 16) hx hb d_Bytes_has_1 (by decide) (fun h_1 => ?_) (fun h_1 => ?_)
  · skip
    refine lv_iconst (v := 0) hx hb d_Bytes_has_16 (by decide) ?_
    have hP9 := hP.sub (ws' := [(h0, .inr (1, [.ref q, .int 0]))]) [0] rfl
    have hD9 := hD.sub (ws' := [(h0, .inr (1, [.ref q, .int 0]))]) [0] (by decide) rfl
    exact W.zret (v := 0) hx hb hr (by first | rfl | decide) (fun t ht hW => ⟨⟨0, (), rfl, rfl, by rw [ht]; exact hP9, hD9⟩, hS.F ht⟩) hS.2.2 d_Bytes_has_17
  · skip
    refine lv_iload_n hx hb d_Bytes_has_4 rfl (lv_at hl 1 rfl) ?_
    refine lv_aload_n hx hb d_Bytes_has_5 rfl (lv_at hl 0 rfl) ?_
    refine va_get (D := D) (ci := 1) (v := .int 0) (C := "DiscMaker$Bytes") (T := F_Bytes) (N := 2) hx hb ht9 in_Bytes hown hK hP 0 rfl rfl 1 (by decide) (ht9 _ k258) (fun _ h9 => h9) rfl d_Bytes_has_6 ?_
    refine lv_icmp_ge (tgt := 16) hx hb d_Bytes_has_9 (by decide) (fun h_9 => ?_) (fun h_9 => absurd (z_ge0 h_1) h_9)
    refine lv_iconst (v := 0) hx hb d_Bytes_has_16 (by decide) ?_
    have hP9 := hP.sub (ws' := [(h0, .inr (1, [.ref q, .int 0]))]) [0] rfl
    have hD9 := hD.sub (ws' := [(h0, .inr (1, [.ref q, .int 0]))]) [0] (by decide) rfl
    exact W.zret (v := 0) hx hb hr (by first | rfl | decide) (fun t ht hW => ⟨⟨0, (), rfl, rfl, by rw [ht]; exact hP9, hD9⟩, hS.F ht⟩) hS.2.2 d_Bytes_has_17

theorem d_DiscMaker_byteAt_0 : decode b_DiscMaker_byteAt 0 = .ok (.aload_n 0, 1) := by decide +kernel
theorem d_DiscMaker_byteAt_1 : decode b_DiscMaker_byteAt 1 = .ok (.getfield 28, 3) := by decide +kernel
theorem d_DiscMaker_byteAt_4 : decode b_DiscMaker_byteAt 4 = .ok (.iload_n 1, 1) := by decide +kernel
theorem d_DiscMaker_byteAt_5 : decode b_DiscMaker_byteAt 5 = .ok (.invokevirtual 123, 3) := by decide +kernel
theorem d_DiscMaker_byteAt_8 : decode b_DiscMaker_byteAt 8 = .ok (.ifCond .eq 14, 3) := by decide +kernel
theorem d_DiscMaker_byteAt_22 : decode b_DiscMaker_byteAt 22 = .ok (.iconst (-1), 1) := by decide +kernel
theorem d_DiscMaker_byteAt_23 : decode b_DiscMaker_byteAt 23 = .ok (.ireturn, 1) := by decide +kernel
set_option maxHeartbeats 4000000 in
set_option maxRecDepth 100000 in
theorem c_byteAt (l : Launch) (D : va_G) (cB cI cJ cZ cN cF : ClassId) (sz : Nat) (h0 tx tr im mk rd : Nat) (q : Nat) (n : Int32) : Met l y_DiscMaker_byteAt w_DiscMaker_byteAt ({ frames := 1, cells := 0, slots := 0, locals := 21 }) (va_Pc [.ref h0, .int n] (fun U => U.heap.size = sz ∧ va_P D CL [(h0, .inr (0, [.ref tx, .ref tr, .ref im, .ref mk, .ref rd])), (im, .inr (1, [.ref q, .int 0]))] U.heap ∧ va_K D CL (TY cB cI cJ cZ cN cF) U ∧ NN U ∧ va_D (fun _ => True) [(h0, .inr (0, [.ref tx, .ref tr, .ref im, .ref mk, .ref rd])), (im, .inr (1, [.ref q, .int 0]))])) (va_Qi (fun (r : Int32) (u : Unit) => r = (-1)) (fun (u : Unit) (t : State) => match u with | () => va_P D CL [] t.heap ∧ va_D (va_A [(h0, .inr (0, [.ref tx, .ref tr, .ref im, .ref mk, .ref rd])), (im, .inr (1, [.ref q, .int 0]))] sz) []) (va_A [(h0, .inr (0, [.ref tx, .ref tr, .ref im, .ref mk, .ref rd])), (im, .inr (1, [.ref q, .int 0]))] sz)) 0 0 (va_A [(h0, .inr (0, [.ref tx, .ref tr, .ref im, .ref mk, .ref rd])), (im, .inr (1, [.ref q, .int 0]))] sz) := by
  refine Met.ofW (cc := b_DiscMaker_byteAt) (maxL := 2) (ret := some .int) (by decide) rfl ?_
  intro p e s m args below meth c s₁ B hml hv
  obtain ⟨rfl, hsz, hP, hK, hN, hD0⟩ := hv
  have hx := B.exec
  have hb := B.bytes
  have hr := B.returns
  have hts := atoms_spec (ws := w_DiscMaker_byteAt) B.pre
  have ht9 := fun (w : Cond) (h : w ∈ lw_g) => hts w (List.mem_cons_of_mem _ h)
  have hown : s.vm.findClass "DiscMaker" = some m.cls := findClass_of_methodNamed B.named
  have hlocks := B.notSynchronized
  subst hsz
  have hD := hD0.self (sz := s.heap.size)
  generalize hAe : va_A [(h0, .inr (0, [.ref tx, .ref tr, .ref im, .ref mk, .ref rd])), (im, .inr (1, [.ref q, .int 0]))] s.heap.size = A at hD ⊢
  have hA : ∀ q : Nat, s.heap.size ≤ q → A q := fun q h => by rw [← hAe]; exact Or.inr h
  have hS : va_S A s.heap s.heap [] := va_S.rf
  have hP : va_P D CL [(h0, .inr (0, [.ref tx, .ref tr, .ref im, .ref mk, .ref rd])), (im, .inr (1, [.ref q, .int 0]))] s.heap := hP
  have hl := lv_entry [.ref h0, .int n] (n := 2) (Nat.le_of_ble_eq_true rfl)
  rw [lg_entry_eq]
  generalize (lg_sl [.ref h0, .int n] ++ List.replicate (2 - (lg_sl [.ref h0, .int n]).length) Slot.unset).toArray = ls at hl ⊢
  have hl : lv_has ls 2 [(0, .ref h0), (1, .int n)] := hl
  refine lv_aload_n hx hb d_DiscMaker_byteAt_0 rfl (lv_at hl 0 rfl) ?_
  refine va_get (D := D) (ci := 0) (v := .ref im) (C := "DiscMaker") (T := F_DiscMaker) (N := 5) hx hb ht9 in_DiscMaker hown hK hP 0 rfl rfl 2 (by decide) (ht9 _ k433) (fun _ h9 => h9) rfl d_DiscMaker_byteAt_1 ?_
  refine lv_iload_n hx hb d_DiscMaker_byteAt_4 rfl (lv_at hl 1 rfl) ?_
  have hPc := hP.sub (ws' := [(im, .inr (1, [.ref q, .int 0]))]) [1] rfl
  have hDc := hD.sub (ws' := [(im, .inr (1, [.ref q, .int 0]))]) [1] (by decide) rfl
  have hFc := va_free (wc := [(im, .inr (1, [.ref q, .int 0]))]) hD hS hA [1] rfl
  have hkc : 0 ≤ 0 := by decide
  have hks : 0 ≤ 0 := by decide
  refine va_calli (va_runV (C := "DiscMaker$Bytes") (As := [.int n]) (rest := []) ⟨hx, hb, hml, hown, hts⟩ (c_Bytes_has l D cB cI cJ cZ cN cF s.heap.size im q n) (cwV 1 hts (lg_goodV k1131 k1132 k1133 k119 kc_Bytes_has) rfl rfl rfl (by decide +kernel) ⟨Nat.le_of_ble_eq_true rfl, Nat.le_of_ble_eq_true rfl⟩) ⟨fun a U g mk q => by obtain ⟨q0, q1, qP, qK, qN, qD⟩ := q; exact ⟨q0, q1, qP, va_K.moved (u := U) (U := U.calling g mk a) (Vm.Alike.refl U.vm) qK, qN.calling, qD⟩, va_recv hK hP (ci := 1) (q0 := 1) rfl rfl, fun U hU hW => ⟨rfl, by rw [hU], by rw [hU]; exact hPc, va_K.moved hW.alike hK, NN.warm hW hN, hDc.weaken (fun _ _ _ _ => trivial)⟩⟩ rfl rfl hl.1 rfl (lv_room (Nat.le_of_ble_eq_true rfl)) d_DiscMaker_byteAt_5 ⟨hkc, hks⟩) hS (fun q _ h => hFc q h) hFc (fun r5 u t H1 locs ht hvm hp_5 hB hz1 hk1 hS => ?_)
  obtain ⟨hP1, hD1⟩ := hB
  rw [ht] at hP1
  try dsimp only at hp_5
  obtain ⟨hP, hD⟩ := va_join (wr := [(h0, .inr (0, [.ref tx, .ref tr, .ref im, .ref mk, .ref rd]))]) (w1 := [(im, .inr (1, [.ref q, .int 0]))]) hP hD [1] [0] rfl rfl (by decide) (by decide) hk1 hFc hP1 hD1
  clear hPc hDc hFc hP1 hD1 hk1 hz1
  generalize H1 = H at hP hS ⊢
  have hP : va_P D CL [(h0, .inr (0, [.ref tx, .ref tr, .ref im, .ref mk, .ref rd])), (im, .inr (1, [.ref q, .int 0]))] H := hP
  have hD : va_D A [(h0, .inr (0, [.ref tx, .ref tr, .ref im, .ref mk, .ref rd])), (im, .inr (1, [.ref q, .int 0]))] := hD
  refine W.eq (g2 := F0 m 8 ls [.int 0]) (by rw [show r5 = 0 from hp_5]) ?_
  refine lv_if_eq (tgt := 22) hx hb d_DiscMaker_byteAt_8 (by decide) (fun h_8 => ?_) (fun h_8 => absurd (by decide) h_8)
  refine lv_iconst (v := (-1)) hx hb d_DiscMaker_byteAt_22 (by decide) ?_
  have hP9 := hP.sub (ws' := []) [] rfl
  have hD9 := hD.sub (ws' := []) [] (by decide) rfl
  exact W.iret (v := (-1)) hx hb hr (fun t ht hW => ⟨⟨(-1), (), rfl, rfl, by rw [ht]; exact hP9, hD9⟩, hS.F ht⟩) hS.2.2 d_DiscMaker_byteAt_23

theorem d_DiscMaker_poke_0 : decode b_DiscMaker_poke 0 = .ok (.aload_n 0, 1) := by decide +kernel
theorem d_DiscMaker_poke_1 : decode b_DiscMaker_poke 1 = .ok (.getfield 28, 3) := by decide +kernel
theorem d_DiscMaker_poke_4 : decode b_DiscMaker_poke 4 = .ok (.iload_n 1, 1) := by decide +kernel
theorem d_DiscMaker_poke_5 : decode b_DiscMaker_poke 5 = .ok (.invokevirtual 123, 3) := by decide +kernel
theorem d_DiscMaker_poke_8 : decode b_DiscMaker_poke 8 = .ok (.ifCond .ne 5, 3) := by decide +kernel
theorem d_DiscMaker_poke_11 : decode b_DiscMaker_poke 11 = .ok (.iconst (-1), 1) := by decide +kernel
theorem d_DiscMaker_poke_12 : decode b_DiscMaker_poke 12 = .ok (.ireturn, 1) := by decide +kernel
set_option maxHeartbeats 4000000 in
set_option maxRecDepth 100000 in
theorem c_poke (l : Launch) (D : va_G) (cB cI cJ cZ cN cF : ClassId) (sz : Nat) (h0 tx tr im mk rd : Nat) (q : Nat) (n v : Int32) : Met l y_DiscMaker_poke w_DiscMaker_poke ({ frames := 1, cells := 0, slots := 0, locals := 21 }) (va_Pc [.ref h0, .int n, .int v] (fun U => U.heap.size = sz ∧ va_P D CL [(h0, .inr (0, [.ref tx, .ref tr, .ref im, .ref mk, .ref rd])), (im, .inr (1, [.ref q, .int 0]))] U.heap ∧ va_K D CL (TY cB cI cJ cZ cN cF) U ∧ NN U ∧ va_D (fun _ => True) [(h0, .inr (0, [.ref tx, .ref tr, .ref im, .ref mk, .ref rd])), (im, .inr (1, [.ref q, .int 0]))])) (va_Qi (fun (r : Int32) (u : Unit) => r = (-1)) (fun (u : Unit) (t : State) => match u with | () => va_P D CL [] t.heap ∧ va_D (va_A [(h0, .inr (0, [.ref tx, .ref tr, .ref im, .ref mk, .ref rd])), (im, .inr (1, [.ref q, .int 0]))] sz) []) (va_A [(h0, .inr (0, [.ref tx, .ref tr, .ref im, .ref mk, .ref rd])), (im, .inr (1, [.ref q, .int 0]))] sz)) 0 0 (va_A [(h0, .inr (0, [.ref tx, .ref tr, .ref im, .ref mk, .ref rd])), (im, .inr (1, [.ref q, .int 0]))] sz) := by
  refine Met.ofW (cc := b_DiscMaker_poke) (maxL := 4) (ret := some .int) (by decide) rfl ?_
  intro p e s m args below meth c s₁ B hml hv
  obtain ⟨rfl, hsz, hP, hK, hN, hD0⟩ := hv
  have hx := B.exec
  have hb := B.bytes
  have hr := B.returns
  have hts := atoms_spec (ws := w_DiscMaker_poke) B.pre
  have ht9 := fun (w : Cond) (h : w ∈ lw_g) => hts w (List.mem_cons_of_mem _ h)
  have hown : s.vm.findClass "DiscMaker" = some m.cls := findClass_of_methodNamed B.named
  have hlocks := B.notSynchronized
  subst hsz
  have hD := hD0.self (sz := s.heap.size)
  generalize hAe : va_A [(h0, .inr (0, [.ref tx, .ref tr, .ref im, .ref mk, .ref rd])), (im, .inr (1, [.ref q, .int 0]))] s.heap.size = A at hD ⊢
  have hA : ∀ q : Nat, s.heap.size ≤ q → A q := fun q h => by rw [← hAe]; exact Or.inr h
  have hS : va_S A s.heap s.heap [] := va_S.rf
  have hP : va_P D CL [(h0, .inr (0, [.ref tx, .ref tr, .ref im, .ref mk, .ref rd])), (im, .inr (1, [.ref q, .int 0]))] s.heap := hP
  have hl := lv_entry [.ref h0, .int n, .int v] (n := 4) (Nat.le_of_ble_eq_true rfl)
  rw [lg_entry_eq]
  generalize (lg_sl [.ref h0, .int n, .int v] ++ List.replicate (4 - (lg_sl [.ref h0, .int n, .int v]).length) Slot.unset).toArray = ls at hl ⊢
  have hl : lv_has ls 4 [(0, .ref h0), (1, .int n), (2, .int v)] := hl
  refine lv_aload_n hx hb d_DiscMaker_poke_0 rfl (lv_at hl 0 rfl) ?_
  refine va_get (D := D) (ci := 0) (v := .ref im) (C := "DiscMaker") (T := F_DiscMaker) (N := 5) hx hb ht9 in_DiscMaker hown hK hP 0 rfl rfl 2 (by decide) (ht9 _ k433) (fun _ h9 => h9) rfl d_DiscMaker_poke_1 ?_
  refine lv_iload_n hx hb d_DiscMaker_poke_4 rfl (lv_at hl 1 rfl) ?_
  have hPc := hP.sub (ws' := [(im, .inr (1, [.ref q, .int 0]))]) [1] rfl
  have hDc := hD.sub (ws' := [(im, .inr (1, [.ref q, .int 0]))]) [1] (by decide) rfl
  have hFc := va_free (wc := [(im, .inr (1, [.ref q, .int 0]))]) hD hS hA [1] rfl
  have hkc : 0 ≤ 0 := by decide
  have hks : 0 ≤ 0 := by decide
  refine va_calli (va_runV (C := "DiscMaker$Bytes") (As := [.int n]) (rest := []) ⟨hx, hb, hml, hown, hts⟩ (c_Bytes_has l D cB cI cJ cZ cN cF s.heap.size im q n) (cwV 1 hts (lg_goodV k1131 k1132 k1133 k119 kc_Bytes_has) rfl rfl rfl (by decide +kernel) ⟨Nat.le_of_ble_eq_true rfl, Nat.le_of_ble_eq_true rfl⟩) ⟨fun a U g mk q => by obtain ⟨q0, q1, qP, qK, qN, qD⟩ := q; exact ⟨q0, q1, qP, va_K.moved (u := U) (U := U.calling g mk a) (Vm.Alike.refl U.vm) qK, qN.calling, qD⟩, va_recv hK hP (ci := 1) (q0 := 1) rfl rfl, fun U hU hW => ⟨rfl, by rw [hU], by rw [hU]; exact hPc, va_K.moved hW.alike hK, NN.warm hW hN, hDc.weaken (fun _ _ _ _ => trivial)⟩⟩ rfl rfl hl.1 rfl (lv_room (Nat.le_of_ble_eq_true rfl)) d_DiscMaker_poke_5 ⟨hkc, hks⟩) hS (fun q _ h => hFc q h) hFc (fun r5 u t H1 locs ht hvm hp_5 hB hz1 hk1 hS => ?_)
  obtain ⟨hP1, hD1⟩ := hB
  rw [ht] at hP1
  try dsimp only at hp_5
  obtain ⟨hP, hD⟩ := va_join (wr := [(h0, .inr (0, [.ref tx, .ref tr, .ref im, .ref mk, .ref rd]))]) (w1 := [(im, .inr (1, [.ref q, .int 0]))]) hP hD [1] [0] rfl rfl (by decide) (by decide) hk1 hFc hP1 hD1
  clear hPc hDc hFc hP1 hD1 hk1 hz1
  generalize H1 = H at hP hS ⊢
  have hP : va_P D CL [(h0, .inr (0, [.ref tx, .ref tr, .ref im, .ref mk, .ref rd])), (im, .inr (1, [.ref q, .int 0]))] H := hP
  have hD : va_D A [(h0, .inr (0, [.ref tx, .ref tr, .ref im, .ref mk, .ref rd])), (im, .inr (1, [.ref q, .int 0]))] := hD
  refine W.eq (g2 := F0 m 8 ls [.int 0]) (by rw [show r5 = 0 from hp_5]) ?_
  refine lv_if_ne (tgt := 13) hx hb d_DiscMaker_poke_8 (by decide) (fun h_8 => absurd (by decide) h_8) (fun h_8 => ?_)
  refine lv_iconst (v := (-1)) hx hb d_DiscMaker_poke_11 (by decide) ?_
  have hP9 := hP.sub (ws' := []) [] rfl
  have hD9 := hD.sub (ws' := []) [] (by decide) rfl
  exact W.iret (v := (-1)) hx hb hr (fun t ht hW => ⟨⟨(-1), (), rfl, rfl, by rw [ht]; exact hP9, hD9⟩, hS.F ht⟩) hS.2.2 d_DiscMaker_poke_12

theorem d_Bytes_shorten_0 : decode b_Bytes_shorten 0 = .ok (.aload_n 0, 1) := by decide +kernel
theorem d_Bytes_shorten_1 : decode b_Bytes_shorten 1 = .ok (.iload_n 1, 1) := by decide +kernel
theorem d_Bytes_shorten_2 : decode b_Bytes_shorten 2 = .ok (.putfield 25, 3) := by decide +kernel
theorem d_Bytes_shorten_5 : decode b_Bytes_shorten 5 = .ok (.return_, 1) := by decide +kernel
set_option maxHeartbeats 4000000 in
set_option maxRecDepth 100000 in
theorem c_Bytes_shorten (l : Launch) (D : va_G) (cB cI cJ cZ cN cF : ClassId) (sz : Nat) (h0 q : Nat) (L n : Int32) : Met l y_Bytes_shorten w_Bytes_shorten ({ frames := 0, cells := 0, slots := 0, locals := 0 }) (va_Pc [.ref h0, .int n] (fun U => U.heap.size = sz ∧ va_P D CL [(h0, .inr (1, [.ref q, .int L]))] U.heap ∧ va_K D CL (TY cB cI cJ cZ cN cF) U ∧ NN U ∧ va_D (fun _ => True) [(h0, .inr (1, [.ref q, .int L]))])) (va_Qv (fun (u : Unit) => True) (fun (u : Unit) (t : State) => match u with | () => va_P D CL [(h0, .inr (1, [.ref q, .int n]))] t.heap ∧ va_D (va_A [(h0, .inr (1, [.ref q, .int L]))] sz) [(h0, .inr (1, [.ref q, .int n]))]) (va_A [(h0, .inr (1, [.ref q, .int L]))] sz)) 0 0 (va_A [(h0, .inr (1, [.ref q, .int L]))] sz) := by
  refine Met.ofW (cc := b_Bytes_shorten) (maxL := 2) (ret := none) (by decide) rfl ?_
  intro p e s m args below meth c s₁ B hml hv
  obtain ⟨rfl, hsz, hP, hK, hN, hD0⟩ := hv
  have hx := B.exec
  have hb := B.bytes
  have hr := B.returns
  have hts := atoms_spec (ws := w_Bytes_shorten) B.pre
  have ht9 := fun (w : Cond) (h : w ∈ lw_g) => hts w (List.mem_cons_of_mem _ h)
  have hown : s.vm.findClass "DiscMaker$Bytes" = some m.cls := findClass_of_methodNamed B.named
  have hlocks := B.notSynchronized
  subst hsz
  have hD := hD0.self (sz := s.heap.size)
  generalize hAe : va_A [(h0, .inr (1, [.ref q, .int L]))] s.heap.size = A at hD ⊢
  have hA : ∀ q : Nat, s.heap.size ≤ q → A q := fun q h => by rw [← hAe]; exact Or.inr h
  have hS : va_S A s.heap s.heap [] := va_S.rf
  have hP : va_P D CL [(h0, .inr (1, [.ref q, .int L]))] s.heap := hP
  have hl := lv_entry [.ref h0, .int n] (n := 2) (Nat.le_of_ble_eq_true rfl)
  rw [lg_entry_eq]
  generalize (lg_sl [.ref h0, .int n] ++ List.replicate (2 - (lg_sl [.ref h0, .int n]).length) Slot.unset).toArray = ls at hl ⊢
  have hl : lv_has ls 2 [(0, .ref h0), (1, .int n)] := hl
  refine lv_aload_n hx hb d_Bytes_shorten_0 rfl (lv_at hl 0 rfl) ?_
  refine lv_iload_n hx hb d_Bytes_shorten_1 rfl (lv_at hl 1 rfl) ?_
  refine va_put (D := D) (ci := 1) (v := .int n) (ty := .int) (C := "DiscMaker$Bytes") (T := F_Bytes) (N := 2) hx hb ht9 in_Bytes t_Bytes t_Bytes_ok n_Bytes hown hK hP hD hS 0 rfl rfl 1 (by decide) (ht9 _ k258) (fun _ h9 => h9) rfl (by decide +kernel) rfl rfl (Nat.le_of_ble_eq_true rfl) d_Bytes_shorten_2 (fun H locs hP hD hS => ?_)
  have hP : va_P D CL [(h0, .inr (1, [.ref q, .int n]))] H := hP
  have hD : va_D A [(h0, .inr (1, [.ref q, .int n]))] := hD
  have hP9 := hP.sub (ws' := [(h0, .inr (1, [.ref q, .int n]))]) [0] rfl
  have hD9 := hD.sub (ws' := [(h0, .inr (1, [.ref q, .int n]))]) [0] (by decide) rfl
  exact W.vret hx hb hr (fun t ht hW => ⟨⟨(), rfl, trivial, by rw [ht]; exact hP9, hD9⟩, hS.F ht⟩) hS.2.2 d_Bytes_shorten_5

theorem d_DiscMaker_cut_0 : decode b_DiscMaker_cut 0 = .ok (.iload_n 1, 1) := by decide +kernel
theorem d_DiscMaker_cut_1 : decode b_DiscMaker_cut 1 = .ok (.ifCond .lt 18, 3) := by decide +kernel
theorem d_DiscMaker_cut_4 : decode b_DiscMaker_cut 4 = .ok (.iload_n 1, 1) := by decide +kernel
theorem d_DiscMaker_cut_5 : decode b_DiscMaker_cut 5 = .ok (.aload_n 0, 1) := by decide +kernel
theorem d_DiscMaker_cut_6 : decode b_DiscMaker_cut 6 = .ok (.getfield 28, 3) := by decide +kernel
theorem d_DiscMaker_cut_9 : decode b_DiscMaker_cut 9 = .ok (.getfield 120, 3) := by decide +kernel
theorem d_DiscMaker_cut_12 : decode b_DiscMaker_cut 12 = .ok (.sipush 2048, 3) := by decide +kernel
theorem d_DiscMaker_cut_15 : decode b_DiscMaker_cut 15 = .ok (.idiv, 1) := by decide +kernel
theorem d_DiscMaker_cut_16 : decode b_DiscMaker_cut 16 = .ok (.if_icmp .le 5, 3) := by decide +kernel
theorem d_DiscMaker_cut_19 : decode b_DiscMaker_cut 19 = .ok (.iconst 0, 1) := by decide +kernel
theorem d_DiscMaker_cut_20 : decode b_DiscMaker_cut 20 = .ok (.ireturn, 1) := by decide +kernel
theorem d_DiscMaker_cut_21 : decode b_DiscMaker_cut 21 = .ok (.aload_n 0, 1) := by decide +kernel
theorem d_DiscMaker_cut_22 : decode b_DiscMaker_cut 22 = .ok (.getfield 28, 3) := by decide +kernel
theorem d_DiscMaker_cut_25 : decode b_DiscMaker_cut 25 = .ok (.iload_n 1, 1) := by decide +kernel
theorem d_DiscMaker_cut_26 : decode b_DiscMaker_cut 26 = .ok (.sipush 2048, 3) := by decide +kernel
theorem d_DiscMaker_cut_29 : decode b_DiscMaker_cut 29 = .ok (.imul, 1) := by decide +kernel
theorem d_DiscMaker_cut_30 : decode b_DiscMaker_cut 30 = .ok (.invokevirtual 131, 3) := by decide +kernel
theorem d_DiscMaker_cut_33 : decode b_DiscMaker_cut 33 = .ok (.iconst 1, 1) := by decide +kernel
theorem d_DiscMaker_cut_34 : decode b_DiscMaker_cut 34 = .ok (.ireturn, 1) := by decide +kernel
set_option maxHeartbeats 4000000 in
set_option maxRecDepth 100000 in
theorem c_cut (l : Launch) (D : va_G) (cB cI cJ cZ cN cF : ClassId) (sz : Nat) (h0 tx tr im mk rd : Nat) (q : Nat) (n : Int32) : Met l y_DiscMaker_cut w_DiscMaker_cut ({ frames := 1, cells := 0, slots := 0, locals := 21 }) (va_Pc [.ref h0, .int n] (fun U => U.heap.size = sz ∧ va_P D CL [(h0, .inr (0, [.ref tx, .ref tr, .ref im, .ref mk, .ref rd])), (im, .inr (1, [.ref q, .int 0]))] U.heap ∧ va_K D CL (TY cB cI cJ cZ cN cF) U ∧ NN U ∧ va_D (fun _ => True) [(h0, .inr (0, [.ref tx, .ref tr, .ref im, .ref mk, .ref rd])), (im, .inr (1, [.ref q, .int 0]))])) (va_Qi (fun (r : Int32) (u : Unit) => (r = 1 ∧ n = 0) ∨ (r = 0 ∧ ¬ n = 0)) (fun (u : Unit) (t : State) => match u with | () => va_P D CL [] t.heap ∧ va_D (va_A [(h0, .inr (0, [.ref tx, .ref tr, .ref im, .ref mk, .ref rd])), (im, .inr (1, [.ref q, .int 0]))] sz) []) (va_A [(h0, .inr (0, [.ref tx, .ref tr, .ref im, .ref mk, .ref rd])), (im, .inr (1, [.ref q, .int 0]))] sz)) 0 0 (va_A [(h0, .inr (0, [.ref tx, .ref tr, .ref im, .ref mk, .ref rd])), (im, .inr (1, [.ref q, .int 0]))] sz) := by
  refine Met.ofW (cc := b_DiscMaker_cut) (maxL := 2) (ret := some .boolean) (by decide) rfl ?_
  intro p e s m args below meth c s₁ B hml hv
  obtain ⟨rfl, hsz, hP, hK, hN, hD0⟩ := hv
  have hx := B.exec
  have hb := B.bytes
  have hr := B.returns
  have hts := atoms_spec (ws := w_DiscMaker_cut) B.pre
  have ht9 := fun (w : Cond) (h : w ∈ lw_g) => hts w (List.mem_cons_of_mem _ h)
  have hown : s.vm.findClass "DiscMaker" = some m.cls := findClass_of_methodNamed B.named
  have hlocks := B.notSynchronized
  subst hsz
  have hD := hD0.self (sz := s.heap.size)
  generalize hAe : va_A [(h0, .inr (0, [.ref tx, .ref tr, .ref im, .ref mk, .ref rd])), (im, .inr (1, [.ref q, .int 0]))] s.heap.size = A at hD ⊢
  have hA : ∀ q : Nat, s.heap.size ≤ q → A q := fun q h => by rw [← hAe]; exact Or.inr h
  have hS : va_S A s.heap s.heap [] := va_S.rf
  have hP : va_P D CL [(h0, .inr (0, [.ref tx, .ref tr, .ref im, .ref mk, .ref rd])), (im, .inr (1, [.ref q, .int 0]))] s.heap := hP
  have hl := lv_entry [.ref h0, .int n] (n := 2) (Nat.le_of_ble_eq_true rfl)
  rw [lg_entry_eq]
  generalize (lg_sl [.ref h0, .int n] ++ List.replicate (2 - (lg_sl [.ref h0, .int n]).length) Slot.unset).toArray = ls at hl ⊢
  have hl : lv_has ls 2 [(0, .ref h0), (1, .int n)] := hl
  refine lv_iload_n hx hb d_DiscMaker_cut_0 rfl (lv_at hl 1 rfl) ?_
  refine lv_if_lt (tgt := 19) hx hb d_DiscMaker_cut_1 (by decide) (fun h_1 => ?_) (fun h_1 => ?_)
  · skip
    refine lv_iconst (v := 0) hx hb d_DiscMaker_cut_19 (by decide) ?_
    have hP9 := hP.sub (ws' := []) [] rfl
    have hD9 := hD.sub (ws' := []) [] (by decide) rfl
    exact W.zret (v := 0) hx hb hr (by first | rfl | decide) (fun t ht hW => ⟨⟨0, (), rfl, by first | exact Or.inr ⟨rfl, z_ne_lt h_1⟩ | exact Or.inl ⟨rfl, z_eq0' h_1 h_16⟩ | exact Or.inr ⟨rfl, z_ne_nle h_16⟩, by rw [ht]; exact hP9, hD9⟩, hS.F ht⟩) hS.2.2 d_DiscMaker_cut_20
  · skip
    refine lv_iload_n hx hb d_DiscMaker_cut_4 rfl (lv_at hl 1 rfl) ?_
    refine lv_aload_n hx hb d_DiscMaker_cut_5 rfl (lv_at hl 0 rfl) ?_
    refine va_get (D := D) (ci := 0) (v := .ref im) (C := "DiscMaker") (T := F_DiscMaker) (N := 5) hx hb ht9 in_DiscMaker hown hK hP 0 rfl rfl 2 (by decide) (ht9 _ k433) (fun _ h9 => h9) rfl d_DiscMaker_cut_6 ?_
    refine va_getN (D := D) (ci := 1) (v := .int 0) (C := "DiscMaker$Bytes") (T := F_Bytes) (N := 2) hx hb ht9 in_Bytes hown hK hP 1 rfl rfl 1 (by decide) (va_Nw.use rfl (hN _ k261)) (fun _ h9 => h9) rfl d_DiscMaker_cut_9 ?_
    refine lv_sipush (v := 2048) hx hb d_DiscMaker_cut_12 (by decide) ?_
    refine lv_idiv hx hb d_DiscMaker_cut_15 (by decide) ?_
    refine W.eq (g2 := F0 m 16 ls [.int 0, .int n]) (by rw [show ((0 / 2048) : Int32) = 0 from by decide]) ?_
    refine lv_icmp_le (tgt := 21) hx hb d_DiscMaker_cut_16 (by decide) (fun h_16 => ?_) (fun h_16 => ?_)
    · skip
      refine lv_aload_n hx hb d_DiscMaker_cut_21 rfl (lv_at hl 0 rfl) ?_
      refine va_get (D := D) (ci := 0) (v := .ref im) (C := "DiscMaker") (T := F_DiscMaker) (N := 5) hx hb ht9 in_DiscMaker hown hK hP 0 rfl rfl 2 (by decide) (ht9 _ k433) (fun _ h9 => h9) rfl d_DiscMaker_cut_22 ?_
      refine lv_iload_n hx hb d_DiscMaker_cut_25 rfl (lv_at hl 1 rfl) ?_
      refine lv_sipush (v := 2048) hx hb d_DiscMaker_cut_26 (by decide) ?_
      refine lv_imul hx hb d_DiscMaker_cut_29 ?_
      have hPc := hP.sub (ws' := [(im, .inr (1, [.ref q, .int 0]))]) [1] rfl
      have hDc := hD.sub (ws' := [(im, .inr (1, [.ref q, .int 0]))]) [1] (by decide) rfl
      have hFc := va_free (wc := [(im, .inr (1, [.ref q, .int 0]))]) hD hS hA [1] rfl
      have hkc : 0 ≤ 0 := by decide
      have hks : 0 ≤ 0 := by decide
      refine va_callv (va_runV (C := "DiscMaker$Bytes") (As := [.int (n * 2048)]) (rest := []) ⟨hx, hb, hml, hown, hts⟩ (c_Bytes_shorten l D cB cI cJ cZ cN cF s.heap.size im q 0 (n * 2048)) (cwV 1 hts (lg_goodV k1145 k896 k897 k119 kc_Bytes_shorten) rfl rfl rfl (by decide +kernel) ⟨Nat.le_of_ble_eq_true rfl, Nat.le_of_ble_eq_true rfl⟩) ⟨fun a U g mk q => by obtain ⟨q0, q1, qP, qK, qN, qD⟩ := q; exact ⟨q0, q1, qP, va_K.moved (u := U) (U := U.calling g mk a) (Vm.Alike.refl U.vm) qK, qN.calling, qD⟩, va_recv hK hP (ci := 1) (q0 := 1) rfl rfl, fun U hU hW => ⟨rfl, by rw [hU], by rw [hU]; exact hPc, va_K.moved hW.alike hK, NN.warm hW hN, hDc.weaken (fun _ _ _ _ => trivial)⟩⟩ rfl rfl hl.1 rfl (lv_room (Nat.le_of_ble_eq_true rfl)) d_DiscMaker_cut_30 ⟨hkc, hks⟩) hS (fun q _ h => hFc q h) hFc (fun u t H1 locs ht hvm hp_30 hB hz1 hk1 hS => ?_)
      obtain ⟨hP1, hD1⟩ := hB
      rw [ht] at hP1
      obtain ⟨hP, hD⟩ := va_join (wr := [(h0, .inr (0, [.ref tx, .ref tr, .ref im, .ref mk, .ref rd]))]) (w1 := [(im, .inr (1, [.ref q, .int (n * 2048)]))]) hP hD [1] [0] rfl rfl (by decide) (by decide) hk1 hFc hP1 hD1
      clear hPc hDc hFc hP1 hD1 hk1 hz1
      generalize H1 = H at hP hS ⊢
      have hP : va_P D CL [(h0, .inr (0, [.ref tx, .ref tr, .ref im, .ref mk, .ref rd])), (im, .inr (1, [.ref q, .int (n * 2048)]))] H := hP
      have hD : va_D A [(h0, .inr (0, [.ref tx, .ref tr, .ref im, .ref mk, .ref rd])), (im, .inr (1, [.ref q, .int (n * 2048)]))] := hD
      refine lv_iconst (v := 1) hx hb d_DiscMaker_cut_33 (by decide) ?_
      have hP9 := hP.sub (ws' := []) [] rfl
      have hD9 := hD.sub (ws' := []) [] (by decide) rfl
      exact W.zret (v := 1) hx hb hr (by first | rfl | decide) (fun t ht hW => ⟨⟨1, (), rfl, by first | exact Or.inr ⟨rfl, z_ne_lt h_1⟩ | exact Or.inl ⟨rfl, z_eq0' h_1 h_16⟩ | exact Or.inr ⟨rfl, z_ne_nle h_16⟩, by rw [ht]; exact hP9, hD9⟩, hS.F ht⟩) hS.2.2 d_DiscMaker_cut_34
    · skip
      refine lv_iconst (v := 0) hx hb d_DiscMaker_cut_19 (by decide) ?_
      have hP9 := hP.sub (ws' := []) [] rfl
      have hD9 := hD.sub (ws' := []) [] (by decide) rfl
      exact W.zret (v := 0) hx hb hr (by first | rfl | decide) (fun t ht hW => ⟨⟨0, (), rfl, by first | exact Or.inr ⟨rfl, z_ne_lt h_1⟩ | exact Or.inl ⟨rfl, z_eq0' h_1 h_16⟩ | exact Or.inr ⟨rfl, z_ne_nle h_16⟩, by rw [ht]; exact hP9, hD9⟩, hS.F ht⟩) hS.2.2 d_DiscMaker_cut_20

theorem d_Tree_has_0 : decode b_Tree_has 0 = .ok (.iload_n 1, 1) := by decide +kernel
theorem d_Tree_has_1 : decode b_Tree_has 1 = .ok (.ifCond .lt 15, 3) := by decide +kernel
theorem d_Tree_has_4 : decode b_Tree_has 4 = .ok (.iload_n 1, 1) := by decide +kernel
theorem d_Tree_has_5 : decode b_Tree_has 5 = .ok (.aload_n 0, 1) := by decide +kernel
theorem d_Tree_has_6 : decode b_Tree_has 6 = .ok (.getfield 20, 3) := by decide +kernel
theorem d_Tree_has_9 : decode b_Tree_has 9 = .ok (.if_icmp .ge 7, 3) := by decide +kernel
theorem d_Tree_has_12 : decode b_Tree_has 12 = .ok (.iconst 1, 1) := by decide +kernel
theorem d_Tree_has_13 : decode b_Tree_has 13 = .ok (.goto 4, 3) := by decide +kernel
theorem d_Tree_has_16 : decode b_Tree_has 16 = .ok (.iconst 0, 1) := by decide +kernel
theorem d_Tree_has_17 : decode b_Tree_has 17 = .ok (.ireturn, 1) := by decide +kernel
set_option maxHeartbeats 4000000 in
set_option maxRecDepth 100000 in
theorem c_Tree_has (l : Launch) (D : va_G) (cB cI cJ cZ cN cF : ClassId) (sz : Nat) (h0 q : Nat) (n : Int32) : Met l y_Tree_has w_Tree_has ({ frames := 0, cells := 0, slots := 0, locals := 0 }) (va_Pc [.ref h0, .int n] (fun U => U.heap.size = sz ∧ va_P D CL [(h0, .inr (10, [.ref q, .int 1, .int 1]))] U.heap ∧ va_K D CL (TY cB cI cJ cZ cN cF) U ∧ NN U ∧ va_D (fun _ => True) [(h0, .inr (10, [.ref q, .int 1, .int 1]))])) (va_Qi (fun (r : Int32) (u : Unit) => (r = 1 ∧ n = 0) ∨ (r = 0 ∧ ¬ n = 0)) (fun (u : Unit) (t : State) => match u with | () => va_P D CL [(h0, .inr (10, [.ref q, .int 1, .int 1]))] t.heap ∧ va_D (va_A [(h0, .inr (10, [.ref q, .int 1, .int 1]))] sz) [(h0, .inr (10, [.ref q, .int 1, .int 1]))]) (va_A [(h0, .inr (10, [.ref q, .int 1, .int 1]))] sz)) 0 0 (va_A [(h0, .inr (10, [.ref q, .int 1, .int 1]))] sz) := by
  refine Met.ofW (cc := b_Tree_has) (maxL := 2) (ret := some .boolean) (by decide) rfl ?_
  intro p e s m args below meth c s₁ B hml hv
  obtain ⟨rfl, hsz, hP, hK, hN, hD0⟩ := hv
  have hx := B.exec
  have hb := B.bytes
  have hr := B.returns
  have hts := atoms_spec (ws := w_Tree_has) B.pre
  have ht9 := fun (w : Cond) (h : w ∈ lw_g) => hts w (List.mem_cons_of_mem _ h)
  have hown : s.vm.findClass "DiscMaker$Tree" = some m.cls := findClass_of_methodNamed B.named
  have hlocks := B.notSynchronized
  subst hsz
  have hD := hD0.self (sz := s.heap.size)
  generalize hAe : va_A [(h0, .inr (10, [.ref q, .int 1, .int 1]))] s.heap.size = A at hD ⊢
  have hA : ∀ q : Nat, s.heap.size ≤ q → A q := fun q h => by rw [← hAe]; exact Or.inr h
  have hS : va_S A s.heap s.heap [] := va_S.rf
  have hP : va_P D CL [(h0, .inr (10, [.ref q, .int 1, .int 1]))] s.heap := hP
  have hl := lv_entry [.ref h0, .int n] (n := 2) (Nat.le_of_ble_eq_true rfl)
  rw [lg_entry_eq]
  generalize (lg_sl [.ref h0, .int n] ++ List.replicate (2 - (lg_sl [.ref h0, .int n]).length) Slot.unset).toArray = ls at hl ⊢
  have hl : lv_has ls 2 [(0, .ref h0), (1, .int n)] := hl
  refine lv_iload_n hx hb d_Tree_has_0 rfl (lv_at hl 1 rfl) ?_
  refine lv_if_lt (tgt := 16) hx hb d_Tree_has_1 (by decide) (fun h_1 => ?_) (fun h_1 => ?_)
  · skip
    refine lv_iconst (v := 0) hx hb d_Tree_has_16 (by decide) ?_
    have hP9 := hP.sub (ws' := [(h0, .inr (10, [.ref q, .int 1, .int 1]))]) [0] rfl
    have hD9 := hD.sub (ws' := [(h0, .inr (10, [.ref q, .int 1, .int 1]))]) [0] (by decide) rfl
    exact W.zret (v := 0) hx hb hr (by first | rfl | decide) (fun t ht hW => ⟨⟨0, (), rfl, by first | exact Or.inr ⟨rfl, z_ne_lt h_1⟩ | exact Or.inl ⟨rfl, z_eq0 h_1 h_9⟩ | exact Or.inr ⟨rfl, z_ne_ge h_9⟩, by rw [ht]; exact hP9, hD9⟩, hS.F ht⟩) hS.2.2 d_Tree_has_17
  · skip
    refine lv_iload_n hx hb d_Tree_has_4 rfl (lv_at hl 1 rfl) ?_
    refine lv_aload_n hx hb d_Tree_has_5 rfl (lv_at hl 0 rfl) ?_
    refine va_get (D := D) (ci := 10) (v := .int 1) (C := "DiscMaker$Tree") (T := F_Tree) (N := 3) hx hb ht9 in_Tree hown hK hP 0 rfl rfl 1 (by decide) (ht9 _ k239) (fun _ h9 => h9) rfl d_Tree_has_6 ?_
    refine lv_icmp_ge (tgt := 16) hx hb d_Tree_has_9 (by decide) (fun h_9 => ?_) (fun h_9 => ?_)
    · skip
      refine lv_iconst (v := 0) hx hb d_Tree_has_16 (by decide) ?_
      have hP9 := hP.sub (ws' := [(h0, .inr (10, [.ref q, .int 1, .int 1]))]) [0] rfl
      have hD9 := hD.sub (ws' := [(h0, .inr (10, [.ref q, .int 1, .int 1]))]) [0] (by decide) rfl
      exact W.zret (v := 0) hx hb hr (by first | rfl | decide) (fun t ht hW => ⟨⟨0, (), rfl, by first | exact Or.inr ⟨rfl, z_ne_lt h_1⟩ | exact Or.inl ⟨rfl, z_eq0 h_1 h_9⟩ | exact Or.inr ⟨rfl, z_ne_ge h_9⟩, by rw [ht]; exact hP9, hD9⟩, hS.F ht⟩) hS.2.2 d_Tree_has_17
    · skip
      refine lv_iconst (v := 1) hx hb d_Tree_has_12 (by decide) ?_
      refine lv_goto (tgt := 17) hx hb d_Tree_has_13 (by decide) ?_
      have hP9 := hP.sub (ws' := [(h0, .inr (10, [.ref q, .int 1, .int 1]))]) [0] rfl
      have hD9 := hD.sub (ws' := [(h0, .inr (10, [.ref q, .int 1, .int 1]))]) [0] (by decide) rfl
      exact W.zret (v := 1) hx hb hr (by first | rfl | decide) (fun t ht hW => ⟨⟨1, (), rfl, by first | exact Or.inr ⟨rfl, z_ne_lt h_1⟩ | exact Or.inl ⟨rfl, z_eq0 h_1 h_9⟩ | exact Or.inr ⟨rfl, z_ne_ge h_9⟩, by rw [ht]; exact hP9, hD9⟩, hS.F ht⟩) hS.2.2 d_Tree_has_17

theorem d_Node_setOwnership_0 : decode b_Node_setOwnership 0 = .ok (.aload_n 0, 1) := by decide +kernel
theorem d_Node_setOwnership_1 : decode b_Node_setOwnership 1 = .ok (.iload_n 1, 1) := by decide +kernel
theorem d_Node_setOwnership_2 : decode b_Node_setOwnership 2 = .ok (.putfield 19, 3) := by decide +kernel
theorem d_Node_setOwnership_5 : decode b_Node_setOwnership 5 = .ok (.aload_n 0, 1) := by decide +kernel
theorem d_Node_setOwnership_6 : decode b_Node_setOwnership 6 = .ok (.iload_n 2, 1) := by decide +kernel
theorem d_Node_setOwnership_7 : decode b_Node_setOwnership 7 = .ok (.putfield 22, 3) := by decide +kernel
theorem d_Node_setOwnership_10 : decode b_Node_setOwnership 10 = .ok (.aload_n 0, 1) := by decide +kernel
theorem d_Node_setOwnership_11 : decode b_Node_setOwnership 11 = .ok (.iload_n 3, 1) := by decide +kernel
theorem d_Node_setOwnership_12 : decode b_Node_setOwnership 12 = .ok (.putfield 25, 3) := by decide +kernel
theorem d_Node_setOwnership_15 : decode b_Node_setOwnership 15 = .ok (.return_, 1) := by decide +kernel
set_option maxHeartbeats 4000000 in
set_option maxRecDepth 100000 in
theorem c_setOwnership (l : Launch) (D : va_G) (cB cI cJ cZ cN cF : ClassId) (sz : Nat) (h0 nm nk nt : Nat) (x y z : Int32) : Met l y_Node_setOwnership w_Node_setOwnership ({ frames := 0, cells := 0, slots := 0, locals := 0 }) (va_Pc [.ref h0, .int x, .int y, .int z] (fun U => U.heap.size = sz ∧ va_P D CL [(h0, .inr (5, [.int 0, .ref nm, .ref nk, .ref nt, .int 0, .int 0, .int 0, .int 16877, .int 0, .int 0, .int 0, .int 0]))] U.heap ∧ va_K D CL (TY cB cI cJ cZ cN cF) U ∧ NN U ∧ va_D (fun _ => True) [(h0, .inr (5, [.int 0, .ref nm, .ref nk, .ref nt, .int 0, .int 0, .int 0, .int 16877, .int 0, .int 0, .int 0, .int 0]))])) (va_Qv (fun (u : Unit) => True) (fun (u : Unit) (t : State) => match u with | () => va_P D CL [] t.heap ∧ va_D (va_A [(h0, .inr (5, [.int 0, .ref nm, .ref nk, .ref nt, .int 0, .int 0, .int 0, .int 16877, .int 0, .int 0, .int 0, .int 0]))] sz) []) (va_A [(h0, .inr (5, [.int 0, .ref nm, .ref nk, .ref nt, .int 0, .int 0, .int 0, .int 16877, .int 0, .int 0, .int 0, .int 0]))] sz)) 0 0 (va_A [(h0, .inr (5, [.int 0, .ref nm, .ref nk, .ref nt, .int 0, .int 0, .int 0, .int 16877, .int 0, .int 0, .int 0, .int 0]))] sz) := by
  refine Met.ofW (cc := b_Node_setOwnership) (maxL := 4) (ret := none) (by decide) rfl ?_
  intro p e s m args below meth c s₁ B hml hv
  obtain ⟨rfl, hsz, hP, hK, hN, hD0⟩ := hv
  have hx := B.exec
  have hb := B.bytes
  have hr := B.returns
  have hts := atoms_spec (ws := w_Node_setOwnership) B.pre
  have ht9 := fun (w : Cond) (h : w ∈ lw_g) => hts w (List.mem_cons_of_mem _ h)
  have hown : s.vm.findClass "DiscMaker$Node" = some m.cls := findClass_of_methodNamed B.named
  have hlocks := B.notSynchronized
  subst hsz
  have hD := hD0.self (sz := s.heap.size)
  generalize hAe : va_A [(h0, .inr (5, [.int 0, .ref nm, .ref nk, .ref nt, .int 0, .int 0, .int 0, .int 16877, .int 0, .int 0, .int 0, .int 0]))] s.heap.size = A at hD ⊢
  have hA : ∀ q : Nat, s.heap.size ≤ q → A q := fun q h => by rw [← hAe]; exact Or.inr h
  have hS : va_S A s.heap s.heap [] := va_S.rf
  have hP : va_P D CL [(h0, .inr (5, [.int 0, .ref nm, .ref nk, .ref nt, .int 0, .int 0, .int 0, .int 16877, .int 0, .int 0, .int 0, .int 0]))] s.heap := hP
  have hl := lv_entry [.ref h0, .int x, .int y, .int z] (n := 4) (Nat.le_of_ble_eq_true rfl)
  rw [lg_entry_eq]
  generalize (lg_sl [.ref h0, .int x, .int y, .int z] ++ List.replicate (4 - (lg_sl [.ref h0, .int x, .int y, .int z]).length) Slot.unset).toArray = ls at hl ⊢
  have hl : lv_has ls 4 [(0, .ref h0), (1, .int x), (2, .int y), (3, .int z)] := hl
  refine lv_aload_n hx hb d_Node_setOwnership_0 rfl (lv_at hl 0 rfl) ?_
  refine lv_iload_n hx hb d_Node_setOwnership_1 rfl (lv_at hl 1 rfl) ?_
  refine va_put (D := D) (ci := 5) (v := .int x) (ty := .int) (C := "DiscMaker$Node") (T := F_Node) (N := 12) hx hb ht9 in_Node t_Node t_Node_ok n_Node hown hK hP hD hS 0 rfl rfl 7 (by decide) (ht9 _ k200) (fun _ h9 => h9) rfl (by decide +kernel) rfl rfl (Nat.le_of_ble_eq_true rfl) d_Node_setOwnership_2 (fun H locs hP hD hS => ?_)
  have hP : va_P D CL [(h0, .inr (5, [.int 0, .ref nm, .ref nk, .ref nt, .int 0, .int 0, .int 0, .int x, .int 0, .int 0, .int 0, .int 0]))] H := hP
  have hD : va_D A [(h0, .inr (5, [.int 0, .ref nm, .ref nk, .ref nt, .int 0, .int 0, .int 0, .int x, .int 0, .int 0, .int 0, .int 0]))] := hD
  refine lv_aload_n hx hb d_Node_setOwnership_5 rfl (lv_at hl 0 rfl) ?_
  refine lv_iload_n hx hb d_Node_setOwnership_6 rfl (lv_at hl 2 rfl) ?_
  refine va_put (D := D) (ci := 5) (v := .int y) (ty := .int) (C := "DiscMaker$Node") (T := F_Node) (N := 12) hx hb ht9 in_Node t_Node t_Node_ok n_Node hown hK hP hD hS 0 rfl rfl 8 (by decide) (ht9 _ k202) (fun _ h9 => h9) rfl (by decide +kernel) rfl rfl (Nat.le_of_ble_eq_true rfl) d_Node_setOwnership_7 (fun H locs hP hD hS => ?_)
  have hP : va_P D CL [(h0, .inr (5, [.int 0, .ref nm, .ref nk, .ref nt, .int 0, .int 0, .int 0, .int x, .int y, .int 0, .int 0, .int 0]))] H := hP
  have hD : va_D A [(h0, .inr (5, [.int 0, .ref nm, .ref nk, .ref nt, .int 0, .int 0, .int 0, .int x, .int y, .int 0, .int 0, .int 0]))] := hD
  refine lv_aload_n hx hb d_Node_setOwnership_10 rfl (lv_at hl 0 rfl) ?_
  refine lv_iload_n hx hb d_Node_setOwnership_11 rfl (lv_at hl 3 rfl) ?_
  refine va_put (D := D) (ci := 5) (v := .int z) (ty := .int) (C := "DiscMaker$Node") (T := F_Node) (N := 12) hx hb ht9 in_Node t_Node t_Node_ok n_Node hown hK hP hD hS 0 rfl rfl 9 (by decide) (ht9 _ k204) (fun _ h9 => h9) rfl (by decide +kernel) rfl rfl (Nat.le_of_ble_eq_true rfl) d_Node_setOwnership_12 (fun H locs hP hD hS => ?_)
  have hP : va_P D CL [(h0, .inr (5, [.int 0, .ref nm, .ref nk, .ref nt, .int 0, .int 0, .int 0, .int x, .int y, .int z, .int 0, .int 0]))] H := hP
  have hD : va_D A [(h0, .inr (5, [.int 0, .ref nm, .ref nk, .ref nt, .int 0, .int 0, .int 0, .int x, .int y, .int z, .int 0, .int 0]))] := hD
  have hP9 := hP.sub (ws' := []) [] rfl
  have hD9 := hD.sub (ws' := []) [] (by decide) rfl
  exact W.vret hx hb hr (fun t ht hW => ⟨⟨(), rfl, trivial, by rw [ht]; exact hP9, hD9⟩, hS.F ht⟩) hS.2.2 d_Node_setOwnership_15

theorem d_DiscMaker_own_0 : decode b_DiscMaker_own 0 = .ok (.aload_n 0, 1) := by decide +kernel
theorem d_DiscMaker_own_1 : decode b_DiscMaker_own 1 = .ok (.getfield 19, 3) := by decide +kernel
theorem d_DiscMaker_own_4 : decode b_DiscMaker_own 4 = .ok (.iload_n 1, 1) := by decide +kernel
theorem d_DiscMaker_own_5 : decode b_DiscMaker_own 5 = .ok (.invokevirtual 106, 3) := by decide +kernel
theorem d_DiscMaker_own_8 : decode b_DiscMaker_own 8 = .ok (.ifCond .eq 13, 3) := by decide +kernel
theorem d_DiscMaker_own_11 : decode b_DiscMaker_own 11 = .ok (.iload_n 2, 1) := by decide +kernel
theorem d_DiscMaker_own_12 : decode b_DiscMaker_own 12 = .ok (.iload_n 3, 1) := by decide +kernel
theorem d_DiscMaker_own_13 : decode b_DiscMaker_own 13 = .ok (.iload 4, 2) := by decide +kernel
theorem d_DiscMaker_own_15 : decode b_DiscMaker_own 15 = .ok (.invokestatic 62, 3) := by decide +kernel
theorem d_DiscMaker_own_18 : decode b_DiscMaker_own 18 = .ok (.ifCond .ne 5, 3) := by decide +kernel
theorem d_DiscMaker_own_21 : decode b_DiscMaker_own 21 = .ok (.iconst 0, 1) := by decide +kernel
theorem d_DiscMaker_own_22 : decode b_DiscMaker_own 22 = .ok (.ireturn, 1) := by decide +kernel
theorem d_DiscMaker_own_23 : decode b_DiscMaker_own 23 = .ok (.aload_n 0, 1) := by decide +kernel
theorem d_DiscMaker_own_24 : decode b_DiscMaker_own 24 = .ok (.getfield 19, 3) := by decide +kernel
theorem d_DiscMaker_own_27 : decode b_DiscMaker_own 27 = .ok (.getfield 109, 3) := by decide +kernel
theorem d_DiscMaker_own_30 : decode b_DiscMaker_own 30 = .ok (.iload_n 1, 1) := by decide +kernel
theorem d_DiscMaker_own_31 : decode b_DiscMaker_own 31 = .ok (.aaload, 1) := by decide +kernel
theorem d_DiscMaker_own_32 : decode b_DiscMaker_own 32 = .ok (.iload_n 2, 1) := by decide +kernel
theorem d_DiscMaker_own_33 : decode b_DiscMaker_own 33 = .ok (.iload_n 3, 1) := by decide +kernel
theorem d_DiscMaker_own_34 : decode b_DiscMaker_own 34 = .ok (.iload 4, 2) := by decide +kernel
theorem d_DiscMaker_own_36 : decode b_DiscMaker_own 36 = .ok (.invokevirtual 113, 3) := by decide +kernel
theorem d_DiscMaker_own_39 : decode b_DiscMaker_own 39 = .ok (.iconst 1, 1) := by decide +kernel
theorem d_DiscMaker_own_40 : decode b_DiscMaker_own 40 = .ok (.ireturn, 1) := by decide +kernel
set_option maxHeartbeats 4000000 in
set_option maxRecDepth 100000 in
theorem c_own (l : Launch) (D : va_G) (cB cI cJ cZ cN cF : ClassId) (sz : Nat) (h0 tx tr im mk rd : Nat) (qa qn qm qk qt : Nat) (n x y z : Int32) : Met l y_DiscMaker_own w_DiscMaker_own ({ frames := 2, cells := 0, slots := 0, locals := 43 }) (va_Pc [.ref h0, .int n, .int x, .int y, .int z] (fun U => U.heap.size = sz ∧ va_P D CL [(h0, .inr (0, [.ref tx, .ref tr, .ref im, .ref mk, .ref rd])), (tr, .inr (10, [.ref qa, .int 1, .int 1])), (qa, .inl (cN, 40, .inr (.inr (.inr (.inr (va_up (fun _ => none) 0 (some qn))))))), (qn, .inr (5, [.int 0, .ref qm, .ref qk, .ref qt, .int 0, .int 0, .int 0, .int 16877, .int 0, .int 0, .int 0, .int 0]))] U.heap ∧ va_K D CL (TY cB cI cJ cZ cN cF) U ∧ NN U ∧ va_D (fun _ => True) [(h0, .inr (0, [.ref tx, .ref tr, .ref im, .ref mk, .ref rd])), (tr, .inr (10, [.ref qa, .int 1, .int 1])), (qa, .inl (cN, 40, .inr (.inr (.inr (.inr (va_up (fun _ => none) 0 (some qn))))))), (qn, .inr (5, [.int 0, .ref qm, .ref qk, .ref qt, .int 0, .int 0, .int 0, .int 16877, .int 0, .int 0, .int 0, .int 0]))])) (va_Qi (fun (r : Int32) (u : Unit) => (r = 1 ∧ (n = 0 ∧ zIn x 1000000 ∧ zIn y 1000000 ∧ zIn z 1000000)) ∨ (r = 0 ∧ ¬ (n = 0 ∧ zIn x 1000000 ∧ zIn y 1000000 ∧ zIn z 1000000))) (fun (u : Unit) (t : State) => match u with | () => va_P D CL [] t.heap ∧ va_D (va_A [(h0, .inr (0, [.ref tx, .ref tr, .ref im, .ref mk, .ref rd])), (tr, .inr (10, [.ref qa, .int 1, .int 1])), (qa, .inl (cN, 40, .inr (.inr (.inr (.inr (va_up (fun _ => none) 0 (some qn))))))), (qn, .inr (5, [.int 0, .ref qm, .ref qk, .ref qt, .int 0, .int 0, .int 0, .int 16877, .int 0, .int 0, .int 0, .int 0]))] sz) []) (va_A [(h0, .inr (0, [.ref tx, .ref tr, .ref im, .ref mk, .ref rd])), (tr, .inr (10, [.ref qa, .int 1, .int 1])), (qa, .inl (cN, 40, .inr (.inr (.inr (.inr (va_up (fun _ => none) 0 (some qn))))))), (qn, .inr (5, [.int 0, .ref qm, .ref qk, .ref qt, .int 0, .int 0, .int 0, .int 16877, .int 0, .int 0, .int 0, .int 0]))] sz)) 0 0 (va_A [(h0, .inr (0, [.ref tx, .ref tr, .ref im, .ref mk, .ref rd])), (tr, .inr (10, [.ref qa, .int 1, .int 1])), (qa, .inl (cN, 40, .inr (.inr (.inr (.inr (va_up (fun _ => none) 0 (some qn))))))), (qn, .inr (5, [.int 0, .ref qm, .ref qk, .ref qt, .int 0, .int 0, .int 0, .int 16877, .int 0, .int 0, .int 0, .int 0]))] sz) := by
  refine Met.ofW (cc := b_DiscMaker_own) (maxL := 5) (ret := some .boolean) (by decide) rfl ?_
  intro p e s m args below meth c s₁ B hml hv
  obtain ⟨rfl, hsz, hP, hK, hN, hD0⟩ := hv
  have hx := B.exec
  have hb := B.bytes
  have hr := B.returns
  have hts := atoms_spec (ws := w_DiscMaker_own) B.pre
  have ht9 := fun (w : Cond) (h : w ∈ lw_g) => hts w (List.mem_cons_of_mem _ h)
  have hown : s.vm.findClass "DiscMaker" = some m.cls := findClass_of_methodNamed B.named
  have hlocks := B.notSynchronized
  subst hsz
  have hD := hD0.self (sz := s.heap.size)
  generalize hAe : va_A [(h0, .inr (0, [.ref tx, .ref tr, .ref im, .ref mk, .ref rd])), (tr, .inr (10, [.ref qa, .int 1, .int 1])), (qa, .inl (cN, 40, .inr (.inr (.inr (.inr (va_up (fun _ => none) 0 (some qn))))))), (qn, .inr (5, [.int 0, .ref qm, .ref qk, .ref qt, .int 0, .int 0, .int 0, .int 16877, .int 0, .int 0, .int 0, .int 0]))] s.heap.size = A at hD ⊢
  have hA : ∀ q : Nat, s.heap.size ≤ q → A q := fun q h => by rw [← hAe]; exact Or.inr h
  have hS : va_S A s.heap s.heap [] := va_S.rf
  have hP : va_P D CL [(h0, .inr (0, [.ref tx, .ref tr, .ref im, .ref mk, .ref rd])), (tr, .inr (10, [.ref qa, .int 1, .int 1])), (qa, .inl (cN, 40, .inr (.inr (.inr (.inr (va_up (fun _ => none) 0 (some qn))))))), (qn, .inr (5, [.int 0, .ref qm, .ref qk, .ref qt, .int 0, .int 0, .int 0, .int 16877, .int 0, .int 0, .int 0, .int 0]))] s.heap := hP
  have hl := lv_entry [.ref h0, .int n, .int x, .int y, .int z] (n := 5) (Nat.le_of_ble_eq_true rfl)
  rw [lg_entry_eq]
  generalize (lg_sl [.ref h0, .int n, .int x, .int y, .int z] ++ List.replicate (5 - (lg_sl [.ref h0, .int n, .int x, .int y, .int z]).length) Slot.unset).toArray = ls at hl ⊢
  have hl : lv_has ls 5 [(0, .ref h0), (1, .int n), (2, .int x), (3, .int y), (4, .int z)] := hl
  refine lv_aload_n hx hb d_DiscMaker_own_0 rfl (lv_at hl 0 rfl) ?_
  refine va_get (D := D) (ci := 0) (v := .ref tr) (C := "DiscMaker") (T := F_DiscMaker) (N := 5) hx hb ht9 in_DiscMaker hown hK hP 0 rfl rfl 1 (by decide) (ht9 _ k432) (fun _ h9 => h9) rfl d_DiscMaker_own_1 ?_
  refine lv_iload_n hx hb d_DiscMaker_own_4 rfl (lv_at hl 1 rfl) ?_
  have hPc := hP.sub (ws' := [(tr, .inr (10, [.ref qa, .int 1, .int 1]))]) [1] rfl
  have hDc := hD.sub (ws' := [(tr, .inr (10, [.ref qa, .int 1, .int 1]))]) [1] (by decide) rfl
  have hFc := va_free (wc := [(tr, .inr (10, [.ref qa, .int 1, .int 1]))]) hD hS hA [1] rfl
  have hkc : 0 ≤ 0 := by decide
  have hks : 0 ≤ 0 := by decide
  refine va_calli (va_runV (C := "DiscMaker$Tree") (As := [.int n]) (rest := []) ⟨hx, hb, hml, hown, hts⟩ (c_Tree_has l D cB cI cJ cZ cN cF s.heap.size tr qa n) (cwV 1 hts (lg_goodV k930 k800 k801 k117 kc_Tree_has) rfl rfl rfl (by decide +kernel) ⟨Nat.le_of_ble_eq_true rfl, Nat.le_of_ble_eq_true rfl⟩) ⟨fun a U g mk q => by obtain ⟨q0, q1, qP, qK, qN, qD⟩ := q; exact ⟨q0, q1, qP, va_K.moved (u := U) (U := U.calling g mk a) (Vm.Alike.refl U.vm) qK, qN.calling, qD⟩, va_recv hK hP (ci := 10) (q0 := 1) rfl rfl, fun U hU hW => ⟨rfl, by rw [hU], by rw [hU]; exact hPc, va_K.moved hW.alike hK, NN.warm hW hN, hDc.weaken (fun _ _ _ _ => trivial)⟩⟩ rfl rfl hl.1 rfl (lv_room (Nat.le_of_ble_eq_true rfl)) d_DiscMaker_own_5 ⟨hkc, hks⟩) hS (fun q _ h => hFc q h) hFc (fun r5 u t H1 locs ht hvm hp_5 hB hz1 hk1 hS => ?_)
  obtain ⟨hP1, hD1⟩ := hB
  rw [ht] at hP1
  try dsimp only at hp_5
  obtain ⟨hP, hD⟩ := va_join (wr := [(h0, .inr (0, [.ref tx, .ref tr, .ref im, .ref mk, .ref rd])), (qa, .inl (cN, 40, .inr (.inr (.inr (.inr (va_up (fun _ => none) 0 (some qn))))))), (qn, .inr (5, [.int 0, .ref qm, .ref qk, .ref qt, .int 0, .int 0, .int 0, .int 16877, .int 0, .int 0, .int 0, .int 0]))]) (w1 := [(tr, .inr (10, [.ref qa, .int 1, .int 1]))]) hP hD [1] [0, 2, 3] rfl rfl (by decide) (by decide) hk1 hFc hP1 hD1
  clear hPc hDc hFc hP1 hD1 hk1 hz1
  generalize H1 = H at hP hS ⊢
  have hP : va_P D CL [(h0, .inr (0, [.ref tx, .ref tr, .ref im, .ref mk, .ref rd])), (qa, .inl (cN, 40, .inr (.inr (.inr (.inr (va_up (fun _ => none) 0 (some qn))))))), (qn, .inr (5, [.int 0, .ref qm, .ref qk, .ref qt, .int 0, .int 0, .int 0, .int 16877, .int 0, .int 0, .int 0, .int 0])), (tr, .inr (10, [.ref qa, .int 1, .int 1]))] H := hP
  have hD : va_D A [(h0, .inr (0, [.ref tx, .ref tr, .ref im, .ref mk, .ref rd])), (qa, .inl (cN, 40, .inr (.inr (.inr (.inr (va_up (fun _ => none) 0 (some qn))))))), (qn, .inr (5, [.int 0, .ref qm, .ref qk, .ref qt, .int 0, .int 0, .int 0, .int 16877, .int 0, .int 0, .int 0, .int 0])), (tr, .inr (10, [.ref qa, .int 1, .int 1]))] := hD
  rcases hp_5 with ⟨rfl, hn0⟩ | ⟨rfl, hn0⟩
  · skip
    subst hn0
    refine lv_if_eq (tgt := 21) hx hb d_DiscMaker_own_8 (by decide) (fun h_8 => absurd h_8 (by decide)) (fun h_8 => ?_)
    refine lv_iload_n hx hb d_DiscMaker_own_11 rfl (lv_at hl 2 rfl) ?_
    refine lv_iload_n hx hb d_DiscMaker_own_12 rfl (lv_at hl 3 rfl) ?_
    refine lv_iload hx hb d_DiscMaker_own_13 (lv_at hl 4 rfl) ?_
    have hPc := hP.sub (ws' := []) [] rfl
    have hDc := hD.sub (ws' := []) [] (by decide) rfl
    have hFc := va_free (wc := []) hD hS hA [] rfl
    have hkc : 0 ≤ 0 := by decide
    have hks : 0 ≤ 0 := by decide
    refine va_calli (va_runS (As := [.int x, .int y, .int z]) (rest := []) ⟨hx, hb, hml, hown, hts⟩ (c_isOwnership l D cB cI cJ cZ cN cF H.size x y z) (cwS 3 hts (lg_goodS k475 k476 k115 kc_DiscMaker_isOwnership) rfl rfl rfl (by decide +kernel) ⟨Nat.le_of_ble_eq_true rfl, Nat.le_of_ble_eq_true rfl⟩) ⟨fun a U g mk q => by obtain ⟨q0, q1, qP, qK, qN, qD⟩ := q; exact ⟨q0, q1, qP, va_K.moved (u := U) (U := U.calling g mk a) (Vm.Alike.refl U.vm) qK, qN.calling, qD⟩, fun U hU hW => ⟨rfl, by rw [hU], by rw [hU]; exact hPc, va_K.moved hW.alike hK, NN.warm hW hN, hDc.weaken (fun _ _ _ _ => trivial)⟩⟩ rfl rfl hl.1 rfl (lv_room (Nat.le_of_ble_eq_true rfl)) d_DiscMaker_own_15 ⟨hkc, hks⟩) hS (fun q _ h => hFc q h) hFc (fun r15 u t H1 locs ht hvm hp_15 hB hz1 hk1 hS => ?_)
    obtain ⟨hP1, hD1⟩ := hB
    rw [ht] at hP1
    try dsimp only at hp_15
    obtain ⟨hP, hD⟩ := va_join (wr := [(h0, .inr (0, [.ref tx, .ref tr, .ref im, .ref mk, .ref rd])), (qa, .inl (cN, 40, .inr (.inr (.inr (.inr (va_up (fun _ => none) 0 (some qn))))))), (qn, .inr (5, [.int 0, .ref qm, .ref qk, .ref qt, .int 0, .int 0, .int 0, .int 16877, .int 0, .int 0, .int 0, .int 0])), (tr, .inr (10, [.ref qa, .int 1, .int 1]))]) (w1 := []) hP hD [] [0, 1, 2, 3] rfl rfl (by decide) (by decide) hk1 hFc hP1 hD1
    clear hPc hDc hFc hP1 hD1 hk1 hz1
    generalize H1 = H at hP hS ⊢
    have hP : va_P D CL [(h0, .inr (0, [.ref tx, .ref tr, .ref im, .ref mk, .ref rd])), (qa, .inl (cN, 40, .inr (.inr (.inr (.inr (va_up (fun _ => none) 0 (some qn))))))), (qn, .inr (5, [.int 0, .ref qm, .ref qk, .ref qt, .int 0, .int 0, .int 0, .int 16877, .int 0, .int 0, .int 0, .int 0])), (tr, .inr (10, [.ref qa, .int 1, .int 1]))] H := hP
    have hD : va_D A [(h0, .inr (0, [.ref tx, .ref tr, .ref im, .ref mk, .ref rd])), (qa, .inl (cN, 40, .inr (.inr (.inr (.inr (va_up (fun _ => none) 0 (some qn))))))), (qn, .inr (5, [.int 0, .ref qm, .ref qk, .ref qt, .int 0, .int 0, .int 0, .int 16877, .int 0, .int 0, .int 0, .int 0])), (tr, .inr (10, [.ref qa, .int 1, .int 1]))] := hD
    rcases hp_15 with ⟨rfl, ho⟩ | ⟨rfl, ho⟩
    · skip
      refine lv_if_ne (tgt := 23) hx hb d_DiscMaker_own_18 (by decide) (fun h_18 => ?_) (fun h_18 => absurd h_18 (by decide))
      refine lv_aload_n hx hb d_DiscMaker_own_23 rfl (lv_at hl 0 rfl) ?_
      refine va_get (D := D) (ci := 0) (v := .ref tr) (C := "DiscMaker") (T := F_DiscMaker) (N := 5) hx hb ht9 in_DiscMaker hown hK hP 0 rfl rfl 1 (by decide) (ht9 _ k432) (fun _ h9 => h9) rfl d_DiscMaker_own_24 ?_
      refine va_getN (D := D) (ci := 10) (v := .ref qa) (C := "DiscMaker$Tree") (T := F_Tree) (N := 3) hx hb ht9 in_Tree hown hK hP 3 rfl rfl 0 (by decide) (va_Nw.use rfl (hN _ k238)) (fun _ h9 => h9) rfl d_DiscMaker_own_27 ?_
      refine lv_iload_n hx hb d_DiscMaker_own_30 rfl (lv_at hl 1 rfl) ?_
      refine va_aldq hx hb hK hP 1 4 rfl rfl (by unfold vp_in; decide) d_DiscMaker_own_31 ?_
      refine W.eq (g2 := F0 m 32 ls [.ref qn]) (by rfl) ?_
      refine lv_iload_n hx hb d_DiscMaker_own_32 rfl (lv_at hl 2 rfl) ?_
      refine lv_iload_n hx hb d_DiscMaker_own_33 rfl (lv_at hl 3 rfl) ?_
      refine lv_iload hx hb d_DiscMaker_own_34 (lv_at hl 4 rfl) ?_
      have hPc := hP.sub (ws' := [(qn, .inr (5, [.int 0, .ref qm, .ref qk, .ref qt, .int 0, .int 0, .int 0, .int 16877, .int 0, .int 0, .int 0, .int 0]))]) [2] rfl
      have hDc := hD.sub (ws' := [(qn, .inr (5, [.int 0, .ref qm, .ref qk, .ref qt, .int 0, .int 0, .int 0, .int 16877, .int 0, .int 0, .int 0, .int 0]))]) [2] (by decide) rfl
      have hFc := va_free (wc := [(qn, .inr (5, [.int 0, .ref qm, .ref qk, .ref qt, .int 0, .int 0, .int 0, .int 16877, .int 0, .int 0, .int 0, .int 0]))]) hD hS hA [2] rfl
      have hkc : 0 ≤ 0 := by decide
      have hks : 0 ≤ 0 := by decide
      refine va_callv (va_runV (C := "DiscMaker$Node") (As := [.int x, .int y, .int z]) (rest := []) ⟨hx, hb, hml, hown, hts⟩ (c_setOwnership l D cB cI cJ cZ cN cF H.size qn qm qk qt x y z) (cwV 3 hts (lg_goodV k931 k932 k933 k118 kc_Node_setOwnership) rfl rfl rfl (by decide +kernel) ⟨Nat.le_of_ble_eq_true rfl, Nat.le_of_ble_eq_true rfl⟩) ⟨fun a U g mk q => by obtain ⟨q0, q1, qP, qK, qN, qD⟩ := q; exact ⟨q0, q1, qP, va_K.moved (u := U) (U := U.calling g mk a) (Vm.Alike.refl U.vm) qK, qN.calling, qD⟩, va_recv hK hP (ci := 5) (q0 := 2) rfl rfl, fun U hU hW => ⟨rfl, by rw [hU], by rw [hU]; exact hPc, va_K.moved hW.alike hK, NN.warm hW hN, hDc.weaken (fun _ _ _ _ => trivial)⟩⟩ rfl rfl hl.1 rfl (lv_room (Nat.le_of_ble_eq_true rfl)) d_DiscMaker_own_36 ⟨hkc, hks⟩) hS (fun q _ h => hFc q h) hFc (fun u t H1 locs ht hvm hp_36 hB hz1 hk1 hS => ?_)
      obtain ⟨hP1, hD1⟩ := hB
      rw [ht] at hP1
      obtain ⟨hP, hD⟩ := va_join (wr := [(h0, .inr (0, [.ref tx, .ref tr, .ref im, .ref mk, .ref rd])), (qa, .inl (cN, 40, .inr (.inr (.inr (.inr (va_up (fun _ => none) 0 (some qn))))))), (tr, .inr (10, [.ref qa, .int 1, .int 1]))]) (w1 := []) hP hD [2] [0, 1, 3] rfl rfl (by decide) (by decide) hk1 hFc hP1 hD1
      clear hPc hDc hFc hP1 hD1 hk1 hz1
      generalize H1 = H at hP hS ⊢
      have hP : va_P D CL [(h0, .inr (0, [.ref tx, .ref tr, .ref im, .ref mk, .ref rd])), (qa, .inl (cN, 40, .inr (.inr (.inr (.inr (va_up (fun _ => none) 0 (some qn))))))), (tr, .inr (10, [.ref qa, .int 1, .int 1]))] H := hP
      have hD : va_D A [(h0, .inr (0, [.ref tx, .ref tr, .ref im, .ref mk, .ref rd])), (qa, .inl (cN, 40, .inr (.inr (.inr (.inr (va_up (fun _ => none) 0 (some qn))))))), (tr, .inr (10, [.ref qa, .int 1, .int 1]))] := hD
      refine lv_iconst (v := 1) hx hb d_DiscMaker_own_39 (by decide) ?_
      have hP9 := hP.sub (ws' := []) [] rfl
      have hD9 := hD.sub (ws' := []) [] (by decide) rfl
      exact W.zret (v := 1) hx hb hr (by first | rfl | decide) (fun t ht hW => ⟨⟨1, (), rfl, by first | exact Or.inl ⟨rfl, rfl, ho⟩ | exact Or.inr ⟨rfl, fun h => ho h.2⟩ | exact Or.inr ⟨rfl, fun h => hn0 h.1⟩, by rw [ht]; exact hP9, hD9⟩, hS.F ht⟩) hS.2.2 d_DiscMaker_own_40
    · skip
      refine lv_if_ne (tgt := 23) hx hb d_DiscMaker_own_18 (by decide) (fun h_18 => absurd (by decide) h_18) (fun h_18 => ?_)
      refine lv_iconst (v := 0) hx hb d_DiscMaker_own_21 (by decide) ?_
      have hP9 := hP.sub (ws' := []) [] rfl
      have hD9 := hD.sub (ws' := []) [] (by decide) rfl
      exact W.zret (v := 0) hx hb hr (by first | rfl | decide) (fun t ht hW => ⟨⟨0, (), rfl, by first | exact Or.inl ⟨rfl, rfl, ho⟩ | exact Or.inr ⟨rfl, fun h => ho h.2⟩ | exact Or.inr ⟨rfl, fun h => hn0 h.1⟩, by rw [ht]; exact hP9, hD9⟩, hS.F ht⟩) hS.2.2 d_DiscMaker_own_22
  · skip
    refine lv_if_eq (tgt := 21) hx hb d_DiscMaker_own_8 (by decide) (fun h_8 => ?_) (fun h_8 => absurd (by decide) h_8)
    refine lv_iconst (v := 0) hx hb d_DiscMaker_own_21 (by decide) ?_
    have hP9 := hP.sub (ws' := []) [] rfl
    have hD9 := hD.sub (ws' := []) [] (by decide) rfl
    exact W.zret (v := 0) hx hb hr (by first | rfl | decide) (fun t ht hW => ⟨⟨0, (), rfl, by first | exact Or.inl ⟨rfl, rfl, ho⟩ | exact Or.inr ⟨rfl, fun h => ho h.2⟩ | exact Or.inr ⟨rfl, fun h => hn0 h.1⟩, by rw [ht]; exact hP9, hD9⟩, hS.F ht⟩) hS.2.2 d_DiscMaker_own_22
