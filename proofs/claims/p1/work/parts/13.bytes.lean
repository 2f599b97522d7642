theorem d_Bytes_putLow_0 : decode b_Bytes_putLow 0 = .ok (.iconst 0, 1) := by decide +kernel
theorem d_Bytes_putLow_1 : decode b_Bytes_putLow 1 = .ok (.istore 4, 2) := by decide +kernel
theorem d_Bytes_putLow_3 : decode b_Bytes_putLow 3 = .ok (.iload 4, 2) := by decide +kernel
theorem d_Bytes_putLow_5 : decode b_Bytes_putLow 5 = .ok (.iload_n 3, 1) := by decide +kernel
theorem d_Bytes_putLow_6 : decode b_Bytes_putLow 6 = .ok (.if_icmp .ge 24, 3) := by decide +kernel
theorem d_Bytes_putLow_9 : decode b_Bytes_putLow 9 = .ok (.aload_n 0, 1) := by decide +kernel
theorem d_Bytes_putLow_10 : decode b_Bytes_putLow 10 = .ok (.iload_n 1, 1) := by decide +kernel
theorem d_Bytes_putLow_11 : decode b_Bytes_putLow 11 = .ok (.iload 4, 2) := by decide +kernel
theorem d_Bytes_putLow_13 : decode b_Bytes_putLow 13 = .ok (.iadd, 1) := by decide +kernel
theorem d_Bytes_putLow_14 : decode b_Bytes_putLow 14 = .ok (.iload_n 2, 1) := by decide +kernel
theorem d_Bytes_putLow_15 : decode b_Bytes_putLow 15 = .ok (.bipush 8, 2) := by decide +kernel
theorem d_Bytes_putLow_17 : decode b_Bytes_putLow 17 = .ok (.iload 4, 2) := by decide +kernel
theorem d_Bytes_putLow_19 : decode b_Bytes_putLow 19 = .ok (.imul, 1) := by decide +kernel
theorem d_Bytes_putLow_20 : decode b_Bytes_putLow 20 = .ok (.ishr, 1) := by decide +kernel
theorem d_Bytes_putLow_21 : decode b_Bytes_putLow 21 = .ok (.invokevirtual 29, 3) := by decide +kernel
theorem d_Bytes_putLow_24 : decode b_Bytes_putLow 24 = .ok (.iinc 4 1, 3) := by decide +kernel
theorem d_Bytes_putLow_27 : decode b_Bytes_putLow 27 = .ok (.goto (-24), 3) := by decide +kernel
theorem d_Bytes_putLow_30 : decode b_Bytes_putLow 30 = .ok (.return_, 1) := by decide +kernel
set_option maxHeartbeats 4000000 in
set_option maxRecDepth 100000 in
theorem c_putLow2 (l : Launch) (D : va_G) (cB cI cJ cZ cN cF : ClassId) (sz : Nat) (h0 q L n : Nat) (f : Nat → Int32) (i v : Int32) (hL : L ≤ n) (hn : n < 2147483648) : Met l y_Bytes_putLow w_Bytes_putLow ({ frames := 1, cells := 0, slots := 0, locals := 22 }) (va_Pc [.ref h0, .int i, .int v, .int 2] (fun U => U.heap.size = sz ∧ va_P D CL [(h0, .inr (1, [.ref q, .int (nI L)])), (q, .inl (cB, n, .inl f))] U.heap ∧ va_K D CL (TY cB cI cJ cZ cN cF) U ∧ NN U ∧ va_D (fun _ => True) [(h0, .inr (1, [.ref q, .int (nI L)])), (q, .inl (cB, n, .inl f))])) (va_Qv (fun (u : Nat → Int32) => True) (fun (u : Nat → Int32) (t : State) => match u with | g => va_P D CL [(h0, .inr (1, [.ref q, .int (nI L)])), (q, .inl (cB, n, .inl g))] t.heap ∧ va_D (va_A [(h0, .inr (1, [.ref q, .int (nI L)])), (q, .inl (cB, n, .inl f))] sz) [(h0, .inr (1, [.ref q, .int (nI L)])), (q, .inl (cB, n, .inl g))]) (va_A [(h0, .inr (1, [.ref q, .int (nI L)])), (q, .inl (cB, n, .inl f))] sz)) 0 0 (va_A [(h0, .inr (1, [.ref q, .int (nI L)])), (q, .inl (cB, n, .inl f))] sz) := by
  refine Met.ofW (cc := b_Bytes_putLow) (maxL := 5) (ret := none) (by decide) rfl ?_
  intro p e s m args below meth c s₁ B hml hv
  obtain ⟨rfl, hsz, hP, hK, hN, hD0⟩ := hv
  have hx := B.exec
  have hb := B.bytes
  have hr := B.returns
  have hts := atoms_spec (ws := w_Bytes_putLow) B.pre
  have ht9 := fun (w : Cond) (h : w ∈ lw_g) => hts w (List.mem_cons_of_mem _ h)
  have hown : s.vm.findClass "DiscMaker$Bytes" = some m.cls := findClass_of_methodNamed B.named
  have hlocks := B.notSynchronized
  subst hsz
  have hD := hD0.self (sz := s.heap.size)
  generalize hAe : va_A [(h0, .inr (1, [.ref q, .int (nI L)])), (q, .inl (cB, n, .inl f))] s.heap.size = A at hD ⊢
  have hA : ∀ q : Nat, s.heap.size ≤ q → A q := fun q h => by rw [← hAe]; exact Or.inr h
  have hS : va_S A s.heap s.heap [] := va_S.rf
  have hP : va_P D CL [(h0, .inr (1, [.ref q, .int (nI L)])), (q, .inl (cB, n, .inl f))] s.heap := hP
  have hl := lv_entry [.ref h0, .int i, .int v, .int 2] (n := 5) (Nat.le_of_ble_eq_true rfl)
  rw [lg_entry_eq]
  generalize (lg_sl [.ref h0, .int i, .int v, .int 2] ++ List.replicate (5 - (lg_sl [.ref h0, .int i, .int v, .int 2]).length) Slot.unset).toArray = ls at hl ⊢
  have hl : lv_has ls 5 [(0, .ref h0), (1, .int i), (2, .int v), (3, .int 2)] := hl
  refine lv_iconst (v := 0) hx hb d_Bytes_putLow_0 (by decide) ?_
  refine lv_istore hx hb d_Bytes_putLow_1 hl (by decide) rfl (fun ls hl => ?_)
  have hl : lv_has ls 5 [(4, .int 0), (0, .ref h0), (1, .int i), (2, .int v), (3, .int 2)] := hl
  refine lv_iload hx hb d_Bytes_putLow_3 (lv_at hl 0 rfl) ?_
  refine lv_iload_n hx hb d_Bytes_putLow_5 rfl (lv_at hl 4 rfl) ?_
  refine lv_icmp_ge (tgt := 30) hx hb d_Bytes_putLow_6 (by decide) (fun h_6 => absurd h_6 (by decide)) (fun h_6 => ?_)
  refine lv_aload_n hx hb d_Bytes_putLow_9 rfl (lv_at hl 1 rfl) ?_
  refine lv_iload_n hx hb d_Bytes_putLow_10 rfl (lv_at hl 2 rfl) ?_
  refine lv_iload hx hb d_Bytes_putLow_11 (lv_at hl 0 rfl) ?_
  refine lv_iadd hx hb d_Bytes_putLow_13 ?_
  refine lv_iload_n hx hb d_Bytes_putLow_14 rfl (lv_at hl 3 rfl) ?_
  refine lv_bipush (v := 8) hx hb d_Bytes_putLow_15 (by decide) ?_
  refine lv_iload hx hb d_Bytes_putLow_17 (lv_at hl 0 rfl) ?_
  refine lv_imul hx hb d_Bytes_putLow_19 ?_
  refine W.eq (g2 := F0 m 20 ls [.int 0, .int v, .int (i + 0), .ref h0]) (by rw [show ((8 * 0) : Int32) = 0 from by decide]) ?_
  refine lv_ishr hx hb d_Bytes_putLow_20 ?_
  have hPc := hP.sub (ws' := [(h0, .inr (1, [.ref q, .int (nI L)])), (q, .inl (cB, n, .inl f))]) [0, 1] rfl
  have hDc := hD.sub (ws' := [(h0, .inr (1, [.ref q, .int (nI L)])), (q, .inl (cB, n, .inl f))]) [0, 1] (by decide) rfl
  have hFc := va_free (wc := [(h0, .inr (1, [.ref q, .int (nI L)])), (q, .inl (cB, n, .inl f))]) hD hS hA [0, 1] rfl
  have hkc : 0 ≤ 0 := by decide
  have hks : 0 ≤ 0 := by decide
  refine va_callv (va_runV (C := "DiscMaker$Bytes") (As := [.int (i + 0), .int (v >>> (0 &&& 31))]) (rest := []) ⟨hx, hb, hml, hown, hts⟩ (c_put l D cB cI cJ cZ cN cF s.heap.size h0 q L n f (i + 0) (v >>> (0 &&& 31)) hL hn) (cwV 2 hts (lg_goodV k988 k912 k913 k119 kc_Bytes_put) rfl rfl rfl (by decide +kernel) ⟨Nat.le_of_ble_eq_true rfl, Nat.le_of_ble_eq_true rfl⟩) ⟨fun a U g mk q => by obtain ⟨q0, q1, qP, qK, qN, qD⟩ := q; exact ⟨q0, q1, qP, va_K.moved (u := U) (U := U.calling g mk a) (Vm.Alike.refl U.vm) qK, qN.calling, qD⟩, va_recv hK hP (ci := 1) (q0 := 0) rfl rfl, fun U hU hW => ⟨rfl, by rw [hU], by rw [hU]; exact hPc, va_K.moved hW.alike hK, NN.warm hW hN, hDc.weaken (fun _ _ _ _ => trivial)⟩⟩ rfl rfl hl.1 rfl (lv_room (Nat.le_of_ble_eq_true rfl)) d_Bytes_putLow_21 ⟨hkc, hks⟩) hS (fun q _ h => hFc q h) hFc (fun u t H1 locs ht hvm hp_21 hB hz1 hk1 hS => ?_)
  obtain ⟨g21_15, rfl⟩ : ∃ z, z = u := ⟨_, rfl⟩
  obtain ⟨hP1, hD1⟩ := hB
  rw [ht] at hP1
  obtain ⟨hP, hD⟩ := va_join (wr := []) (w1 := [(h0, .inr (1, [.ref q, .int (nI L)])), (q, .inl (cB, n, .inl g21_15))]) hP hD [0, 1] [] rfl rfl (by decide) (by decide) hk1 hFc hP1 hD1
  clear hPc hDc hFc hP1 hD1 hk1 hz1
  generalize H1 = H at hP hS ⊢
  have hP : va_P D CL [(h0, .inr (1, [.ref q, .int (nI L)])), (q, .inl (cB, n, .inl g21_15))] H := hP
  have hD : va_D A [(h0, .inr (1, [.ref q, .int (nI L)])), (q, .inl (cB, n, .inl g21_15))] := hD
  refine lv_iinc (v := 1) hx hb d_Bytes_putLow_24 hl (k := 0) rfl (by decide) (by decide) rfl (fun ls hl => ?_)
  have hl : lv_has ls 5 [(4, .int 1), (0, .ref h0), (1, .int i), (2, .int v), (3, .int 2)] := hl
  refine lv_goto (tgt := 3) hx hb d_Bytes_putLow_27 (by decide) ?_
  refine lv_iload hx hb d_Bytes_putLow_3 (lv_at hl 0 rfl) ?_
  refine lv_iload_n hx hb d_Bytes_putLow_5 rfl (lv_at hl 4 rfl) ?_
  refine lv_icmp_ge (tgt := 30) hx hb d_Bytes_putLow_6 (by decide) (fun h_6 => absurd h_6 (by decide)) (fun h_6 => ?_)
  refine lv_aload_n hx hb d_Bytes_putLow_9 rfl (lv_at hl 1 rfl) ?_
  refine lv_iload_n hx hb d_Bytes_putLow_10 rfl (lv_at hl 2 rfl) ?_
  refine lv_iload hx hb d_Bytes_putLow_11 (lv_at hl 0 rfl) ?_
  refine lv_iadd hx hb d_Bytes_putLow_13 ?_
  refine lv_iload_n hx hb d_Bytes_putLow_14 rfl (lv_at hl 3 rfl) ?_
  refine lv_bipush (v := 8) hx hb d_Bytes_putLow_15 (by decide) ?_
  refine lv_iload hx hb d_Bytes_putLow_17 (lv_at hl 0 rfl) ?_
  refine lv_imul hx hb d_Bytes_putLow_19 ?_
  refine W.eq (g2 := F0 m 20 ls [.int 8, .int v, .int (i + 1), .ref h0]) (by rw [show ((8 * 1) : Int32) = 8 from by decide]) ?_
  refine lv_ishr hx hb d_Bytes_putLow_20 ?_
  have hPc := hP.sub (ws' := [(h0, .inr (1, [.ref q, .int (nI L)])), (q, .inl (cB, n, .inl g21_15))]) [0, 1] rfl
  have hDc := hD.sub (ws' := [(h0, .inr (1, [.ref q, .int (nI L)])), (q, .inl (cB, n, .inl g21_15))]) [0, 1] (by decide) rfl
  have hFc := va_free (wc := [(h0, .inr (1, [.ref q, .int (nI L)])), (q, .inl (cB, n, .inl g21_15))]) hD hS hA [0, 1] rfl
  have hkc : 0 ≤ 0 := by decide
  have hks : 0 ≤ 0 := by decide
  refine va_callv (va_runV (C := "DiscMaker$Bytes") (As := [.int (i + 1), .int (v >>> (8 &&& 31))]) (rest := []) ⟨hx, hb, hml, hown, hts⟩ (c_put l D cB cI cJ cZ cN cF H.size h0 q L n g21_15 (i + 1) (v >>> (8 &&& 31)) hL hn) (cwV 2 hts (lg_goodV k988 k912 k913 k119 kc_Bytes_put) rfl rfl rfl (by decide +kernel) ⟨Nat.le_of_ble_eq_true rfl, Nat.le_of_ble_eq_true rfl⟩) ⟨fun a U g mk q => by obtain ⟨q0, q1, qP, qK, qN, qD⟩ := q; exact ⟨q0, q1, qP, va_K.moved (u := U) (U := U.calling g mk a) (Vm.Alike.refl U.vm) qK, qN.calling, qD⟩, va_recv hK hP (ci := 1) (q0 := 0) rfl rfl, fun U hU hW => ⟨rfl, by rw [hU], by rw [hU]; exact hPc, va_K.moved hW.alike hK, NN.warm hW hN, hDc.weaken (fun _ _ _ _ => trivial)⟩⟩ rfl rfl hl.1 rfl (lv_room (Nat.le_of_ble_eq_true rfl)) d_Bytes_putLow_21 ⟨hkc, hks⟩) hS (fun q _ h => hFc q h) hFc (fun u t H1 locs ht hvm hp_21 hB hz1 hk1 hS => ?_)
  obtain ⟨g21_30, rfl⟩ : ∃ z, z = u := ⟨_, rfl⟩
  obtain ⟨hP1, hD1⟩ := hB
  rw [ht] at hP1
  obtain ⟨hP, hD⟩ := va_join (wr := []) (w1 := [(h0, .inr (1, [.ref q, .int (nI L)])), (q, .inl (cB, n, .inl g21_30))]) hP hD [0, 1] [] rfl rfl (by decide) (by decide) hk1 hFc hP1 hD1
  clear hPc hDc hFc hP1 hD1 hk1 hz1
  generalize H1 = H at hP hS ⊢
  have hP : va_P D CL [(h0, .inr (1, [.ref q, .int (nI L)])), (q, .inl (cB, n, .inl g21_30))] H := hP
  have hD : va_D A [(h0, .inr (1, [.ref q, .int (nI L)])), (q, .inl (cB, n, .inl g21_30))] := hD
  refine lv_iinc (v := 2) hx hb d_Bytes_putLow_24 hl (k := 0) rfl (by decide) (by decide) rfl (fun ls hl => ?_)
  have hl : lv_has ls 5 [(4, .int 2), (0, .ref h0), (1, .int i), (2, .int v), (3, .int 2)] := hl
  refine lv_goto (tgt := 3) hx hb d_Bytes_putLow_27 (by decide) ?_
  refine lv_iload hx hb d_Bytes_putLow_3 (lv_at hl 0 rfl) ?_
  refine lv_iload_n hx hb d_Bytes_putLow_5 rfl (lv_at hl 4 rfl) ?_
  refine lv_icmp_ge (tgt := 30) hx hb d_Bytes_putLow_6 (by decide) (fun h_6 => ?_) (fun h_6 => absurd (by decide) h_6)
  have hP9 := hP.sub (ws' := [(h0, .inr (1, [.ref q, .int (nI L)])), (q, .inl (cB, n, .inl g21_30))]) [0, 1] rfl
  have hD9 := hD.sub (ws' := [(h0, .inr (1, [.ref q, .int (nI L)])), (q, .inl (cB, n, .inl g21_30))]) [0, 1] (by decide) rfl
  exact W.vret hx hb hr (fun t ht hW => ⟨⟨g21_30, rfl, trivial, by rw [ht]; exact hP9, hD9⟩, hS.F ht⟩) hS.2.2 d_Bytes_putLow_30

set_option maxHeartbeats 4000000 in
set_option maxRecDepth 100000 in
theorem c_putLow4 (l : Launch) (D : va_G) (cB cI cJ cZ cN cF : ClassId) (sz : Nat) (h0 q L n : Nat) (f : Nat → Int32) (i v : Int32) (hL : L ≤ n) (hn : n < 2147483648) : Met l y_Bytes_putLow w_Bytes_putLow ({ frames := 1, cells := 0, slots := 0, locals := 22 }) (va_Pc [.ref h0, .int i, .int v, .int 4] (fun U => U.heap.size = sz ∧ va_P D CL [(h0, .inr (1, [.ref q, .int (nI L)])), (q, .inl (cB, n, .inl f))] U.heap ∧ va_K D CL (TY cB cI cJ cZ cN cF) U ∧ NN U ∧ va_D (fun _ => True) [(h0, .inr (1, [.ref q, .int (nI L)])), (q, .inl (cB, n, .inl f))])) (va_Qv (fun (u : Nat → Int32) => True) (fun (u : Nat → Int32) (t : State) => match u with | g => va_P D CL [(h0, .inr (1, [.ref q, .int (nI L)])), (q, .inl (cB, n, .inl g))] t.heap ∧ va_D (va_A [(h0, .inr (1, [.ref q, .int (nI L)])), (q, .inl (cB, n, .inl f))] sz) [(h0, .inr (1, [.ref q, .int (nI L)])), (q, .inl (cB, n, .inl g))]) (va_A [(h0, .inr (1, [.ref q, .int (nI L)])), (q, .inl (cB, n, .inl f))] sz)) 0 0 (va_A [(h0, .inr (1, [.ref q, .int (nI L)])), (q, .inl (cB, n, .inl f))] sz) := by
  refine Met.ofW (cc := b_Bytes_putLow) (maxL := 5) (ret := none) (by decide) rfl ?_
  intro p e s m args below meth c s₁ B hml hv
  obtain ⟨rfl, hsz, hP, hK, hN, hD0⟩ := hv
  have hx := B.exec
  have hb := B.bytes
  have hr := B.returns
  have hts := atoms_spec (ws := w_Bytes_putLow) B.pre
  have ht9 := fun (w : Cond) (h : w ∈ lw_g) => hts w (List.mem_cons_of_mem _ h)
  have hown : s.vm.findClass "DiscMaker$Bytes" = some m.cls := findClass_of_methodNamed B.named
  have hlocks := B.notSynchronized
  subst hsz
  have hD := hD0.self (sz := s.heap.size)
  generalize hAe : va_A [(h0, .inr (1, [.ref q, .int (nI L)])), (q, .inl (cB, n, .inl f))] s.heap.size = A at hD ⊢
  have hA : ∀ q : Nat, s.heap.size ≤ q → A q := fun q h => by rw [← hAe]; exact Or.inr h
  have hS : va_S A s.heap s.heap [] := va_S.rf
  have hP : va_P D CL [(h0, .inr (1, [.ref q, .int (nI L)])), (q, .inl (cB, n, .inl f))] s.heap := hP
  have hl := lv_entry [.ref h0, .int i, .int v, .int 4] (n := 5) (Nat.le_of_ble_eq_true rfl)
  rw [lg_entry_eq]
  generalize (lg_sl [.ref h0, .int i, .int v, .int 4] ++ List.replicate (5 - (lg_sl [.ref h0, .int i, .int v, .int 4]).length) Slot.unset).toArray = ls at hl ⊢
  have hl : lv_has ls 5 [(0, .ref h0), (1, .int i), (2, .int v), (3, .int 4)] := hl
  refine lv_iconst (v := 0) hx hb d_Bytes_putLow_0 (by decide) ?_
  refine lv_istore hx hb d_Bytes_putLow_1 hl (by decide) rfl (fun ls hl => ?_)
  have hl : lv_has ls 5 [(4, .int 0), (0, .ref h0), (1, .int i), (2, .int v), (3, .int 4)] := hl
  refine lv_iload hx hb d_Bytes_putLow_3 (lv_at hl 0 rfl) ?_
  refine lv_iload_n hx hb d_Bytes_putLow_5 rfl (lv_at hl 4 rfl) ?_
  refine lv_icmp_ge (tgt := 30) hx hb d_Bytes_putLow_6 (by decide) (fun h_6 => absurd h_6 (by decide)) (fun h_6 => ?_)
  refine lv_aload_n hx hb d_Bytes_putLow_9 rfl (lv_at hl 1 rfl) ?_
  refine lv_iload_n hx hb d_Bytes_putLow_10 rfl (lv_at hl 2 rfl) ?_
  refine lv_iload hx hb d_Bytes_putLow_11 (lv_at hl 0 rfl) ?_
  refine lv_iadd hx hb d_Bytes_putLow_13 ?_
  refine lv_iload_n hx hb d_Bytes_putLow_14 rfl (lv_at hl 3 rfl) ?_
  refine lv_bipush (v := 8) hx hb d_Bytes_putLow_15 (by decide) ?_
  refine lv_iload hx hb d_Bytes_putLow_17 (lv_at hl 0 rfl) ?_
  refine lv_imul hx hb d_Bytes_putLow_19 ?_
  refine W.eq (g2 := F0 m 20 ls [.int 0, .int v, .int (i + 0), .ref h0]) (by rw [show ((8 * 0) : Int32) = 0 from by decide]) ?_
  refine lv_ishr hx hb d_Bytes_putLow_20 ?_
  have hPc := hP.sub (ws' := [(h0, .inr (1, [.ref q, .int (nI L)])), (q, .inl (cB, n, .inl f))]) [0, 1] rfl
  have hDc := hD.sub (ws' := [(h0, .inr (1, [.ref q, .int (nI L)])), (q, .inl (cB, n, .inl f))]) [0, 1] (by decide) rfl
  have hFc := va_free (wc := [(h0, .inr (1, [.ref q, .int (nI L)])), (q, .inl (cB, n, .inl f))]) hD hS hA [0, 1] rfl
  have hkc : 0 ≤ 0 := by decide
  have hks : 0 ≤ 0 := by decide
  refine va_callv (va_runV (C := "DiscMaker$Bytes") (As := [.int (i + 0), .int (v >>> (0 &&& 31))]) (rest := []) ⟨hx, hb, hml, hown, hts⟩ (c_put l D cB cI cJ cZ cN cF s.heap.size h0 q L n f (i + 0) (v >>> (0 &&& 31)) hL hn) (cwV 2 hts (lg_goodV k988 k912 k913 k119 kc_Bytes_put) rfl rfl rfl (by decide +kernel) ⟨Nat.le_of_ble_eq_true rfl, Nat.le_of_ble_eq_true rfl⟩) ⟨fun a U g mk q => by obtain ⟨q0, q1, qP, qK, qN, qD⟩ := q; exact ⟨q0, q1, qP, va_K.moved (u := U) (U := U.calling g mk a) (Vm.Alike.refl U.vm) qK, qN.calling, qD⟩, va_recv hK hP (ci := 1) (q0 := 0) rfl rfl, fun U hU hW => ⟨rfl, by rw [hU], by rw [hU]; exact hPc, va_K.moved hW.alike hK, NN.warm hW hN, hDc.weaken (fun _ _ _ _ => trivial)⟩⟩ rfl rfl hl.1 rfl (lv_room (Nat.le_of_ble_eq_true rfl)) d_Bytes_putLow_21 ⟨hkc, hks⟩) hS (fun q _ h => hFc q h) hFc (fun u t H1 locs ht hvm hp_21 hB hz1 hk1 hS => ?_)
  obtain ⟨g21_15, rfl⟩ : ∃ z, z = u := ⟨_, rfl⟩
  obtain ⟨hP1, hD1⟩ := hB
  rw [ht] at hP1
  obtain ⟨hP, hD⟩ := va_join (wr := []) (w1 := [(h0, .inr (1, [.ref q, .int (nI L)])), (q, .inl (cB, n, .inl g21_15))]) hP hD [0, 1] [] rfl rfl (by decide) (by decide) hk1 hFc hP1 hD1
  clear hPc hDc hFc hP1 hD1 hk1 hz1
  generalize H1 = H at hP hS ⊢
  have hP : va_P D CL [(h0, .inr (1, [.ref q, .int (nI L)])), (q, .inl (cB, n, .inl g21_15))] H := hP
  have hD : va_D A [(h0, .inr (1, [.ref q, .int (nI L)])), (q, .inl (cB, n, .inl g21_15))] := hD
  refine lv_iinc (v := 1) hx hb d_Bytes_putLow_24 hl (k := 0) rfl (by decide) (by decide) rfl (fun ls hl => ?_)
  have hl : lv_has ls 5 [(4, .int 1), (0, .ref h0), (1, .int i), (2, .int v), (3, .int 4)] := hl
  refine lv_goto (tgt := 3) hx hb d_Bytes_putLow_27 (by decide) ?_
  refine lv_iload hx hb d_Bytes_putLow_3 (lv_at hl 0 rfl) ?_
  refine lv_iload_n hx hb d_Bytes_putLow_5 rfl (lv_at hl 4 rfl) ?_
  refine lv_icmp_ge (tgt := 30) hx hb d_Bytes_putLow_6 (by decide) (fun h_6 => absurd h_6 (by decide)) (fun h_6 => ?_)
  refine lv_aload_n hx hb d_Bytes_putLow_9 rfl (lv_at hl 1 rfl) ?_
  refine lv_iload_n hx hb d_Bytes_putLow_10 rfl (lv_at hl 2 rfl) ?_
  refine lv_iload hx hb d_Bytes_putLow_11 (lv_at hl 0 rfl) ?_
  refine lv_iadd hx hb d_Bytes_putLow_13 ?_
  refine lv_iload_n hx hb d_Bytes_putLow_14 rfl (lv_at hl 3 rfl) ?_
  refine lv_bipush (v := 8) hx hb d_Bytes_putLow_15 (by decide) ?_
  refine lv_iload hx hb d_Bytes_putLow_17 (lv_at hl 0 rfl) ?_
  refine lv_imul hx hb d_Bytes_putLow_19 ?_
  refine W.eq (g2 := F0 m 20 ls [.int 8, .int v, .int (i + 1), .ref h0]) (by rw [show ((8 * 1) : Int32) = 8 from by decide]) ?_
  refine lv_ishr hx hb d_Bytes_putLow_20 ?_
  have hPc := hP.sub (ws' := [(h0, .inr (1, [.ref q, .int (nI L)])), (q, .inl (cB, n, .inl g21_15))]) [0, 1] rfl
  have hDc := hD.sub (ws' := [(h0, .inr (1, [.ref q, .int (nI L)])), (q, .inl (cB, n, .inl g21_15))]) [0, 1] (by decide) rfl
  have hFc := va_free (wc := [(h0, .inr (1, [.ref q, .int (nI L)])), (q, .inl (cB, n, .inl g21_15))]) hD hS hA [0, 1] rfl
  have hkc : 0 ≤ 0 := by decide
  have hks : 0 ≤ 0 := by decide
  refine va_callv (va_runV (C := "DiscMaker$Bytes") (As := [.int (i + 1), .int (v >>> (8 &&& 31))]) (rest := []) ⟨hx, hb, hml, hown, hts⟩ (c_put l D cB cI cJ cZ cN cF H.size h0 q L n g21_15 (i + 1) (v >>> (8 &&& 31)) hL hn) (cwV 2 hts (lg_goodV k988 k912 k913 k119 kc_Bytes_put) rfl rfl rfl (by decide +kernel) ⟨Nat.le_of_ble_eq_true rfl, Nat.le_of_ble_eq_true rfl⟩) ⟨fun a U g mk q => by obtain ⟨q0, q1, qP, qK, qN, qD⟩ := q; exact ⟨q0, q1, qP, va_K.moved (u := U) (U := U.calling g mk a) (Vm.Alike.refl U.vm) qK, qN.calling, qD⟩, va_recv hK hP (ci := 1) (q0 := 0) rfl rfl, fun U hU hW => ⟨rfl, by rw [hU], by rw [hU]; exact hPc, va_K.moved hW.alike hK, NN.warm hW hN, hDc.weaken (fun _ _ _ _ => trivial)⟩⟩ rfl rfl hl.1 rfl (lv_room (Nat.le_of_ble_eq_true rfl)) d_Bytes_putLow_21 ⟨hkc, hks⟩) hS (fun q _ h => hFc q h) hFc (fun u t H1 locs ht hvm hp_21 hB hz1 hk1 hS => ?_)
  obtain ⟨g21_30, rfl⟩ : ∃ z, z = u := ⟨_, rfl⟩
  obtain ⟨hP1, hD1⟩ := hB
  rw [ht] at hP1
  obtain ⟨hP, hD⟩ := va_join (wr := []) (w1 := [(h0, .inr (1, [.ref q, .int (nI L)])), (q, .inl (cB, n, .inl g21_30))]) hP hD [0, 1] [] rfl rfl (by decide) (by decide) hk1 hFc hP1 hD1
  clear hPc hDc hFc hP1 hD1 hk1 hz1
  generalize H1 = H at hP hS ⊢
  have hP : va_P D CL [(h0, .inr (1, [.ref q, .int (nI L)])), (q, .inl (cB, n, .inl g21_30))] H := hP
  have hD : va_D A [(h0, .inr (1, [.ref q, .int (nI L)])), (q, .inl (cB, n, .inl g21_30))] := hD
  refine lv_iinc (v := 2) hx hb d_Bytes_putLow_24 hl (k := 0) rfl (by decide) (by decide) rfl (fun ls hl => ?_)
  have hl : lv_has ls 5 [(4, .int 2), (0, .ref h0), (1, .int i), (2, .int v), (3, .int 4)] := hl
  refine lv_goto (tgt := 3) hx hb d_Bytes_putLow_27 (by decide) ?_
  refine lv_iload hx hb d_Bytes_putLow_3 (lv_at hl 0 rfl) ?_
  refine lv_iload_n hx hb d_Bytes_putLow_5 rfl (lv_at hl 4 rfl) ?_
  refine lv_icmp_ge (tgt := 30) hx hb d_Bytes_putLow_6 (by decide) (fun h_6 => absurd h_6 (by decide)) (fun h_6 => ?_)
  refine lv_aload_n hx hb d_Bytes_putLow_9 rfl (lv_at hl 1 rfl) ?_
  refine lv_iload_n hx hb d_Bytes_putLow_10 rfl (lv_at hl 2 rfl) ?_
  refine lv_iload hx hb d_Bytes_putLow_11 (lv_at hl 0 rfl) ?_
  refine lv_iadd hx hb d_Bytes_putLow_13 ?_
  refine lv_iload_n hx hb d_Bytes_putLow_14 rfl (lv_at hl 3 rfl) ?_
  refine lv_bipush (v := 8) hx hb d_Bytes_putLow_15 (by decide) ?_
  refine lv_iload hx hb d_Bytes_putLow_17 (lv_at hl 0 rfl) ?_
  refine lv_imul hx hb d_Bytes_putLow_19 ?_
  refine W.eq (g2 := F0 m 20 ls [.int 16, .int v, .int (i + 2), .ref h0]) (by rw [show ((8 * 2) : Int32) = 16 from by decide]) ?_
  refine lv_ishr hx hb d_Bytes_putLow_20 ?_
  have hPc := hP.sub (ws' := [(h0, .inr (1, [.ref q, .int (nI L)])), (q, .inl (cB, n, .inl g21_30))]) [0, 1] rfl
  have hDc := hD.sub (ws' := [(h0, .inr (1, [.ref q, .int (nI L)])), (q, .inl (cB, n, .inl g21_30))]) [0, 1] (by decide) rfl
  have hFc := va_free (wc := [(h0, .inr (1, [.ref q, .int (nI L)])), (q, .inl (cB, n, .inl g21_30))]) hD hS hA [0, 1] rfl
  have hkc : 0 ≤ 0 := by decide
  have hks : 0 ≤ 0 := by decide
  refine va_callv (va_runV (C := "DiscMaker$Bytes") (As := [.int (i + 2), .int (v >>> (16 &&& 31))]) (rest := []) ⟨hx, hb, hml, hown, hts⟩ (c_put l D cB cI cJ cZ cN cF H.size h0 q L n g21_30 (i + 2) (v >>> (16 &&& 31)) hL hn) (cwV 2 hts (lg_goodV k988 k912 k913 k119 kc_Bytes_put) rfl rfl rfl (by decide +kernel) ⟨Nat.le_of_ble_eq_true rfl, Nat.le_of_ble_eq_true rfl⟩) ⟨fun a U g mk q => by obtain ⟨q0, q1, qP, qK, qN, qD⟩ := q; exact ⟨q0, q1, qP, va_K.moved (u := U) (U := U.calling g mk a) (Vm.Alike.refl U.vm) qK, qN.calling, qD⟩, va_recv hK hP (ci := 1) (q0 := 0) rfl rfl, fun U hU hW => ⟨rfl, by rw [hU], by rw [hU]; exact hPc, va_K.moved hW.alike hK, NN.warm hW hN, hDc.weaken (fun _ _ _ _ => trivial)⟩⟩ rfl rfl hl.1 rfl (lv_room (Nat.le_of_ble_eq_true rfl)) d_Bytes_putLow_21 ⟨hkc, hks⟩) hS (fun q _ h => hFc q h) hFc (fun u t H1 locs ht hvm hp_21 hB hz1 hk1 hS => ?_)
  obtain ⟨g21_45, rfl⟩ : ∃ z, z = u := ⟨_, rfl⟩
  obtain ⟨hP1, hD1⟩ := hB
  rw [ht] at hP1
  obtain ⟨hP, hD⟩ := va_join (wr := []) (w1 := [(h0, .inr (1, [.ref q, .int (nI L)])), (q, .inl (cB, n, .inl g21_45))]) hP hD [0, 1] [] rfl rfl (by decide) (by decide) hk1 hFc hP1 hD1
  clear hPc hDc hFc hP1 hD1 hk1 hz1
  generalize H1 = H at hP hS ⊢
  have hP : va_P D CL [(h0, .inr (1, [.ref q, .int (nI L)])), (q, .inl (cB, n, .inl g21_45))] H := hP
  have hD : va_D A [(h0, .inr (1, [.ref q, .int (nI L)])), (q, .inl (cB, n, .inl g21_45))] := hD
  refine lv_iinc (v := 3) hx hb d_Bytes_putLow_24 hl (k := 0) rfl (by decide) (by decide) rfl (fun ls hl => ?_)
  have hl : lv_has ls 5 [(4, .int 3), (0, .ref h0), (1, .int i), (2, .int v), (3, .int 4)] := hl
  refine lv_goto (tgt := 3) hx hb d_Bytes_putLow_27 (by decide) ?_
  refine lv_iload hx hb d_Bytes_putLow_3 (lv_at hl 0 rfl) ?_
  refine lv_iload_n hx hb d_Bytes_putLow_5 rfl (lv_at hl 4 rfl) ?_
  refine lv_icmp_ge (tgt := 30) hx hb d_Bytes_putLow_6 (by decide) (fun h_6 => absurd h_6 (by decide)) (fun h_6 => ?_)
  refine lv_aload_n hx hb d_Bytes_putLow_9 rfl (lv_at hl 1 rfl) ?_
  refine lv_iload_n hx hb d_Bytes_putLow_10 rfl (lv_at hl 2 rfl) ?_
  refine lv_iload hx hb d_Bytes_putLow_11 (lv_at hl 0 rfl) ?_
  refine lv_iadd hx hb d_Bytes_putLow_13 ?_
  refine lv_iload_n hx hb d_Bytes_putLow_14 rfl (lv_at hl 3 rfl) ?_
  refine lv_bipush (v := 8) hx hb d_Bytes_putLow_15 (by decide) ?_
  refine lv_iload hx hb d_Bytes_putLow_17 (lv_at hl 0 rfl) ?_
  refine lv_imul hx hb d_Bytes_putLow_19 ?_
  refine W.eq (g2 := F0 m 20 ls [.int 24, .int v, .int (i + 3), .ref h0]) (by rw [show ((8 * 3) : Int32) = 24 from by decide]) ?_
  refine lv_ishr hx hb d_Bytes_putLow_20 ?_
  have hPc := hP.sub (ws' := [(h0, .inr (1, [.ref q, .int (nI L)])), (q, .inl (cB, n, .inl g21_45))]) [0, 1] rfl
  have hDc := hD.sub (ws' := [(h0, .inr (1, [.ref q, .int (nI L)])), (q, .inl (cB, n, .inl g21_45))]) [0, 1] (by decide) rfl
  have hFc := va_free (wc := [(h0, .inr (1, [.ref q, .int (nI L)])), (q, .inl (cB, n, .inl g21_45))]) hD hS hA [0, 1] rfl
  have hkc : 0 ≤ 0 := by decide
  have hks : 0 ≤ 0 := by decide
  refine va_callv (va_runV (C := "DiscMaker$Bytes") (As := [.int (i + 3), .int (v >>> (24 &&& 31))]) (rest := []) ⟨hx, hb, hml, hown, hts⟩ (c_put l D cB cI cJ cZ cN cF H.size h0 q L n g21_45 (i + 3) (v >>> (24 &&& 31)) hL hn) (cwV 2 hts (lg_goodV k988 k912 k913 k119 kc_Bytes_put) rfl rfl rfl (by decide +kernel) ⟨Nat.le_of_ble_eq_true rfl, Nat.le_of_ble_eq_true rfl⟩) ⟨fun a U g mk q => by obtain ⟨q0, q1, qP, qK, qN, qD⟩ := q; exact ⟨q0, q1, qP, va_K.moved (u := U) (U := U.calling g mk a) (Vm.Alike.refl U.vm) qK, qN.calling, qD⟩, va_recv hK hP (ci := 1) (q0 := 0) rfl rfl, fun U hU hW => ⟨rfl, by rw [hU], by rw [hU]; exact hPc, va_K.moved hW.alike hK, NN.warm hW hN, hDc.weaken (fun _ _ _ _ => trivial)⟩⟩ rfl rfl hl.1 rfl (lv_room (Nat.le_of_ble_eq_true rfl)) d_Bytes_putLow_21 ⟨hkc, hks⟩) hS (fun q _ h => hFc q h) hFc (fun u t H1 locs ht hvm hp_21 hB hz1 hk1 hS => ?_)
  obtain ⟨g21_60, rfl⟩ : ∃ z, z = u := ⟨_, rfl⟩
  obtain ⟨hP1, hD1⟩ := hB
  rw [ht] at hP1
  obtain ⟨hP, hD⟩ := va_join (wr := []) (w1 := [(h0, .inr (1, [.ref q, .int (nI L)])), (q, .inl (cB, n, .inl g21_60))]) hP hD [0, 1] [] rfl rfl (by decide) (by decide) hk1 hFc hP1 hD1
  clear hPc hDc hFc hP1 hD1 hk1 hz1
  generalize H1 = H at hP hS ⊢
  have hP : va_P D CL [(h0, .inr (1, [.ref q, .int (nI L)])), (q, .inl (cB, n, .inl g21_60))] H := hP
  have hD : va_D A [(h0, .inr (1, [.ref q, .int (nI L)])), (q, .inl (cB, n, .inl g21_60))] := hD
  refine lv_iinc (v := 4) hx hb d_Bytes_putLow_24 hl (k := 0) rfl (by decide) (by decide) rfl (fun ls hl => ?_)
  have hl : lv_has ls 5 [(4, .int 4), (0, .ref h0), (1, .int i), (2, .int v), (3, .int 4)] := hl
  refine lv_goto (tgt := 3) hx hb d_Bytes_putLow_27 (by decide) ?_
  refine lv_iload hx hb d_Bytes_putLow_3 (lv_at hl 0 rfl) ?_
  refine lv_iload_n hx hb d_Bytes_putLow_5 rfl (lv_at hl 4 rfl) ?_
  refine lv_icmp_ge (tgt := 30) hx hb d_Bytes_putLow_6 (by decide) (fun h_6 => ?_) (fun h_6 => absurd (by decide) h_6)
  have hP9 := hP.sub (ws' := [(h0, .inr (1, [.ref q, .int (nI L)])), (q, .inl (cB, n, .inl g21_60))]) [0, 1] rfl
  have hD9 := hD.sub (ws' := [(h0, .inr (1, [.ref q, .int (nI L)])), (q, .inl (cB, n, .inl g21_60))]) [0, 1] (by decide) rfl
  exact W.vret hx hb hr (fun t ht hW => ⟨⟨g21_60, rfl, trivial, by rw [ht]; exact hP9, hD9⟩, hS.F ht⟩) hS.2.2 d_Bytes_putLow_30

theorem d_Bytes_putHigh_0 : decode b_Bytes_putHigh 0 = .ok (.iconst 0, 1) := by decide +kernel
theorem d_Bytes_putHigh_1 : decode b_Bytes_putHigh 1 = .ok (.istore 4, 2) := by decide +kernel
theorem d_Bytes_putHigh_3 : decode b_Bytes_putHigh 3 = .ok (.iload 4, 2) := by decide +kernel
theorem d_Bytes_putHigh_5 : decode b_Bytes_putHigh 5 = .ok (.iload_n 3, 1) := by decide +kernel
theorem d_Bytes_putHigh_6 : decode b_Bytes_putHigh 6 = .ok (.if_icmp .ge 28, 3) := by decide +kernel
theorem d_Bytes_putHigh_9 : decode b_Bytes_putHigh 9 = .ok (.aload_n 0, 1) := by decide +kernel
theorem d_Bytes_putHigh_10 : decode b_Bytes_putHigh 10 = .ok (.iload_n 1, 1) := by decide +kernel
theorem d_Bytes_putHigh_11 : decode b_Bytes_putHigh 11 = .ok (.iload_n 3, 1) := by decide +kernel
theorem d_Bytes_putHigh_12 : decode b_Bytes_putHigh 12 = .ok (.iadd, 1) := by decide +kernel
theorem d_Bytes_putHigh_13 : decode b_Bytes_putHigh 13 = .ok (.iconst 1, 1) := by decide +kernel
theorem d_Bytes_putHigh_14 : decode b_Bytes_putHigh 14 = .ok (.isub, 1) := by decide +kernel
theorem d_Bytes_putHigh_15 : decode b_Bytes_putHigh 15 = .ok (.iload 4, 2) := by decide +kernel
theorem d_Bytes_putHigh_17 : decode b_Bytes_putHigh 17 = .ok (.isub, 1) := by decide +kernel
theorem d_Bytes_putHigh_18 : decode b_Bytes_putHigh 18 = .ok (.iload_n 2, 1) := by decide +kernel
theorem d_Bytes_putHigh_19 : decode b_Bytes_putHigh 19 = .ok (.bipush 8, 2) := by decide +kernel
theorem d_Bytes_putHigh_21 : decode b_Bytes_putHigh 21 = .ok (.iload 4, 2) := by decide +kernel
theorem d_Bytes_putHigh_23 : decode b_Bytes_putHigh 23 = .ok (.imul, 1) := by decide +kernel
theorem d_Bytes_putHigh_24 : decode b_Bytes_putHigh 24 = .ok (.ishr, 1) := by decide +kernel
theorem d_Bytes_putHigh_25 : decode b_Bytes_putHigh 25 = .ok (.invokevirtual 29, 3) := by decide +kernel
theorem d_Bytes_putHigh_28 : decode b_Bytes_putHigh 28 = .ok (.iinc 4 1, 3) := by decide +kernel
theorem d_Bytes_putHigh_31 : decode b_Bytes_putHigh 31 = .ok (.goto (-28), 3) := by decide +kernel
theorem d_Bytes_putHigh_34 : decode b_Bytes_putHigh 34 = .ok (.return_, 1) := by decide +kernel
set_option maxHeartbeats 4000000 in
set_option maxRecDepth 100000 in
theorem c_putHigh2 (l : Launch) (D : va_G) (cB cI cJ cZ cN cF : ClassId) (sz : Nat) (h0 q L n : Nat) (f : Nat → Int32) (i v : Int32) (hL : L ≤ n) (hn : n < 2147483648) : Met l y_Bytes_putHigh w_Bytes_putHigh ({ frames := 1, cells := 0, slots := 0, locals := 22 }) (va_Pc [.ref h0, .int i, .int v, .int 2] (fun U => U.heap.size = sz ∧ va_P D CL [(h0, .inr (1, [.ref q, .int (nI L)])), (q, .inl (cB, n, .inl f))] U.heap ∧ va_K D CL (TY cB cI cJ cZ cN cF) U ∧ NN U ∧ va_D (fun _ => True) [(h0, .inr (1, [.ref q, .int (nI L)])), (q, .inl (cB, n, .inl f))])) (va_Qv (fun (u : Nat → Int32) => True) (fun (u : Nat → Int32) (t : State) => match u with | g => va_P D CL [(h0, .inr (1, [.ref q, .int (nI L)])), (q, .inl (cB, n, .inl g))] t.heap ∧ va_D (va_A [(h0, .inr (1, [.ref q, .int (nI L)])), (q, .inl (cB, n, .inl f))] sz) [(h0, .inr (1, [.ref q, .int (nI L)])), (q, .inl (cB, n, .inl g))]) (va_A [(h0, .inr (1, [.ref q, .int (nI L)])), (q, .inl (cB, n, .inl f))] sz)) 0 0 (va_A [(h0, .inr (1, [.ref q, .int (nI L)])), (q, .inl (cB, n, .inl f))] sz) := by
  refine Met.ofW (cc := b_Bytes_putHigh) (maxL := 5) (ret := none) (by decide) rfl ?_
  intro p e s m args below meth c s₁ B hml hv
  obtain ⟨rfl, hsz, hP, hK, hN, hD0⟩ := hv
  have hx := B.exec
  have hb := B.bytes
  have hr := B.returns
  have hts := atoms_spec (ws := w_Bytes_putHigh) B.pre
  have ht9 := fun (w : Cond) (h : w ∈ lw_g) => hts w (List.mem_cons_of_mem _ h)
  have hown : s.vm.findClass "DiscMaker$Bytes" = some m.cls := findClass_of_methodNamed B.named
  have hlocks := B.notSynchronized
  subst hsz
  have hD := hD0.self (sz := s.heap.size)
  generalize hAe : va_A [(h0, .inr (1, [.ref q, .int (nI L)])), (q, .inl (cB, n, .inl f))] s.heap.size = A at hD ⊢
  have hA : ∀ q : Nat, s.heap.size ≤ q → A q := fun q h => by rw [← hAe]; exact Or.inr h
  have hS : va_S A s.heap s.heap [] := va_S.rf
  have hP : va_P D CL [(h0, .inr (1, [.ref q, .int (nI L)])), (q, .inl (cB, n, .inl f))] s.heap := hP
  have hl := lv_entry [.ref h0, .int i, .int v, .int 2] (n := 5) (Nat.le_of_ble_eq_true rfl)
  rw [lg_entry_eq]
  generalize (lg_sl [.ref h0, .int i, .int v, .int 2] ++ List.replicate (5 - (lg_sl [.ref h0, .int i, .int v, .int 2]).length) Slot.unset).toArray = ls at hl ⊢
  have hl : lv_has ls 5 [(0, .ref h0), (1, .int i), (2, .int v), (3, .int 2)] := hl
  refine lv_iconst (v := 0) hx hb d_Bytes_putHigh_0 (by decide) ?_
  refine lv_istore hx hb d_Bytes_putHigh_1 hl (by decide) rfl (fun ls hl => ?_)
  have hl : lv_has ls 5 [(4, .int 0), (0, .ref h0), (1, .int i), (2, .int v), (3, .int 2)] := hl
  refine lv_iload hx hb d_Bytes_putHigh_3 (lv_at hl 0 rfl) ?_
  refine lv_iload_n hx hb d_Bytes_putHigh_5 rfl (lv_at hl 4 rfl) ?_
  refine lv_icmp_ge (tgt := 34) hx hb d_Bytes_putHigh_6 (by decide) (fun h_6 => absurd h_6 (by decide)) (fun h_6 => ?_)
  refine lv_aload_n hx hb d_Bytes_putHigh_9 rfl (lv_at hl 1 rfl) ?_
  refine lv_iload_n hx hb d_Bytes_putHigh_10 rfl (lv_at hl 2 rfl) ?_
  refine lv_iload_n hx hb d_Bytes_putHigh_11 rfl (lv_at hl 4 rfl) ?_
  refine lv_iadd hx hb d_Bytes_putHigh_12 ?_
  refine lv_iconst (v := 1) hx hb d_Bytes_putHigh_13 (by decide) ?_
  refine lv_isub hx hb d_Bytes_putHigh_14 ?_
  refine lv_iload hx hb d_Bytes_putHigh_15 (lv_at hl 0 rfl) ?_
  refine lv_isub hx hb d_Bytes_putHigh_17 ?_
  refine lv_iload_n hx hb d_Bytes_putHigh_18 rfl (lv_at hl 3 rfl) ?_
  refine lv_bipush (v := 8) hx hb d_Bytes_putHigh_19 (by decide) ?_
  refine lv_iload hx hb d_Bytes_putHigh_21 (lv_at hl 0 rfl) ?_
  refine lv_imul hx hb d_Bytes_putHigh_23 ?_
  refine W.eq (g2 := F0 m 24 ls [.int 0, .int v, .int (((i + 2) - 1) - 0), .ref h0]) (by rw [show ((8 * 0) : Int32) = 0 from by decide]) ?_
  refine lv_ishr hx hb d_Bytes_putHigh_24 ?_
  have hPc := hP.sub (ws' := [(h0, .inr (1, [.ref q, .int (nI L)])), (q, .inl (cB, n, .inl f))]) [0, 1] rfl
  have hDc := hD.sub (ws' := [(h0, .inr (1, [.ref q, .int (nI L)])), (q, .inl (cB, n, .inl f))]) [0, 1] (by decide) rfl
  have hFc := va_free (wc := [(h0, .inr (1, [.ref q, .int (nI L)])), (q, .inl (cB, n, .inl f))]) hD hS hA [0, 1] rfl
  have hkc : 0 ≤ 0 := by decide
  have hks : 0 ≤ 0 := by decide
  refine va_callv (va_runV (C := "DiscMaker$Bytes") (As := [.int (((i + 2) - 1) - 0), .int (v >>> (0 &&& 31))]) (rest := []) ⟨hx, hb, hml, hown, hts⟩ (c_put l D cB cI cJ cZ cN cF s.heap.size h0 q L n f (((i + 2) - 1) - 0) (v >>> (0 &&& 31)) hL hn) (cwV 2 hts (lg_goodV k988 k912 k913 k119 kc_Bytes_put) rfl rfl rfl (by decide +kernel) ⟨Nat.le_of_ble_eq_true rfl, Nat.le_of_ble_eq_true rfl⟩) ⟨fun a U g mk q => by obtain ⟨q0, q1, qP, qK, qN, qD⟩ := q; exact ⟨q0, q1, qP, va_K.moved (u := U) (U := U.calling g mk a) (Vm.Alike.refl U.vm) qK, qN.calling, qD⟩, va_recv hK hP (ci := 1) (q0 := 0) rfl rfl, fun U hU hW => ⟨rfl, by rw [hU], by rw [hU]; exact hPc, va_K.moved hW.alike hK, NN.warm hW hN, hDc.weaken (fun _ _ _ _ => trivial)⟩⟩ rfl rfl hl.1 rfl (lv_room (Nat.le_of_ble_eq_true rfl)) d_Bytes_putHigh_25 ⟨hkc, hks⟩) hS (fun q _ h => hFc q h) hFc (fun u t H1 locs ht hvm hp_25 hB hz1 hk1 hS => ?_)
  obtain ⟨g25_19, rfl⟩ : ∃ z, z = u := ⟨_, rfl⟩
  obtain ⟨hP1, hD1⟩ := hB
  rw [ht] at hP1
  obtain ⟨hP, hD⟩ := va_join (wr := []) (w1 := [(h0, .inr (1, [.ref q, .int (nI L)])), (q, .inl (cB, n, .inl g25_19))]) hP hD [0, 1] [] rfl rfl (by decide) (by decide) hk1 hFc hP1 hD1
  clear hPc hDc hFc hP1 hD1 hk1 hz1
  generalize H1 = H at hP hS ⊢
  have hP : va_P D CL [(h0, .inr (1, [.ref q, .int (nI L)])), (q, .inl (cB, n, .inl g25_19))] H := hP
  have hD : va_D A [(h0, .inr (1, [.ref q, .int (nI L)])), (q, .inl (cB, n, .inl g25_19))] := hD
  refine lv_iinc (v := 1) hx hb d_Bytes_putHigh_28 hl (k := 0) rfl (by decide) (by decide) rfl (fun ls hl => ?_)
  have hl : lv_has ls 5 [(4, .int 1), (0, .ref h0), (1, .int i), (2, .int v), (3, .int 2)] := hl
  refine lv_goto (tgt := 3) hx hb d_Bytes_putHigh_31 (by decide) ?_
  refine lv_iload hx hb d_Bytes_putHigh_3 (lv_at hl 0 rfl) ?_
  refine lv_iload_n hx hb d_Bytes_putHigh_5 rfl (lv_at hl 4 rfl) ?_
  refine lv_icmp_ge (tgt := 34) hx hb d_Bytes_putHigh_6 (by decide) (fun h_6 => absurd h_6 (by decide)) (fun h_6 => ?_)
  refine lv_aload_n hx hb d_Bytes_putHigh_9 rfl (lv_at hl 1 rfl) ?_
  refine lv_iload_n hx hb d_Bytes_putHigh_10 rfl (lv_at hl 2 rfl) ?_
  refine lv_iload_n hx hb d_Bytes_putHigh_11 rfl (lv_at hl 4 rfl) ?_
  refine lv_iadd hx hb d_Bytes_putHigh_12 ?_
  refine lv_iconst (v := 1) hx hb d_Bytes_putHigh_13 (by decide) ?_
  refine lv_isub hx hb d_Bytes_putHigh_14 ?_
  refine lv_iload hx hb d_Bytes_putHigh_15 (lv_at hl 0 rfl) ?_
  refine lv_isub hx hb d_Bytes_putHigh_17 ?_
  refine lv_iload_n hx hb d_Bytes_putHigh_18 rfl (lv_at hl 3 rfl) ?_
  refine lv_bipush (v := 8) hx hb d_Bytes_putHigh_19 (by decide) ?_
  refine lv_iload hx hb d_Bytes_putHigh_21 (lv_at hl 0 rfl) ?_
  refine lv_imul hx hb d_Bytes_putHigh_23 ?_
  refine W.eq (g2 := F0 m 24 ls [.int 8, .int v, .int (((i + 2) - 1) - 1), .ref h0]) (by rw [show ((8 * 1) : Int32) = 8 from by decide]) ?_
  refine lv_ishr hx hb d_Bytes_putHigh_24 ?_
  have hPc := hP.sub (ws' := [(h0, .inr (1, [.ref q, .int (nI L)])), (q, .inl (cB, n, .inl g25_19))]) [0, 1] rfl
  have hDc := hD.sub (ws' := [(h0, .inr (1, [.ref q, .int (nI L)])), (q, .inl (cB, n, .inl g25_19))]) [0, 1] (by decide) rfl
  have hFc := va_free (wc := [(h0, .inr (1, [.ref q, .int (nI L)])), (q, .inl (cB, n, .inl g25_19))]) hD hS hA [0, 1] rfl
  have hkc : 0 ≤ 0 := by decide
  have hks : 0 ≤ 0 := by decide
  refine va_callv (va_runV (C := "DiscMaker$Bytes") (As := [.int (((i + 2) - 1) - 1), .int (v >>> (8 &&& 31))]) (rest := []) ⟨hx, hb, hml, hown, hts⟩ (c_put l D cB cI cJ cZ cN cF H.size h0 q L n g25_19 (((i + 2) - 1) - 1) (v >>> (8 &&& 31)) hL hn) (cwV 2 hts (lg_goodV k988 k912 k913 k119 kc_Bytes_put) rfl rfl rfl (by decide +kernel) ⟨Nat.le_of_ble_eq_true rfl, Nat.le_of_ble_eq_true rfl⟩) ⟨fun a U g mk q => by obtain ⟨q0, q1, qP, qK, qN, qD⟩ := q; exact ⟨q0, q1, qP, va_K.moved (u := U) (U := U.calling g mk a) (Vm.Alike.refl U.vm) qK, qN.calling, qD⟩, va_recv hK hP (ci := 1) (q0 := 0) rfl rfl, fun U hU hW => ⟨rfl, by rw [hU], by rw [hU]; exact hPc, va_K.moved hW.alike hK, NN.warm hW hN, hDc.weaken (fun _ _ _ _ => trivial)⟩⟩ rfl rfl hl.1 rfl (lv_room (Nat.le_of_ble_eq_true rfl)) d_Bytes_putHigh_25 ⟨hkc, hks⟩) hS (fun q _ h => hFc q h) hFc (fun u t H1 locs ht hvm hp_25 hB hz1 hk1 hS => ?_)
  obtain ⟨g25_38, rfl⟩ : ∃ z, z = u := ⟨_, rfl⟩
  obtain ⟨hP1, hD1⟩ := hB
  rw [ht] at hP1
  obtain ⟨hP, hD⟩ := va_join (wr := []) (w1 := [(h0, .inr (1, [.ref q, .int (nI L)])), (q, .inl (cB, n, .inl g25_38))]) hP hD [0, 1] [] rfl rfl (by decide) (by decide) hk1 hFc hP1 hD1
  clear hPc hDc hFc hP1 hD1 hk1 hz1
  generalize H1 = H at hP hS ⊢
  have hP : va_P D CL [(h0, .inr (1, [.ref q, .int (nI L)])), (q, .inl (cB, n, .inl g25_38))] H := hP
  have hD : va_D A [(h0, .inr (1, [.ref q, .int (nI L)])), (q, .inl (cB, n, .inl g25_38))] := hD
  refine lv_iinc (v := 2) hx hb d_Bytes_putHigh_28 hl (k := 0) rfl (by decide) (by decide) rfl (fun ls hl => ?_)
  have hl : lv_has ls 5 [(4, .int 2), (0, .ref h0), (1, .int i), (2, .int v), (3, .int 2)] := hl
  refine lv_goto (tgt := 3) hx hb d_Bytes_putHigh_31 (by decide) ?_
  refine lv_iload hx hb d_Bytes_putHigh_3 (lv_at hl 0 rfl) ?_
  refine lv_iload_n hx hb d_Bytes_putHigh_5 rfl (lv_at hl 4 rfl) ?_
  refine lv_icmp_ge (tgt := 34) hx hb d_Bytes_putHigh_6 (by decide) (fun h_6 => ?_) (fun h_6 => absurd (by decide) h_6)
  have hP9 := hP.sub (ws' := [(h0, .inr (1, [.ref q, .int (nI L)])), (q, .inl (cB, n, .inl g25_38))]) [0, 1] rfl
  have hD9 := hD.sub (ws' := [(h0, .inr (1, [.ref q, .int (nI L)])), (q, .inl (cB, n, .inl g25_38))]) [0, 1] (by decide) rfl
  exact W.vret hx hb hr (fun t ht hW => ⟨⟨g25_38, rfl, trivial, by rw [ht]; exact hP9, hD9⟩, hS.F ht⟩) hS.2.2 d_Bytes_putHigh_34

set_option maxHeartbeats 4000000 in
set_option maxRecDepth 100000 in
theorem c_putHigh4 (l : Launch) (D : va_G) (cB cI cJ cZ cN cF : ClassId) (sz : Nat) (h0 q L n : Nat) (f : Nat → Int32) (i v : Int32) (hL : L ≤ n) (hn : n < 2147483648) : Met l y_Bytes_putHigh w_Bytes_putHigh ({ frames := 1, cells := 0, slots := 0, locals := 22 }) (va_Pc [.ref h0, .int i, .int v, .int 4] (fun U => U.heap.size = sz ∧ va_P D CL [(h0, .inr (1, [.ref q, .int (nI L)])), (q, .inl (cB, n, .inl f))] U.heap ∧ va_K D CL (TY cB cI cJ cZ cN cF) U ∧ NN U ∧ va_D (fun _ => True) [(h0, .inr (1, [.ref q, .int (nI L)])), (q, .inl (cB, n, .inl f))])) (va_Qv (fun (u : Nat → Int32) => True) (fun (u : Nat → Int32) (t : State) => match u with | g => va_P D CL [(h0, .inr (1, [.ref q, .int (nI L)])), (q, .inl (cB, n, .inl g))] t.heap ∧ va_D (va_A [(h0, .inr (1, [.ref q, .int (nI L)])), (q, .inl (cB, n, .inl f))] sz) [(h0, .inr (1, [.ref q, .int (nI L)])), (q, .inl (cB, n, .inl g))]) (va_A [(h0, .inr (1, [.ref q, .int (nI L)])), (q, .inl (cB, n, .inl f))] sz)) 0 0 (va_A [(h0, .inr (1, [.ref q, .int (nI L)])), (q, .inl (cB, n, .inl f))] sz) := by
  refine Met.ofW (cc := b_Bytes_putHigh) (maxL := 5) (ret := none) (by decide) rfl ?_
  intro p e s m args below meth c s₁ B hml hv
  obtain ⟨rfl, hsz, hP, hK, hN, hD0⟩ := hv
  have hx := B.exec
  have hb := B.bytes
  have hr := B.returns
  have hts := atoms_spec (ws := w_Bytes_putHigh) B.pre
  have ht9 := fun (w : Cond) (h : w ∈ lw_g) => hts w (List.mem_cons_of_mem _ h)
  have hown : s.vm.findClass "DiscMaker$Bytes" = some m.cls := findClass_of_methodNamed B.named
  have hlocks := B.notSynchronized
  subst hsz
  have hD := hD0.self (sz := s.heap.size)
  generalize hAe : va_A [(h0, .inr (1, [.ref q, .int (nI L)])), (q, .inl (cB, n, .inl f))] s.heap.size = A at hD ⊢
  have hA : ∀ q : Nat, s.heap.size ≤ q → A q := fun q h => by rw [← hAe]; exact Or.inr h
  have hS : va_S A s.heap s.heap [] := va_S.rf
  have hP : va_P D CL [(h0, .inr (1, [.ref q, .int (nI L)])), (q, .inl (cB, n, .inl f))] s.heap := hP
  have hl := lv_entry [.ref h0, .int i, .int v, .int 4] (n := 5) (Nat.le_of_ble_eq_true rfl)
  rw [lg_entry_eq]
  generalize (lg_sl [.ref h0, .int i, .int v, .int 4] ++ List.replicate (5 - (lg_sl [.ref h0, .int i, .int v, .int 4]).length) Slot.unset).toArray = ls at hl ⊢
  have hl : lv_has ls 5 [(0, .ref h0), (1, .int i), (2, .int v), (3, .int 4)] := hl
  refine lv_iconst (v := 0) hx hb d_Bytes_putHigh_0 (by decide) ?_
  refine lv_istore hx hb d_Bytes_putHigh_1 hl (by decide) rfl (fun ls hl => ?_)
  have hl : lv_has ls 5 [(4, .int 0), (0, .ref h0), (1, .int i), (2, .int v), (3, .int 4)] := hl
  refine lv_iload hx hb d_Bytes_putHigh_3 (lv_at hl 0 rfl) ?_
  refine lv_iload_n hx hb d_Bytes_putHigh_5 rfl (lv_at hl 4 rfl) ?_
  refine lv_icmp_ge (tgt := 34) hx hb d_Bytes_putHigh_6 (by decide) (fun h_6 => absurd h_6 (by decide)) (fun h_6 => ?_)
  refine lv_aload_n hx hb d_Bytes_putHigh_9 rfl (lv_at hl 1 rfl) ?_
  refine lv_iload_n hx hb d_Bytes_putHigh_10 rfl (lv_at hl 2 rfl) ?_
  refine lv_iload_n hx hb d_Bytes_putHigh_11 rfl (lv_at hl 4 rfl) ?_
  refine lv_iadd hx hb d_Bytes_putHigh_12 ?_
  refine lv_iconst (v := 1) hx hb d_Bytes_putHigh_13 (by decide) ?_
  refine lv_isub hx hb d_Bytes_putHigh_14 ?_
  refine lv_iload hx hb d_Bytes_putHigh_15 (lv_at hl 0 rfl) ?_
  refine lv_isub hx hb d_Bytes_putHigh_17 ?_
  refine lv_iload_n hx hb d_Bytes_putHigh_18 rfl (lv_at hl 3 rfl) ?_
  refine lv_bipush (v := 8) hx hb d_Bytes_putHigh_19 (by decide) ?_
  refine lv_iload hx hb d_Bytes_putHigh_21 (lv_at hl 0 rfl) ?_
  refine lv_imul hx hb d_Bytes_putHigh_23 ?_
  refine W.eq (g2 := F0 m 24 ls [.int 0, .int v, .int (((i + 4) - 1) - 0), .ref h0]) (by rw [show ((8 * 0) : Int32) = 0 from by decide]) ?_
  refine lv_ishr hx hb d_Bytes_putHigh_24 ?_
  have hPc := hP.sub (ws' := [(h0, .inr (1, [.ref q, .int (nI L)])), (q, .inl (cB, n, .inl f))]) [0, 1] rfl
  have hDc := hD.sub (ws' := [(h0, .inr (1, [.ref q, .int (nI L)])), (q, .inl (cB, n, .inl f))]) [0, 1] (by decide) rfl
  have hFc := va_free (wc := [(h0, .inr (1, [.ref q, .int (nI L)])), (q, .inl (cB, n, .inl f))]) hD hS hA [0, 1] rfl
  have hkc : 0 ≤ 0 := by decide
  have hks : 0 ≤ 0 := by decide
  refine va_callv (va_runV (C := "DiscMaker$Bytes") (As := [.int (((i + 4) - 1) - 0), .int (v >>> (0 &&& 31))]) (rest := []) ⟨hx, hb, hml, hown, hts⟩ (c_put l D cB cI cJ cZ cN cF s.heap.size h0 q L n f (((i + 4) - 1) - 0) (v >>> (0 &&& 31)) hL hn) (cwV 2 hts (lg_goodV k988 k912 k913 k119 kc_Bytes_put) rfl rfl rfl (by decide +kernel) ⟨Nat.le_of_ble_eq_true rfl, Nat.le_of_ble_eq_true rfl⟩) ⟨fun a U g mk q => by obtain ⟨q0, q1, qP, qK, qN, qD⟩ := q; exact ⟨q0, q1, qP, va_K.moved (u := U) (U := U.calling g mk a) (Vm.Alike.refl U.vm) qK, qN.calling, qD⟩, va_recv hK hP (ci := 1) (q0 := 0) rfl rfl, fun U hU hW => ⟨rfl, by rw [hU], by rw [hU]; exact hPc, va_K.moved hW.alike hK, NN.warm hW hN, hDc.weaken (fun _ _ _ _ => trivial)⟩⟩ rfl rfl hl.1 rfl (lv_room (Nat.le_of_ble_eq_true rfl)) d_Bytes_putHigh_25 ⟨hkc, hks⟩) hS (fun q _ h => hFc q h) hFc (fun u t H1 locs ht hvm hp_25 hB hz1 hk1 hS => ?_)
  obtain ⟨g25_19, rfl⟩ : ∃ z, z = u := ⟨_, rfl⟩
  obtain ⟨hP1, hD1⟩ := hB
  rw [ht] at hP1
  obtain ⟨hP, hD⟩ := va_join (wr := []) (w1 := [(h0, .inr (1, [.ref q, .int (nI L)])), (q, .inl (cB, n, .inl g25_19))]) hP hD [0, 1] [] rfl rfl (by decide) (by decide) hk1 hFc hP1 hD1
  clear hPc hDc hFc hP1 hD1 hk1 hz1
  generalize H1 = H at hP hS ⊢
  have hP : va_P D CL [(h0, .inr (1, [.ref q, .int (nI L)])), (q, .inl (cB, n, .inl g25_19))] H := hP
  have hD : va_D A [(h0, .inr (1, [.ref q, .int (nI L)])), (q, .inl (cB, n, .inl g25_19))] := hD
  refine lv_iinc (v := 1) hx hb d_Bytes_putHigh_28 hl (k := 0) rfl (by decide) (by decide) rfl (fun ls hl => ?_)
  have hl : lv_has ls 5 [(4, .int 1), (0, .ref h0), (1, .int i), (2, .int v), (3, .int 4)] := hl
  refine lv_goto (tgt := 3) hx hb d_Bytes_putHigh_31 (by decide) ?_
  refine lv_iload hx hb d_Bytes_putHigh_3 (lv_at hl 0 rfl) ?_
  refine lv_iload_n hx hb d_Bytes_putHigh_5 rfl (lv_at hl 4 rfl) ?_
  refine lv_icmp_ge (tgt := 34) hx hb d_Bytes_putHigh_6 (by decide) (fun h_6 => absurd h_6 (by decide)) (fun h_6 => ?_)
  refine lv_aload_n hx hb d_Bytes_putHigh_9 rfl (lv_at hl 1 rfl) ?_
  refine lv_iload_n hx hb d_Bytes_putHigh_10 rfl (lv_at hl 2 rfl) ?_
  refine lv_iload_n hx hb d_Bytes_putHigh_11 rfl (lv_at hl 4 rfl) ?_
  refine lv_iadd hx hb d_Bytes_putHigh_12 ?_
  refine lv_iconst (v := 1) hx hb d_Bytes_putHigh_13 (by decide) ?_
  refine lv_isub hx hb d_Bytes_putHigh_14 ?_
  refine lv_iload hx hb d_Bytes_putHigh_15 (lv_at hl 0 rfl) ?_
  refine lv_isub hx hb d_Bytes_putHigh_17 ?_
  refine lv_iload_n hx hb d_Bytes_putHigh_18 rfl (lv_at hl 3 rfl) ?_
  refine lv_bipush (v := 8) hx hb d_Bytes_putHigh_19 (by decide) ?_
  refine lv_iload hx hb d_Bytes_putHigh_21 (lv_at hl 0 rfl) ?_
  refine lv_imul hx hb d_Bytes_putHigh_23 ?_
  refine W.eq (g2 := F0 m 24 ls [.int 8, .int v, .int (((i + 4) - 1) - 1), .ref h0]) (by rw [show ((8 * 1) : Int32) = 8 from by decide]) ?_
  refine lv_ishr hx hb d_Bytes_putHigh_24 ?_
  have hPc := hP.sub (ws' := [(h0, .inr (1, [.ref q, .int (nI L)])), (q, .inl (cB, n, .inl g25_19))]) [0, 1] rfl
  have hDc := hD.sub (ws' := [(h0, .inr (1, [.ref q, .int (nI L)])), (q, .inl (cB, n, .inl g25_19))]) [0, 1] (by decide) rfl
  have hFc := va_free (wc := [(h0, .inr (1, [.ref q, .int (nI L)])), (q, .inl (cB, n, .inl g25_19))]) hD hS hA [0, 1] rfl
  have hkc : 0 ≤ 0 := by decide
  have hks : 0 ≤ 0 := by decide
  refine va_callv (va_runV (C := "DiscMaker$Bytes") (As := [.int (((i + 4) - 1) - 1), .int (v >>> (8 &&& 31))]) (rest := []) ⟨hx, hb, hml, hown, hts⟩ (c_put l D cB cI cJ cZ cN cF H.size h0 q L n g25_19 (((i + 4) - 1) - 1) (v >>> (8 &&& 31)) hL hn) (cwV 2 hts (lg_goodV k988 k912 k913 k119 kc_Bytes_put) rfl rfl rfl (by decide +kernel) ⟨Nat.le_of_ble_eq_true rfl, Nat.le_of_ble_eq_true rfl⟩) ⟨fun a U g mk q => by obtain ⟨q0, q1, qP, qK, qN, qD⟩ := q; exact ⟨q0, q1, qP, va_K.moved (u := U) (U := U.calling g mk a) (Vm.Alike.refl U.vm) qK, qN.calling, qD⟩, va_recv hK hP (ci := 1) (q0 := 0) rfl rfl, fun U hU hW => ⟨rfl, by rw [hU], by rw [hU]; exact hPc, va_K.moved hW.alike hK, NN.warm hW hN, hDc.weaken (fun _ _ _ _ => trivial)⟩⟩ rfl rfl hl.1 rfl (lv_room (Nat.le_of_ble_eq_true rfl)) d_Bytes_putHigh_25 ⟨hkc, hks⟩) hS (fun q _ h => hFc q h) hFc (fun u t H1 locs ht hvm hp_25 hB hz1 hk1 hS => ?_)
  obtain ⟨g25_38, rfl⟩ : ∃ z, z = u := ⟨_, rfl⟩
  obtain ⟨hP1, hD1⟩ := hB
  rw [ht] at hP1
  obtain ⟨hP, hD⟩ := va_join (wr := []) (w1 := [(h0, .inr (1, [.ref q, .int (nI L)])), (q, .inl (cB, n, .inl g25_38))]) hP hD [0, 1] [] rfl rfl (by decide) (by decide) hk1 hFc hP1 hD1
  clear hPc hDc hFc hP1 hD1 hk1 hz1
  generalize H1 = H at hP hS ⊢
  have hP : va_P D CL [(h0, .inr (1, [.ref q, .int (nI L)])), (q, .inl (cB, n, .inl g25_38))] H := hP
  have hD : va_D A [(h0, .inr (1, [.ref q, .int (nI L)])), (q, .inl (cB, n, .inl g25_38))] := hD
  refine lv_iinc (v := 2) hx hb d_Bytes_putHigh_28 hl (k := 0) rfl (by decide) (by decide) rfl (fun ls hl => ?_)
  have hl : lv_has ls 5 [(4, .int 2), (0, .ref h0), (1, .int i), (2, .int v), (3, .int 4)] := hl
  refine lv_goto (tgt := 3) hx hb d_Bytes_putHigh_31 (by decide) ?_
  refine lv_iload hx hb d_Bytes_putHigh_3 (lv_at hl 0 rfl) ?_
  refine lv_iload_n hx hb d_Bytes_putHigh_5 rfl (lv_at hl 4 rfl) ?_
  refine lv_icmp_ge (tgt := 34) hx hb d_Bytes_putHigh_6 (by decide) (fun h_6 => absurd h_6 (by decide)) (fun h_6 => ?_)
  refine lv_aload_n hx hb d_Bytes_putHigh_9 rfl (lv_at hl 1 rfl) ?_
  refine lv_iload_n hx hb d_Bytes_putHigh_10 rfl (lv_at hl 2 rfl) ?_
  refine lv_iload_n hx hb d_Bytes_putHigh_11 rfl (lv_at hl 4 rfl) ?_
  refine lv_iadd hx hb d_Bytes_putHigh_12 ?_
  refine lv_iconst (v := 1) hx hb d_Bytes_putHigh_13 (by decide) ?_
  refine lv_isub hx hb d_Bytes_putHigh_14 ?_
  refine lv_iload hx hb d_Bytes_putHigh_15 (lv_at hl 0 rfl) ?_
  refine lv_isub hx hb d_Bytes_putHigh_17 ?_
  refine lv_iload_n hx hb d_Bytes_putHigh_18 rfl (lv_at hl 3 rfl) ?_
  refine lv_bipush (v := 8) hx hb d_Bytes_putHigh_19 (by decide) ?_
  refine lv_iload hx hb d_Bytes_putHigh_21 (lv_at hl 0 rfl) ?_
  refine lv_imul hx hb d_Bytes_putHigh_23 ?_
  refine W.eq (g2 := F0 m 24 ls [.int 16, .int v, .int (((i + 4) - 1) - 2), .ref h0]) (by rw [show ((8 * 2) : Int32) = 16 from by decide]) ?_
  refine lv_ishr hx hb d_Bytes_putHigh_24 ?_
  have hPc := hP.sub (ws' := [(h0, .inr (1, [.ref q, .int (nI L)])), (q, .inl (cB, n, .inl g25_38))]) [0, 1] rfl
  have hDc := hD.sub (ws' := [(h0, .inr (1, [.ref q, .int (nI L)])), (q, .inl (cB, n, .inl g25_38))]) [0, 1] (by decide) rfl
  have hFc := va_free (wc := [(h0, .inr (1, [.ref q, .int (nI L)])), (q, .inl (cB, n, .inl g25_38))]) hD hS hA [0, 1] rfl
  have hkc : 0 ≤ 0 := by decide
  have hks : 0 ≤ 0 := by decide
  refine va_callv (va_runV (C := "DiscMaker$Bytes") (As := [.int (((i + 4) - 1) - 2), .int (v >>> (16 &&& 31))]) (rest := []) ⟨hx, hb, hml, hown, hts⟩ (c_put l D cB cI cJ cZ cN cF H.size h0 q L n g25_38 (((i + 4) - 1) - 2) (v >>> (16 &&& 31)) hL hn) (cwV 2 hts (lg_goodV k988 k912 k913 k119 kc_Bytes_put) rfl rfl rfl (by decide +kernel) ⟨Nat.le_of_ble_eq_true rfl, Nat.le_of_ble_eq_true rfl⟩) ⟨fun a U g mk q => by obtain ⟨q0, q1, qP, qK, qN, qD⟩ := q; exact ⟨q0, q1, qP, va_K.moved (u := U) (U := U.calling g mk a) (Vm.Alike.refl U.vm) qK, qN.calling, qD⟩, va_recv hK hP (ci := 1) (q0 := 0) rfl rfl, fun U hU hW => ⟨rfl, by rw [hU], by rw [hU]; exact hPc, va_K.moved hW.alike hK, NN.warm hW hN, hDc.weaken (fun _ _ _ _ => trivial)⟩⟩ rfl rfl hl.1 rfl (lv_room (Nat.le_of_ble_eq_true rfl)) d_Bytes_putHigh_25 ⟨hkc, hks⟩) hS (fun q _ h => hFc q h) hFc (fun u t H1 locs ht hvm hp_25 hB hz1 hk1 hS => ?_)
  obtain ⟨g25_57, rfl⟩ : ∃ z, z = u := ⟨_, rfl⟩
  obtain ⟨hP1, hD1⟩ := hB
  rw [ht] at hP1
  obtain ⟨hP, hD⟩ := va_join (wr := []) (w1 := [(h0, .inr (1, [.ref q, .int (nI L)])), (q, .inl (cB, n, .inl g25_57))]) hP hD [0, 1] [] rfl rfl (by decide) (by decide) hk1 hFc hP1 hD1
  clear hPc hDc hFc hP1 hD1 hk1 hz1
  generalize H1 = H at hP hS ⊢
  have hP : va_P D CL [(h0, .inr (1, [.ref q, .int (nI L)])), (q, .inl (cB, n, .inl g25_57))] H := hP
  have hD : va_D A [(h0, .inr (1, [.ref q, .int (nI L)])), (q, .inl (cB, n, .inl g25_57))] := hD
  refine lv_iinc (v := 3) hx hb d_Bytes_putHigh_28 hl (k := 0) rfl (by decide) (by decide) rfl (fun ls hl => ?_)
  have hl : lv_has ls 5 [(4, .int 3), (0, .ref h0), (1, .int i), (2, .int v), (3, .int 4)] := hl
  refine lv_goto (tgt := 3) hx hb d_Bytes_putHigh_31 (by decide) ?_
  refine lv_iload hx hb d_Bytes_putHigh_3 (lv_at hl 0 rfl) ?_
  refine lv_iload_n hx hb d_Bytes_putHigh_5 rfl (lv_at hl 4 rfl) ?_
  refine lv_icmp_ge (tgt := 34) hx hb d_Bytes_putHigh_6 (by decide) (fun h_6 => absurd h_6 (by decide)) (fun h_6 => ?_)
  refine lv_aload_n hx hb d_Bytes_putHigh_9 rfl (lv_at hl 1 rfl) ?_
  refine lv_iload_n hx hb d_Bytes_putHigh_10 rfl (lv_at hl 2 rfl) ?_
  refine lv_iload_n hx hb d_Bytes_putHigh_11 rfl (lv_at hl 4 rfl) ?_
  refine lv_iadd hx hb d_Bytes_putHigh_12 ?_
  refine lv_iconst (v := 1) hx hb d_Bytes_putHigh_13 (by decide) ?_
  refine lv_isub hx hb d_Bytes_putHigh_14 ?_
  refine lv_iload hx hb d_Bytes_putHigh_15 (lv_at hl 0 rfl) ?_
  refine lv_isub hx hb d_Bytes_putHigh_17 ?_
  refine lv_iload_n hx hb d_Bytes_putHigh_18 rfl (lv_at hl 3 rfl) ?_
  refine lv_bipush (v := 8) hx hb d_Bytes_putHigh_19 (by decide) ?_
  refine lv_iload hx hb d_Bytes_putHigh_21 (lv_at hl 0 rfl) ?_
  refine lv_imul hx hb d_Bytes_putHigh_23 ?_
  refine W.eq (g2 := F0 m 24 ls [.int 24, .int v, .int (((i + 4) - 1) - 3), .ref h0]) (by rw [show ((8 * 3) : Int32) = 24 from by decide]) ?_
  refine lv_ishr hx hb d_Bytes_putHigh_24 ?_
  have hPc := hP.sub (ws' := [(h0, .inr (1, [.ref q, .int (nI L)])), (q, .inl (cB, n, .inl g25_57))]) [0, 1] rfl
  have hDc := hD.sub (ws' := [(h0, .inr (1, [.ref q, .int (nI L)])), (q, .inl (cB, n, .inl g25_57))]) [0, 1] (by decide) rfl
  have hFc := va_free (wc := [(h0, .inr (1, [.ref q, .int (nI L)])), (q, .inl (cB, n, .inl g25_57))]) hD hS hA [0, 1] rfl
  have hkc : 0 ≤ 0 := by decide
  have hks : 0 ≤ 0 := by decide
  refine va_callv (va_runV (C := "DiscMaker$Bytes") (As := [.int (((i + 4) - 1) - 3), .int (v >>> (24 &&& 31))]) (rest := []) ⟨hx, hb, hml, hown, hts⟩ (c_put l D cB cI cJ cZ cN cF H.size h0 q L n g25_57 (((i + 4) - 1) - 3) (v >>> (24 &&& 31)) hL hn) (cwV 2 hts (lg_goodV k988 k912 k913 k119 kc_Bytes_put) rfl rfl rfl (by decide +kernel) ⟨Nat.le_of_ble_eq_true rfl, Nat.le_of_ble_eq_true rfl⟩) ⟨fun a U g mk q => by obtain ⟨q0, q1, qP, qK, qN, qD⟩ := q; exact ⟨q0, q1, qP, va_K.moved (u := U) (U := U.calling g mk a) (Vm.Alike.refl U.vm) qK, qN.calling, qD⟩, va_recv hK hP (ci := 1) (q0 := 0) rfl rfl, fun U hU hW => ⟨rfl, by rw [hU], by rw [hU]; exact hPc, va_K.moved hW.alike hK, NN.warm hW hN, hDc.weaken (fun _ _ _ _ => trivial)⟩⟩ rfl rfl hl.1 rfl (lv_room (Nat.le_of_ble_eq_true rfl)) d_Bytes_putHigh_25 ⟨hkc, hks⟩) hS (fun q _ h => hFc q h) hFc (fun u t H1 locs ht hvm hp_25 hB hz1 hk1 hS => ?_)
  obtain ⟨g25_76, rfl⟩ : ∃ z, z = u := ⟨_, rfl⟩
  obtain ⟨hP1, hD1⟩ := hB
  rw [ht] at hP1
  obtain ⟨hP, hD⟩ := va_join (wr := []) (w1 := [(h0, .inr (1, [.ref q, .int (nI L)])), (q, .inl (cB, n, .inl g25_76))]) hP hD [0, 1] [] rfl rfl (by decide) (by decide) hk1 hFc hP1 hD1
  clear hPc hDc hFc hP1 hD1 hk1 hz1
  generalize H1 = H at hP hS ⊢
  have hP : va_P D CL [(h0, .inr (1, [.ref q, .int (nI L)])), (q, .inl (cB, n, .inl g25_76))] H := hP
  have hD : va_D A [(h0, .inr (1, [.ref q, .int (nI L)])), (q, .inl (cB, n, .inl g25_76))] := hD
  refine lv_iinc (v := 4) hx hb d_Bytes_putHigh_28 hl (k := 0) rfl (by decide) (by decide) rfl (fun ls hl => ?_)
  have hl : lv_has ls 5 [(4, .int 4), (0, .ref h0), (1, .int i), (2, .int v), (3, .int 4)] := hl
  refine lv_goto (tgt := 3) hx hb d_Bytes_putHigh_31 (by decide) ?_
  refine lv_iload hx hb d_Bytes_putHigh_3 (lv_at hl 0 rfl) ?_
  refine lv_iload_n hx hb d_Bytes_putHigh_5 rfl (lv_at hl 4 rfl) ?_
  refine lv_icmp_ge (tgt := 34) hx hb d_Bytes_putHigh_6 (by decide) (fun h_6 => ?_) (fun h_6 => absurd (by decide) h_6)
  have hP9 := hP.sub (ws' := [(h0, .inr (1, [.ref q, .int (nI L)])), (q, .inl (cB, n, .inl g25_76))]) [0, 1] rfl
  have hD9 := hD.sub (ws' := [(h0, .inr (1, [.ref q, .int (nI L)])), (q, .inl (cB, n, .inl g25_76))]) [0, 1] (by decide) rfl
  exact W.vret hx hb hr (fun t ht hW => ⟨⟨g25_76, rfl, trivial, by rw [ht]; exact hP9, hD9⟩, hS.F ht⟩) hS.2.2 d_Bytes_putHigh_34

theorem d_Bytes_putBoth_0 : decode b_Bytes_putBoth 0 = .ok (.iconst 0, 1) := by decide +kernel
theorem d_Bytes_putBoth_1 : decode b_Bytes_putBoth 1 = .ok (.istore 4, 2) := by decide +kernel
theorem d_Bytes_putBoth_3 : decode b_Bytes_putBoth 3 = .ok (.iload 4, 2) := by decide +kernel
theorem d_Bytes_putBoth_5 : decode b_Bytes_putBoth 5 = .ok (.iload_n 3, 1) := by decide +kernel
theorem d_Bytes_putBoth_6 : decode b_Bytes_putBoth 6 = .ok (.if_icmp .ge 45, 3) := by decide +kernel
theorem d_Bytes_putBoth_9 : decode b_Bytes_putBoth 9 = .ok (.aload_n 0, 1) := by decide +kernel
theorem d_Bytes_putBoth_10 : decode b_Bytes_putBoth 10 = .ok (.iload_n 1, 1) := by decide +kernel
theorem d_Bytes_putBoth_11 : decode b_Bytes_putBoth 11 = .ok (.iload 4, 2) := by decide +kernel
theorem d_Bytes_putBoth_13 : decode b_Bytes_putBoth 13 = .ok (.iadd, 1) := by decide +kernel
theorem d_Bytes_putBoth_14 : decode b_Bytes_putBoth 14 = .ok (.iload_n 2, 1) := by decide +kernel
theorem d_Bytes_putBoth_15 : decode b_Bytes_putBoth 15 = .ok (.bipush 8, 2) := by decide +kernel
theorem d_Bytes_putBoth_17 : decode b_Bytes_putBoth 17 = .ok (.iload 4, 2) := by decide +kernel
theorem d_Bytes_putBoth_19 : decode b_Bytes_putBoth 19 = .ok (.imul, 1) := by decide +kernel
theorem d_Bytes_putBoth_20 : decode b_Bytes_putBoth 20 = .ok (.ishr, 1) := by decide +kernel
theorem d_Bytes_putBoth_21 : decode b_Bytes_putBoth 21 = .ok (.invokevirtual 29, 3) := by decide +kernel
theorem d_Bytes_putBoth_24 : decode b_Bytes_putBoth 24 = .ok (.aload_n 0, 1) := by decide +kernel
theorem d_Bytes_putBoth_25 : decode b_Bytes_putBoth 25 = .ok (.iload_n 1, 1) := by decide +kernel
theorem d_Bytes_putBoth_26 : decode b_Bytes_putBoth 26 = .ok (.iconst 2, 1) := by decide +kernel
theorem d_Bytes_putBoth_27 : decode b_Bytes_putBoth 27 = .ok (.iload_n 3, 1) := by decide +kernel
theorem d_Bytes_putBoth_28 : decode b_Bytes_putBoth 28 = .ok (.imul, 1) := by decide +kernel
theorem d_Bytes_putBoth_29 : decode b_Bytes_putBoth 29 = .ok (.iadd, 1) := by decide +kernel
theorem d_Bytes_putBoth_30 : decode b_Bytes_putBoth 30 = .ok (.iconst 1, 1) := by decide +kernel
theorem d_Bytes_putBoth_31 : decode b_Bytes_putBoth 31 = .ok (.isub, 1) := by decide +kernel
theorem d_Bytes_putBoth_32 : decode b_Bytes_putBoth 32 = .ok (.iload 4, 2) := by decide +kernel
theorem d_Bytes_putBoth_34 : decode b_Bytes_putBoth 34 = .ok (.isub, 1) := by decide +kernel
theorem d_Bytes_putBoth_35 : decode b_Bytes_putBoth 35 = .ok (.iload_n 2, 1) := by decide +kernel
theorem d_Bytes_putBoth_36 : decode b_Bytes_putBoth 36 = .ok (.bipush 8, 2) := by decide +kernel
theorem d_Bytes_putBoth_38 : decode b_Bytes_putBoth 38 = .ok (.iload 4, 2) := by decide +kernel
theorem d_Bytes_putBoth_40 : decode b_Bytes_putBoth 40 = .ok (.imul, 1) := by decide +kernel
theorem d_Bytes_putBoth_41 : decode b_Bytes_putBoth 41 = .ok (.ishr, 1) := by decide +kernel
theorem d_Bytes_putBoth_42 : decode b_Bytes_putBoth 42 = .ok (.invokevirtual 29, 3) := by decide +kernel
theorem d_Bytes_putBoth_45 : decode b_Bytes_putBoth 45 = .ok (.iinc 4 1, 3) := by decide +kernel
theorem d_Bytes_putBoth_48 : decode b_Bytes_putBoth 48 = .ok (.goto (-45), 3) := by decide +kernel
theorem d_Bytes_putBoth_51 : decode b_Bytes_putBoth 51 = .ok (.return_, 1) := by decide +kernel
set_option maxHeartbeats 4000000 in
set_option maxRecDepth 100000 in
theorem c_putBoth2 (l : Launch) (D : va_G) (cB cI cJ cZ cN cF : ClassId) (sz : Nat) (h0 q L n : Nat) (f : Nat → Int32) (i v : Int32) (hL : L ≤ n) (hn : n < 2147483648) : Met l y_Bytes_putBoth w_Bytes_putBoth ({ frames := 1, cells := 0, slots := 0, locals := 22 }) (va_Pc [.ref h0, .int i, .int v, .int 2] (fun U => U.heap.size = sz ∧ va_P D CL [(h0, .inr (1, [.ref q, .int (nI L)])), (q, .inl (cB, n, .inl f))] U.heap ∧ va_K D CL (TY cB cI cJ cZ cN cF) U ∧ NN U ∧ va_D (fun _ => True) [(h0, .inr (1, [.ref q, .int (nI L)])), (q, .inl (cB, n, .inl f))])) (va_Qv (fun (u : Nat → Int32) => True) (fun (u : Nat → Int32) (t : State) => match u with | g => va_P D CL [(h0, .inr (1, [.ref q, .int (nI L)])), (q, .inl (cB, n, .inl g))] t.heap ∧ va_D (va_A [(h0, .inr (1, [.ref q, .int (nI L)])), (q, .inl (cB, n, .inl f))] sz) [(h0, .inr (1, [.ref q, .int (nI L)])), (q, .inl (cB, n, .inl g))]) (va_A [(h0, .inr (1, [.ref q, .int (nI L)])), (q, .inl (cB, n, .inl f))] sz)) 0 0 (va_A [(h0, .inr (1, [.ref q, .int (nI L)])), (q, .inl (cB, n, .inl f))] sz) := by
  refine Met.ofW (cc := b_Bytes_putBoth) (maxL := 5) (ret := none) (by decide) rfl ?_
  intro p e s m args below meth c s₁ B hml hv
  obtain ⟨rfl, hsz, hP, hK, hN, hD0⟩ := hv
  have hx := B.exec
  have hb := B.bytes
  have hr := B.returns
  have hts := atoms_spec (ws := w_Bytes_putBoth) B.pre
  have ht9 := fun (w : Cond) (h : w ∈ lw_g) => hts w (List.mem_cons_of_mem _ h)
  have hown : s.vm.findClass "DiscMaker$Bytes" = some m.cls := findClass_of_methodNamed B.named
  have hlocks := B.notSynchronized
  subst hsz
  have hD := hD0.self (sz := s.heap.size)
  generalize hAe : va_A [(h0, .inr (1, [.ref q, .int (nI L)])), (q, .inl (cB, n, .inl f))] s.heap.size = A at hD ⊢
  have hA : ∀ q : Nat, s.heap.size ≤ q → A q := fun q h => by rw [← hAe]; exact Or.inr h
  have hS : va_S A s.heap s.heap [] := va_S.rf
  have hP : va_P D CL [(h0, .inr (1, [.ref q, .int (nI L)])), (q, .inl (cB, n, .inl f))] s.heap := hP
  have hl := lv_entry [.ref h0, .int i, .int v, .int 2] (n := 5) (Nat.le_of_ble_eq_true rfl)
  rw [lg_entry_eq]
  generalize (lg_sl [.ref h0, .int i, .int v, .int 2] ++ List.replicate (5 - (lg_sl [.ref h0, .int i, .int v, .int 2]).length) Slot.unset).toArray = ls at hl ⊢
  have hl : lv_has ls 5 [(0, .ref h0), (1, .int i), (2, .int v), (3, .int 2)] := hl
  refine lv_iconst (v := 0) hx hb d_Bytes_putBoth_0 (by decide) ?_
  refine lv_istore hx hb d_Bytes_putBoth_1 hl (by decide) rfl (fun ls hl => ?_)
  have hl : lv_has ls 5 [(4, .int 0), (0, .ref h0), (1, .int i), (2, .int v), (3, .int 2)] := hl
  refine lv_iload hx hb d_Bytes_putBoth_3 (lv_at hl 0 rfl) ?_
  refine lv_iload_n hx hb d_Bytes_putBoth_5 rfl (lv_at hl 4 rfl) ?_
  refine lv_icmp_ge (tgt := 51) hx hb d_Bytes_putBoth_6 (by decide) (fun h_6 => absurd h_6 (by decide)) (fun h_6 => ?_)
  refine lv_aload_n hx hb d_Bytes_putBoth_9 rfl (lv_at hl 1 rfl) ?_
  refine lv_iload_n hx hb d_Bytes_putBoth_10 rfl (lv_at hl 2 rfl) ?_
  refine lv_iload hx hb d_Bytes_putBoth_11 (lv_at hl 0 rfl) ?_
  refine lv_iadd hx hb d_Bytes_putBoth_13 ?_
  refine lv_iload_n hx hb d_Bytes_putBoth_14 rfl (lv_at hl 3 rfl) ?_
  refine lv_bipush (v := 8) hx hb d_Bytes_putBoth_15 (by decide) ?_
  refine lv_iload hx hb d_Bytes_putBoth_17 (lv_at hl 0 rfl) ?_
  refine lv_imul hx hb d_Bytes_putBoth_19 ?_
  refine W.eq (g2 := F0 m 20 ls [.int 0, .int v, .int (i + 0), .ref h0]) (by rw [show ((8 * 0) : Int32) = 0 from by decide]) ?_
  refine lv_ishr hx hb d_Bytes_putBoth_20 ?_
  have hPc := hP.sub (ws' := [(h0, .inr (1, [.ref q, .int (nI L)])), (q, .inl (cB, n, .inl f))]) [0, 1] rfl
  have hDc := hD.sub (ws' := [(h0, .inr (1, [.ref q, .int (nI L)])), (q, .inl (cB, n, .inl f))]) [0, 1] (by decide) rfl
  have hFc := va_free (wc := [(h0, .inr (1, [.ref q, .int (nI L)])), (q, .inl (cB, n, .inl f))]) hD hS hA [0, 1] rfl
  have hkc : 0 ≤ 0 := by decide
  have hks : 0 ≤ 0 := by decide
  refine va_callv (va_runV (C := "DiscMaker$Bytes") (As := [.int (i + 0), .int (v >>> (0 &&& 31))]) (rest := []) ⟨hx, hb, hml, hown, hts⟩ (c_put l D cB cI cJ cZ cN cF s.heap.size h0 q L n f (i + 0) (v >>> (0 &&& 31)) hL hn) (cwV 2 hts (lg_goodV k988 k912 k913 k119 kc_Bytes_put) rfl rfl rfl (by decide +kernel) ⟨Nat.le_of_ble_eq_true rfl, Nat.le_of_ble_eq_true rfl⟩) ⟨fun a U g mk q => by obtain ⟨q0, q1, qP, qK, qN, qD⟩ := q; exact ⟨q0, q1, qP, va_K.moved (u := U) (U := U.calling g mk a) (Vm.Alike.refl U.vm) qK, qN.calling, qD⟩, va_recv hK hP (ci := 1) (q0 := 0) rfl rfl, fun U hU hW => ⟨rfl, by rw [hU], by rw [hU]; exact hPc, va_K.moved hW.alike hK, NN.warm hW hN, hDc.weaken (fun _ _ _ _ => trivial)⟩⟩ rfl rfl hl.1 rfl (lv_room (Nat.le_of_ble_eq_true rfl)) d_Bytes_putBoth_21 ⟨hkc, hks⟩) hS (fun q _ h => hFc q h) hFc (fun u t H1 locs ht hvm hp_21 hB hz1 hk1 hS => ?_)
  obtain ⟨g21_15, rfl⟩ : ∃ z, z = u := ⟨_, rfl⟩
  obtain ⟨hP1, hD1⟩ := hB
  rw [ht] at hP1
  obtain ⟨hP, hD⟩ := va_join (wr := []) (w1 := [(h0, .inr (1, [.ref q, .int (nI L)])), (q, .inl (cB, n, .inl g21_15))]) hP hD [0, 1] [] rfl rfl (by decide) (by decide) hk1 hFc hP1 hD1
  clear hPc hDc hFc hP1 hD1 hk1 hz1
  generalize H1 = H at hP hS ⊢
  have hP : va_P D CL [(h0, .inr (1, [.ref q, .int (nI L)])), (q, .inl (cB, n, .inl g21_15))] H := hP
  have hD : va_D A [(h0, .inr (1, [.ref q, .int (nI L)])), (q, .inl (cB, n, .inl g21_15))] := hD
  refine lv_aload_n hx hb d_Bytes_putBoth_24 rfl (lv_at hl 1 rfl) ?_
  refine lv_iload_n hx hb d_Bytes_putBoth_25 rfl (lv_at hl 2 rfl) ?_
  refine lv_iconst (v := 2) hx hb d_Bytes_putBoth_26 (by decide) ?_
  refine lv_iload_n hx hb d_Bytes_putBoth_27 rfl (lv_at hl 4 rfl) ?_
  refine lv_imul hx hb d_Bytes_putBoth_28 ?_
  refine W.eq (g2 := F0 m 29 ls [.int 4, .int i, .ref h0]) (by rw [show ((2 * 2) : Int32) = 4 from by decide]) ?_
  refine lv_iadd hx hb d_Bytes_putBoth_29 ?_
  refine lv_iconst (v := 1) hx hb d_Bytes_putBoth_30 (by decide) ?_
  refine lv_isub hx hb d_Bytes_putBoth_31 ?_
  refine lv_iload hx hb d_Bytes_putBoth_32 (lv_at hl 0 rfl) ?_
  refine lv_isub hx hb d_Bytes_putBoth_34 ?_
  refine lv_iload_n hx hb d_Bytes_putBoth_35 rfl (lv_at hl 3 rfl) ?_
  refine lv_bipush (v := 8) hx hb d_Bytes_putBoth_36 (by decide) ?_
  refine lv_iload hx hb d_Bytes_putBoth_38 (lv_at hl 0 rfl) ?_
  refine lv_imul hx hb d_Bytes_putBoth_40 ?_
  refine W.eq (g2 := F0 m 41 ls [.int 0, .int v, .int (((i + 4) - 1) - 0), .ref h0]) (by rw [show ((8 * 0) : Int32) = 0 from by decide]) ?_
  refine lv_ishr hx hb d_Bytes_putBoth_41 ?_
  have hPc := hP.sub (ws' := [(h0, .inr (1, [.ref q, .int (nI L)])), (q, .inl (cB, n, .inl g21_15))]) [0, 1] rfl
  have hDc := hD.sub (ws' := [(h0, .inr (1, [.ref q, .int (nI L)])), (q, .inl (cB, n, .inl g21_15))]) [0, 1] (by decide) rfl
  have hFc := va_free (wc := [(h0, .inr (1, [.ref q, .int (nI L)])), (q, .inl (cB, n, .inl g21_15))]) hD hS hA [0, 1] rfl
  have hkc : 0 ≤ 0 := by decide
  have hks : 0 ≤ 0 := by decide
  refine va_callv (va_runV (C := "DiscMaker$Bytes") (As := [.int (((i + 4) - 1) - 0), .int (v >>> (0 &&& 31))]) (rest := []) ⟨hx, hb, hml, hown, hts⟩ (c_put l D cB cI cJ cZ cN cF H.size h0 q L n g21_15 (((i + 4) - 1) - 0) (v >>> (0 &&& 31)) hL hn) (cwV 2 hts (lg_goodV k988 k912 k913 k119 kc_Bytes_put) rfl rfl rfl (by decide +kernel) ⟨Nat.le_of_ble_eq_true rfl, Nat.le_of_ble_eq_true rfl⟩) ⟨fun a U g mk q => by obtain ⟨q0, q1, qP, qK, qN, qD⟩ := q; exact ⟨q0, q1, qP, va_K.moved (u := U) (U := U.calling g mk a) (Vm.Alike.refl U.vm) qK, qN.calling, qD⟩, va_recv hK hP (ci := 1) (q0 := 0) rfl rfl, fun U hU hW => ⟨rfl, by rw [hU], by rw [hU]; exact hPc, va_K.moved hW.alike hK, NN.warm hW hN, hDc.weaken (fun _ _ _ _ => trivial)⟩⟩ rfl rfl hl.1 rfl (lv_room (Nat.le_of_ble_eq_true rfl)) d_Bytes_putBoth_42 ⟨hkc, hks⟩) hS (fun q _ h => hFc q h) hFc (fun u t H1 locs ht hvm hp_42 hB hz1 hk1 hS => ?_)
  obtain ⟨g42_31, rfl⟩ : ∃ z, z = u := ⟨_, rfl⟩
  obtain ⟨hP1, hD1⟩ := hB
  rw [ht] at hP1
  obtain ⟨hP, hD⟩ := va_join (wr := []) (w1 := [(h0, .inr (1, [.ref q, .int (nI L)])), (q, .inl (cB, n, .inl g42_31))]) hP hD [0, 1] [] rfl rfl (by decide) (by decide) hk1 hFc hP1 hD1
  clear hPc hDc hFc hP1 hD1 hk1 hz1
  generalize H1 = H at hP hS ⊢
  have hP : va_P D CL [(h0, .inr (1, [.ref q, .int (nI L)])), (q, .inl (cB, n, .inl g42_31))] H := hP
  have hD : va_D A [(h0, .inr (1, [.ref q, .int (nI L)])), (q, .inl (cB, n, .inl g42_31))] := hD
  refine lv_iinc (v := 1) hx hb d_Bytes_putBoth_45 hl (k := 0) rfl (by decide) (by decide) rfl (fun ls hl => ?_)
  have hl : lv_has ls 5 [(4, .int 1), (0, .ref h0), (1, .int i), (2, .int v), (3, .int 2)] := hl
  refine lv_goto (tgt := 3) hx hb d_Bytes_putBoth_48 (by decide) ?_
  refine lv_iload hx hb d_Bytes_putBoth_3 (lv_at hl 0 rfl) ?_
  refine lv_iload_n hx hb d_Bytes_putBoth_5 rfl (lv_at hl 4 rfl) ?_
  refine lv_icmp_ge (tgt := 51) hx hb d_Bytes_putBoth_6 (by decide) (fun h_6 => absurd h_6 (by decide)) (fun h_6 => ?_)
  refine lv_aload_n hx hb d_Bytes_putBoth_9 rfl (lv_at hl 1 rfl) ?_
  refine lv_iload_n hx hb d_Bytes_putBoth_10 rfl (lv_at hl 2 rfl) ?_
  refine lv_iload hx hb d_Bytes_putBoth_11 (lv_at hl 0 rfl) ?_
  refine lv_iadd hx hb d_Bytes_putBoth_13 ?_
  refine lv_iload_n hx hb d_Bytes_putBoth_14 rfl (lv_at hl 3 rfl) ?_
  refine lv_bipush (v := 8) hx hb d_Bytes_putBoth_15 (by decide) ?_
  refine lv_iload hx hb d_Bytes_putBoth_17 (lv_at hl 0 rfl) ?_
  refine lv_imul hx hb d_Bytes_putBoth_19 ?_
  refine W.eq (g2 := F0 m 20 ls [.int 8, .int v, .int (i + 1), .ref h0]) (by rw [show ((8 * 1) : Int32) = 8 from by decide]) ?_
  refine lv_ishr hx hb d_Bytes_putBoth_20 ?_
  have hPc := hP.sub (ws' := [(h0, .inr (1, [.ref q, .int (nI L)])), (q, .inl (cB, n, .inl g42_31))]) [0, 1] rfl
  have hDc := hD.sub (ws' := [(h0, .inr (1, [.ref q, .int (nI L)])), (q, .inl (cB, n, .inl g42_31))]) [0, 1] (by decide) rfl
  have hFc := va_free (wc := [(h0, .inr (1, [.ref q, .int (nI L)])), (q, .inl (cB, n, .inl g42_31))]) hD hS hA [0, 1] rfl
  have hkc : 0 ≤ 0 := by decide
  have hks : 0 ≤ 0 := by decide
  refine va_callv (va_runV (C := "DiscMaker$Bytes") (As := [.int (i + 1), .int (v >>> (8 &&& 31))]) (rest := []) ⟨hx, hb, hml, hown, hts⟩ (c_put l D cB cI cJ cZ cN cF H.size h0 q L n g42_31 (i + 1) (v >>> (8 &&& 31)) hL hn) (cwV 2 hts (lg_goodV k988 k912 k913 k119 kc_Bytes_put) rfl rfl rfl (by decide +kernel) ⟨Nat.le_of_ble_eq_true rfl, Nat.le_of_ble_eq_true rfl⟩) ⟨fun a U g mk q => by obtain ⟨q0, q1, qP, qK, qN, qD⟩ := q; exact ⟨q0, q1, qP, va_K.moved (u := U) (U := U.calling g mk a) (Vm.Alike.refl U.vm) qK, qN.calling, qD⟩, va_recv hK hP (ci := 1) (q0 := 0) rfl rfl, fun U hU hW => ⟨rfl, by rw [hU], by rw [hU]; exact hPc, va_K.moved hW.alike hK, NN.warm hW hN, hDc.weaken (fun _ _ _ _ => trivial)⟩⟩ rfl rfl hl.1 rfl (lv_room (Nat.le_of_ble_eq_true rfl)) d_Bytes_putBoth_21 ⟨hkc, hks⟩) hS (fun q _ h => hFc q h) hFc (fun u t H1 locs ht hvm hp_21 hB hz1 hk1 hS => ?_)
  obtain ⟨g21_46, rfl⟩ : ∃ z, z = u := ⟨_, rfl⟩
  obtain ⟨hP1, hD1⟩ := hB
  rw [ht] at hP1
  obtain ⟨hP, hD⟩ := va_join (wr := []) (w1 := [(h0, .inr (1, [.ref q, .int (nI L)])), (q, .inl (cB, n, .inl g21_46))]) hP hD [0, 1] [] rfl rfl (by decide) (by decide) hk1 hFc hP1 hD1
  clear hPc hDc hFc hP1 hD1 hk1 hz1
  generalize H1 = H at hP hS ⊢
  have hP : va_P D CL [(h0, .inr (1, [.ref q, .int (nI L)])), (q, .inl (cB, n, .inl g21_46))] H := hP
  have hD : va_D A [(h0, .inr (1, [.ref q, .int (nI L)])), (q, .inl (cB, n, .inl g21_46))] := hD
  refine lv_aload_n hx hb d_Bytes_putBoth_24 rfl (lv_at hl 1 rfl) ?_
  refine lv_iload_n hx hb d_Bytes_putBoth_25 rfl (lv_at hl 2 rfl) ?_
  refine lv_iconst (v := 2) hx hb d_Bytes_putBoth_26 (by decide) ?_
  refine lv_iload_n hx hb d_Bytes_putBoth_27 rfl (lv_at hl 4 rfl) ?_
  refine lv_imul hx hb d_Bytes_putBoth_28 ?_
  refine W.eq (g2 := F0 m 29 ls [.int 4, .int i, .ref h0]) (by rw [show ((2 * 2) : Int32) = 4 from by decide]) ?_
  refine lv_iadd hx hb d_Bytes_putBoth_29 ?_
  refine lv_iconst (v := 1) hx hb d_Bytes_putBoth_30 (by decide) ?_
  refine lv_isub hx hb d_Bytes_putBoth_31 ?_
  refine lv_iload hx hb d_Bytes_putBoth_32 (lv_at hl 0 rfl) ?_
  refine lv_isub hx hb d_Bytes_putBoth_34 ?_
  refine lv_iload_n hx hb d_Bytes_putBoth_35 rfl (lv_at hl 3 rfl) ?_
  refine lv_bipush (v := 8) hx hb d_Bytes_putBoth_36 (by decide) ?_
  refine lv_iload hx hb d_Bytes_putBoth_38 (lv_at hl 0 rfl) ?_
  refine lv_imul hx hb d_Bytes_putBoth_40 ?_
  refine W.eq (g2 := F0 m 41 ls [.int 8, .int v, .int (((i + 4) - 1) - 1), .ref h0]) (by rw [show ((8 * 1) : Int32) = 8 from by decide]) ?_
  refine lv_ishr hx hb d_Bytes_putBoth_41 ?_
  have hPc := hP.sub (ws' := [(h0, .inr (1, [.ref q, .int (nI L)])), (q, .inl (cB, n, .inl g21_46))]) [0, 1] rfl
  have hDc := hD.sub (ws' := [(h0, .inr (1, [.ref q, .int (nI L)])), (q, .inl (cB, n, .inl g21_46))]) [0, 1] (by decide) rfl
  have hFc := va_free (wc := [(h0, .inr (1, [.ref q, .int (nI L)])), (q, .inl (cB, n, .inl g21_46))]) hD hS hA [0, 1] rfl
  have hkc : 0 ≤ 0 := by decide
  have hks : 0 ≤ 0 := by decide
  refine va_callv (va_runV (C := "DiscMaker$Bytes") (As := [.int (((i + 4) - 1) - 1), .int (v >>> (8 &&& 31))]) (rest := []) ⟨hx, hb, hml, hown, hts⟩ (c_put l D cB cI cJ cZ cN cF H.size h0 q L n g21_46 (((i + 4) - 1) - 1) (v >>> (8 &&& 31)) hL hn) (cwV 2 hts (lg_goodV k988 k912 k913 k119 kc_Bytes_put) rfl rfl rfl (by decide +kernel) ⟨Nat.le_of_ble_eq_true rfl, Nat.le_of_ble_eq_true rfl⟩) ⟨fun a U g mk q => by obtain ⟨q0, q1, qP, qK, qN, qD⟩ := q; exact ⟨q0, q1, qP, va_K.moved (u := U) (U := U.calling g mk a) (Vm.Alike.refl U.vm) qK, qN.calling, qD⟩, va_recv hK hP (ci := 1) (q0 := 0) rfl rfl, fun U hU hW => ⟨rfl, by rw [hU], by rw [hU]; exact hPc, va_K.moved hW.alike hK, NN.warm hW hN, hDc.weaken (fun _ _ _ _ => trivial)⟩⟩ rfl rfl hl.1 rfl (lv_room (Nat.le_of_ble_eq_true rfl)) d_Bytes_putBoth_42 ⟨hkc, hks⟩) hS (fun q _ h => hFc q h) hFc (fun u t H1 locs ht hvm hp_42 hB hz1 hk1 hS => ?_)
  obtain ⟨g42_62, rfl⟩ : ∃ z, z = u := ⟨_, rfl⟩
  obtain ⟨hP1, hD1⟩ := hB
  rw [ht] at hP1
  obtain ⟨hP, hD⟩ := va_join (wr := []) (w1 := [(h0, .inr (1, [.ref q, .int (nI L)])), (q, .inl (cB, n, .inl g42_62))]) hP hD [0, 1] [] rfl rfl (by decide) (by decide) hk1 hFc hP1 hD1
  clear hPc hDc hFc hP1 hD1 hk1 hz1
  generalize H1 = H at hP hS ⊢
  have hP : va_P D CL [(h0, .inr (1, [.ref q, .int (nI L)])), (q, .inl (cB, n, .inl g42_62))] H := hP
  have hD : va_D A [(h0, .inr (1, [.ref q, .int (nI L)])), (q, .inl (cB, n, .inl g42_62))] := hD
  refine lv_iinc (v := 2) hx hb d_Bytes_putBoth_45 hl (k := 0) rfl (by decide) (by decide) rfl (fun ls hl => ?_)
  have hl : lv_has ls 5 [(4, .int 2), (0, .ref h0), (1, .int i), (2, .int v), (3, .int 2)] := hl
  refine lv_goto (tgt := 3) hx hb d_Bytes_putBoth_48 (by decide) ?_
  refine lv_iload hx hb d_Bytes_putBoth_3 (lv_at hl 0 rfl) ?_
  refine lv_iload_n hx hb d_Bytes_putBoth_5 rfl (lv_at hl 4 rfl) ?_
  refine lv_icmp_ge (tgt := 51) hx hb d_Bytes_putBoth_6 (by decide) (fun h_6 => ?_) (fun h_6 => absurd (by decide) h_6)
  have hP9 := hP.sub (ws' := [(h0, .inr (1, [.ref q, .int (nI L)])), (q, .inl (cB, n, .inl g42_62))]) [0, 1] rfl
  have hD9 := hD.sub (ws' := [(h0, .inr (1, [.ref q, .int (nI L)])), (q, .inl (cB, n, .inl g42_62))]) [0, 1] (by decide) rfl
  exact W.vret hx hb hr (fun t ht hW => ⟨⟨g42_62, rfl, trivial, by rw [ht]; exact hP9, hD9⟩, hS.F ht⟩) hS.2.2 d_Bytes_putBoth_51

set_option maxHeartbeats 4000000 in
set_option maxRecDepth 100000 in
theorem c_putBoth4 (l : Launch) (D : va_G) (cB cI cJ cZ cN cF : ClassId) (sz : Nat) (h0 q L n : Nat) (f : Nat → Int32) (i v : Int32) (hL : L ≤ n) (hn : n < 2147483648) : Met l y_Bytes_putBoth w_Bytes_putBoth ({ frames := 1, cells := 0, slots := 0, locals := 22 }) (va_Pc [.ref h0, .int i, .int v, .int 4] (fun U => U.heap.size = sz ∧ va_P D CL [(h0, .inr (1, [.ref q, .int (nI L)])), (q, .inl (cB, n, .inl f))] U.heap ∧ va_K D CL (TY cB cI cJ cZ cN cF) U ∧ NN U ∧ va_D (fun _ => True) [(h0, .inr (1, [.ref q, .int (nI L)])), (q, .inl (cB, n, .inl f))])) (va_Qv (fun (u : Nat → Int32) => True) (fun (u : Nat → Int32) (t : State) => match u with | g => va_P D CL [(h0, .inr (1, [.ref q, .int (nI L)])), (q, .inl (cB, n, .inl g))] t.heap ∧ va_D (va_A [(h0, .inr (1, [.ref q, .int (nI L)])), (q, .inl (cB, n, .inl f))] sz) [(h0, .inr (1, [.ref q, .int (nI L)])), (q, .inl (cB, n, .inl g))]) (va_A [(h0, .inr (1, [.ref q, .int (nI L)])), (q, .inl (cB, n, .inl f))] sz)) 0 0 (va_A [(h0, .inr (1, [.ref q, .int (nI L)])), (q, .inl (cB, n, .inl f))] sz) := by
  refine Met.ofW (cc := b_Bytes_putBoth) (maxL := 5) (ret := none) (by decide) rfl ?_
  intro p e s m args below meth c s₁ B hml hv
  obtain ⟨rfl, hsz, hP, hK, hN, hD0⟩ := hv
  have hx := B.exec
  have hb := B.bytes
  have hr := B.returns
  have hts := atoms_spec (ws := w_Bytes_putBoth) B.pre
  have ht9 := fun (w : Cond) (h : w ∈ lw_g) => hts w (List.mem_cons_of_mem _ h)
  have hown : s.vm.findClass "DiscMaker$Bytes" = some m.cls := findClass_of_methodNamed B.named
  have hlocks := B.notSynchronized
  subst hsz
  have hD := hD0.self (sz := s.heap.size)
  generalize hAe : va_A [(h0, .inr (1, [.ref q, .int (nI L)])), (q, .inl (cB, n, .inl f))] s.heap.size = A at hD ⊢
  have hA : ∀ q : Nat, s.heap.size ≤ q → A q := fun q h => by rw [← hAe]; exact Or.inr h
  have hS : va_S A s.heap s.heap [] := va_S.rf
  have hP : va_P D CL [(h0, .inr (1, [.ref q, .int (nI L)])), (q, .inl (cB, n, .inl f))] s.heap := hP
  have hl := lv_entry [.ref h0, .int i, .int v, .int 4] (n := 5) (Nat.le_of_ble_eq_true rfl)
  rw [lg_entry_eq]
  generalize (lg_sl [.ref h0, .int i, .int v, .int 4] ++ List.replicate (5 - (lg_sl [.ref h0, .int i, .int v, .int 4]).length) Slot.unset).toArray = ls at hl ⊢
  have hl : lv_has ls 5 [(0, .ref h0), (1, .int i), (2, .int v), (3, .int 4)] := hl
  refine lv_iconst (v := 0) hx hb d_Bytes_putBoth_0 (by decide) ?_
  refine lv_istore hx hb d_Bytes_putBoth_1 hl (by decide) rfl (fun ls hl => ?_)
  have hl : lv_has ls 5 [(4, .int 0), (0, .ref h0), (1, .int i), (2, .int v), (3, .int 4)] := hl
  refine lv_iload hx hb d_Bytes_putBoth_3 (lv_at hl 0 rfl) ?_
  refine lv_iload_n hx hb d_Bytes_putBoth_5 rfl (lv_at hl 4 rfl) ?_
  refine lv_icmp_ge (tgt := 51) hx hb d_Bytes_putBoth_6 (by decide) (fun h_6 => absurd h_6 (by decide)) (fun h_6 => ?_)
  refine lv_aload_n hx hb d_Bytes_putBoth_9 rfl (lv_at hl 1 rfl) ?_
  refine lv_iload_n hx hb d_Bytes_putBoth_10 rfl (lv_at hl 2 rfl) ?_
  refine lv_iload hx hb d_Bytes_putBoth_11 (lv_at hl 0 rfl) ?_
  refine lv_iadd hx hb d_Bytes_putBoth_13 ?_
  refine lv_iload_n hx hb d_Bytes_putBoth_14 rfl (lv_at hl 3 rfl) ?_
  refine lv_bipush (v := 8) hx hb d_Bytes_putBoth_15 (by decide) ?_
  refine lv_iload hx hb d_Bytes_putBoth_17 (lv_at hl 0 rfl) ?_
  refine lv_imul hx hb d_Bytes_putBoth_19 ?_
  refine W.eq (g2 := F0 m 20 ls [.int 0, .int v, .int (i + 0), .ref h0]) (by rw [show ((8 * 0) : Int32) = 0 from by decide]) ?_
  refine lv_ishr hx hb d_Bytes_putBoth_20 ?_
  have hPc := hP.sub (ws' := [(h0, .inr (1, [.ref q, .int (nI L)])), (q, .inl (cB, n, .inl f))]) [0, 1] rfl
  have hDc := hD.sub (ws' := [(h0, .inr (1, [.ref q, .int (nI L)])), (q, .inl (cB, n, .inl f))]) [0, 1] (by decide) rfl
  have hFc := va_free (wc := [(h0, .inr (1, [.ref q, .int (nI L)])), (q, .inl (cB, n, .inl f))]) hD hS hA [0, 1] rfl
  have hkc : 0 ≤ 0 := by decide
  have hks : 0 ≤ 0 := by decide
  refine va_callv (va_runV (C := "DiscMaker$Bytes") (As := [.int (i + 0), .int (v >>> (0 &&& 31))]) (rest := []) ⟨hx, hb, hml, hown, hts⟩ (c_put l D cB cI cJ cZ cN cF s.heap.size h0 q L n f (i + 0) (v >>> (0 &&& 31)) hL hn) (cwV 2 hts (lg_goodV k988 k912 k913 k119 kc_Bytes_put) rfl rfl rfl (by decide +kernel) ⟨Nat.le_of_ble_eq_true rfl, Nat.le_of_ble_eq_true rfl⟩) ⟨fun a U g mk q => by obtain ⟨q0, q1, qP, qK, qN, qD⟩ := q; exact ⟨q0, q1, qP, va_K.moved (u := U) (U := U.calling g mk a) (Vm.Alike.refl U.vm) qK, qN.calling, qD⟩, va_recv hK hP (ci := 1) (q0 := 0) rfl rfl, fun U hU hW => ⟨rfl, by rw [hU], by rw [hU]; exact hPc, va_K.moved hW.alike hK, NN.warm hW hN, hDc.weaken (fun _ _ _ _ => trivial)⟩⟩ rfl rfl hl.1 rfl (lv_room (Nat.le_of_ble_eq_true rfl)) d_Bytes_putBoth_21 ⟨hkc, hks⟩) hS (fun q _ h => hFc q h) hFc (fun u t H1 locs ht hvm hp_21 hB hz1 hk1 hS => ?_)
  obtain ⟨g21_15, rfl⟩ : ∃ z, z = u := ⟨_, rfl⟩
  obtain ⟨hP1, hD1⟩ := hB
  rw [ht] at hP1
  obtain ⟨hP, hD⟩ := va_join (wr := []) (w1 := [(h0, .inr (1, [.ref q, .int (nI L)])), (q, .inl (cB, n, .inl g21_15))]) hP hD [0, 1] [] rfl rfl (by decide) (by decide) hk1 hFc hP1 hD1
  clear hPc hDc hFc hP1 hD1 hk1 hz1
  generalize H1 = H at hP hS ⊢
  have hP : va_P D CL [(h0, .inr (1, [.ref q, .int (nI L)])), (q, .inl (cB, n, .inl g21_15))] H := hP
  have hD : va_D A [(h0, .inr (1, [.ref q, .int (nI L)])), (q, .inl (cB, n, .inl g21_15))] := hD
  refine lv_aload_n hx hb d_Bytes_putBoth_24 rfl (lv_at hl 1 rfl) ?_
  refine lv_iload_n hx hb d_Bytes_putBoth_25 rfl (lv_at hl 2 rfl) ?_
  refine lv_iconst (v := 2) hx hb d_Bytes_putBoth_26 (by decide) ?_
  refine lv_iload_n hx hb d_Bytes_putBoth_27 rfl (lv_at hl 4 rfl) ?_
  refine lv_imul hx hb d_Bytes_putBoth_28 ?_
  refine W.eq (g2 := F0 m 29 ls [.int 8, .int i, .ref h0]) (by rw [show ((2 * 4) : Int32) = 8 from by decide]) ?_
  refine lv_iadd hx hb d_Bytes_putBoth_29 ?_
  refine lv_iconst (v := 1) hx hb d_Bytes_putBoth_30 (by decide) ?_
  refine lv_isub hx hb d_Bytes_putBoth_31 ?_
  refine lv_iload hx hb d_Bytes_putBoth_32 (lv_at hl 0 rfl) ?_
  refine lv_isub hx hb d_Bytes_putBoth_34 ?_
  refine lv_iload_n hx hb d_Bytes_putBoth_35 rfl (lv_at hl 3 rfl) ?_
  refine lv_bipush (v := 8) hx hb d_Bytes_putBoth_36 (by decide) ?_
  refine lv_iload hx hb d_Bytes_putBoth_38 (lv_at hl 0 rfl) ?_
  refine lv_imul hx hb d_Bytes_putBoth_40 ?_
  refine W.eq (g2 := F0 m 41 ls [.int 0, .int v, .int (((i + 8) - 1) - 0), .ref h0]) (by rw [show ((8 * 0) : Int32) = 0 from by decide]) ?_
  refine lv_ishr hx hb d_Bytes_putBoth_41 ?_
  have hPc := hP.sub (ws' := [(h0, .inr (1, [.ref q, .int (nI L)])), (q, .inl (cB, n, .inl g21_15))]) [0, 1] rfl
  have hDc := hD.sub (ws' := [(h0, .inr (1, [.ref q, .int (nI L)])), (q, .inl (cB, n, .inl g21_15))]) [0, 1] (by decide) rfl
  have hFc := va_free (wc := [(h0, .inr (1, [.ref q, .int (nI L)])), (q, .inl (cB, n, .inl g21_15))]) hD hS hA [0, 1] rfl
  have hkc : 0 ≤ 0 := by decide
  have hks : 0 ≤ 0 := by decide
  refine va_callv (va_runV (C := "DiscMaker$Bytes") (As := [.int (((i + 8) - 1) - 0), .int (v >>> (0 &&& 31))]) (rest := []) ⟨hx, hb, hml, hown, hts⟩ (c_put l D cB cI cJ cZ cN cF H.size h0 q L n g21_15 (((i + 8) - 1) - 0) (v >>> (0 &&& 31)) hL hn) (cwV 2 hts (lg_goodV k988 k912 k913 k119 kc_Bytes_put) rfl rfl rfl (by decide +kernel) ⟨Nat.le_of_ble_eq_true rfl, Nat.le_of_ble_eq_true rfl⟩) ⟨fun a U g mk q => by obtain ⟨q0, q1, qP, qK, qN, qD⟩ := q; exact ⟨q0, q1, qP, va_K.moved (u := U) (U := U.calling g mk a) (Vm.Alike.refl U.vm) qK, qN.calling, qD⟩, va_recv hK hP (ci := 1) (q0 := 0) rfl rfl, fun U hU hW => ⟨rfl, by rw [hU], by rw [hU]; exact hPc, va_K.moved hW.alike hK, NN.warm hW hN, hDc.weaken (fun _ _ _ _ => trivial)⟩⟩ rfl rfl hl.1 rfl (lv_room (Nat.le_of_ble_eq_true rfl)) d_Bytes_putBoth_42 ⟨hkc, hks⟩) hS (fun q _ h => hFc q h) hFc (fun u t H1 locs ht hvm hp_42 hB hz1 hk1 hS => ?_)
  obtain ⟨g42_31, rfl⟩ : ∃ z, z = u := ⟨_, rfl⟩
  obtain ⟨hP1, hD1⟩ := hB
  rw [ht] at hP1
  obtain ⟨hP, hD⟩ := va_join (wr := []) (w1 := [(h0, .inr (1, [.ref q, .int (nI L)])), (q, .inl (cB, n, .inl g42_31))]) hP hD [0, 1] [] rfl rfl (by decide) (by decide) hk1 hFc hP1 hD1
  clear hPc hDc hFc hP1 hD1 hk1 hz1
  generalize H1 = H at hP hS ⊢
  have hP : va_P D CL [(h0, .inr (1, [.ref q, .int (nI L)])), (q, .inl (cB, n, .inl g42_31))] H := hP
  have hD : va_D A [(h0, .inr (1, [.ref q, .int (nI L)])), (q, .inl (cB, n, .inl g42_31))] := hD
  refine lv_iinc (v := 1) hx hb d_Bytes_putBoth_45 hl (k := 0) rfl (by decide) (by decide) rfl (fun ls hl => ?_)
  have hl : lv_has ls 5 [(4, .int 1), (0, .ref h0), (1, .int i), (2, .int v), (3, .int 4)] := hl
  refine lv_goto (tgt := 3) hx hb d_Bytes_putBoth_48 (by decide) ?_
  refine lv_iload hx hb d_Bytes_putBoth_3 (lv_at hl 0 rfl) ?_
  refine lv_iload_n hx hb d_Bytes_putBoth_5 rfl (lv_at hl 4 rfl) ?_
  refine lv_icmp_ge (tgt := 51) hx hb d_Bytes_putBoth_6 (by decide) (fun h_6 => absurd h_6 (by decide)) (fun h_6 => ?_)
  refine lv_aload_n hx hb d_Bytes_putBoth_9 rfl (lv_at hl 1 rfl) ?_
  refine lv_iload_n hx hb d_Bytes_putBoth_10 rfl (lv_at hl 2 rfl) ?_
  refine lv_iload hx hb d_Bytes_putBoth_11 (lv_at hl 0 rfl) ?_
  refine lv_iadd hx hb d_Bytes_putBoth_13 ?_
  refine lv_iload_n hx hb d_Bytes_putBoth_14 rfl (lv_at hl 3 rfl) ?_
  refine lv_bipush (v := 8) hx hb d_Bytes_putBoth_15 (by decide) ?_
  refine lv_iload hx hb d_Bytes_putBoth_17 (lv_at hl 0 rfl) ?_
  refine lv_imul hx hb d_Bytes_putBoth_19 ?_
  refine W.eq (g2 := F0 m 20 ls [.int 8, .int v, .int (i + 1), .ref h0]) (by rw [show ((8 * 1) : Int32) = 8 from by decide]) ?_
  refine lv_ishr hx hb d_Bytes_putBoth_20 ?_
  have hPc := hP.sub (ws' := [(h0, .inr (1, [.ref q, .int (nI L)])), (q, .inl (cB, n, .inl g42_31))]) [0, 1] rfl
  have hDc := hD.sub (ws' := [(h0, .inr (1, [.ref q, .int (nI L)])), (q, .inl (cB, n, .inl g42_31))]) [0, 1] (by decide) rfl
  have hFc := va_free (wc := [(h0, .inr (1, [.ref q, .int (nI L)])), (q, .inl (cB, n, .inl g42_31))]) hD hS hA [0, 1] rfl
  have hkc : 0 ≤ 0 := by decide
  have hks : 0 ≤ 0 := by decide
  refine va_callv (va_runV (C := "DiscMaker$Bytes") (As := [.int (i + 1), .int (v >>> (8 &&& 31))]) (rest := []) ⟨hx, hb, hml, hown, hts⟩ (c_put l D cB cI cJ cZ cN cF H.size h0 q L n g42_31 (i + 1) (v >>> (8 &&& 31)) hL hn) (cwV 2 hts (lg_goodV k988 k912 k913 k119 kc_Bytes_put) rfl rfl rfl (by decide +kernel) ⟨Nat.le_of_ble_eq_true rfl, Nat.le_of_ble_eq_true rfl⟩) ⟨fun a U g mk q => by obtain ⟨q0, q1, qP, qK, qN, qD⟩ := q; exact ⟨q0, q1, qP, va_K.moved (u := U) (U := U.calling g mk a) (Vm.Alike.refl U.vm) qK, qN.calling, qD⟩, va_recv hK hP (ci := 1) (q0 := 0) rfl rfl, fun U hU hW => ⟨rfl, by rw [hU], by rw [hU]; exact hPc, va_K.moved hW.alike hK, NN.warm hW hN, hDc.weaken (fun _ _ _ _ => trivial)⟩⟩ rfl rfl hl.1 rfl (lv_room (Nat.le_of_ble_eq_true rfl)) d_Bytes_putBoth_21 ⟨hkc, hks⟩) hS (fun q _ h => hFc q h) hFc (fun u t H1 locs ht hvm hp_21 hB hz1 hk1 hS => ?_)
  obtain ⟨g21_46, rfl⟩ : ∃ z, z = u := ⟨_, rfl⟩
  obtain ⟨hP1, hD1⟩ := hB
  rw [ht] at hP1
  obtain ⟨hP, hD⟩ := va_join (wr := []) (w1 := [(h0, .inr (1, [.ref q, .int (nI L)])), (q, .inl (cB, n, .inl g21_46))]) hP hD [0, 1] [] rfl rfl (by decide) (by decide) hk1 hFc hP1 hD1
  clear hPc hDc hFc hP1 hD1 hk1 hz1
  generalize H1 = H at hP hS ⊢
  have hP : va_P D CL [(h0, .inr (1, [.ref q, .int (nI L)])), (q, .inl (cB, n, .inl g21_46))] H := hP
  have hD : va_D A [(h0, .inr (1, [.ref q, .int (nI L)])), (q, .inl (cB, n, .inl g21_46))] := hD
  refine lv_aload_n hx hb d_Bytes_putBoth_24 rfl (lv_at hl 1 rfl) ?_
  refine lv_iload_n hx hb d_Bytes_putBoth_25 rfl (lv_at hl 2 rfl) ?_
  refine lv_iconst (v := 2) hx hb d_Bytes_putBoth_26 (by decide) ?_
  refine lv_iload_n hx hb d_Bytes_putBoth_27 rfl (lv_at hl 4 rfl) ?_
  refine lv_imul hx hb d_Bytes_putBoth_28 ?_
  refine W.eq (g2 := F0 m 29 ls [.int 8, .int i, .ref h0]) (by rw [show ((2 * 4) : Int32) = 8 from by decide]) ?_
  refine lv_iadd hx hb d_Bytes_putBoth_29 ?_
  refine lv_iconst (v := 1) hx hb d_Bytes_putBoth_30 (by decide) ?_
  refine lv_isub hx hb d_Bytes_putBoth_31 ?_
  refine lv_iload hx hb d_Bytes_putBoth_32 (lv_at hl 0 rfl) ?_
  refine lv_isub hx hb d_Bytes_putBoth_34 ?_
  refine lv_iload_n hx hb d_Bytes_putBoth_35 rfl (lv_at hl 3 rfl) ?_
  refine lv_bipush (v := 8) hx hb d_Bytes_putBoth_36 (by decide) ?_
  refine lv_iload hx hb d_Bytes_putBoth_38 (lv_at hl 0 rfl) ?_
  refine lv_imul hx hb d_Bytes_putBoth_40 ?_
  refine W.eq (g2 := F0 m 41 ls [.int 8, .int v, .int (((i + 8) - 1) - 1), .ref h0]) (by rw [show ((8 * 1) : Int32) = 8 from by decide]) ?_
  refine lv_ishr hx hb d_Bytes_putBoth_41 ?_
  have hPc := hP.sub (ws' := [(h0, .inr (1, [.ref q, .int (nI L)])), (q, .inl (cB, n, .inl g21_46))]) [0, 1] rfl
  have hDc := hD.sub (ws' := [(h0, .inr (1, [.ref q, .int (nI L)])), (q, .inl (cB, n, .inl g21_46))]) [0, 1] (by decide) rfl
  have hFc := va_free (wc := [(h0, .inr (1, [.ref q, .int (nI L)])), (q, .inl (cB, n, .inl g21_46))]) hD hS hA [0, 1] rfl
  have hkc : 0 ≤ 0 := by decide
  have hks : 0 ≤ 0 := by decide
  refine va_callv (va_runV (C := "DiscMaker$Bytes") (As := [.int (((i + 8) - 1) - 1), .int (v >>> (8 &&& 31))]) (rest := []) ⟨hx, hb, hml, hown, hts⟩ (c_put l D cB cI cJ cZ cN cF H.size h0 q L n g21_46 (((i + 8) - 1) - 1) (v >>> (8 &&& 31)) hL hn) (cwV 2 hts (lg_goodV k988 k912 k913 k119 kc_Bytes_put) rfl rfl rfl (by decide +kernel) ⟨Nat.le_of_ble_eq_true rfl, Nat.le_of_ble_eq_true rfl⟩) ⟨fun a U g mk q => by obtain ⟨q0, q1, qP, qK, qN, qD⟩ := q; exact ⟨q0, q1, qP, va_K.moved (u := U) (U := U.calling g mk a) (Vm.Alike.refl U.vm) qK, qN.calling, qD⟩, va_recv hK hP (ci := 1) (q0 := 0) rfl rfl, fun U hU hW => ⟨rfl, by rw [hU], by rw [hU]; exact hPc, va_K.moved hW.alike hK, NN.warm hW hN, hDc.weaken (fun _ _ _ _ => trivial)⟩⟩ rfl rfl hl.1 rfl (lv_room (Nat.le_of_ble_eq_true rfl)) d_Bytes_putBoth_42 ⟨hkc, hks⟩) hS (fun q _ h => hFc q h) hFc (fun u t H1 locs ht hvm hp_42 hB hz1 hk1 hS => ?_)
  obtain ⟨g42_62, rfl⟩ : ∃ z, z = u := ⟨_, rfl⟩
  obtain ⟨hP1, hD1⟩ := hB
  rw [ht] at hP1
  obtain ⟨hP, hD⟩ := va_join (wr := []) (w1 := [(h0, .inr (1, [.ref q, .int (nI L)])), (q, .inl (cB, n, .inl g42_62))]) hP hD [0, 1] [] rfl rfl (by decide) (by decide) hk1 hFc hP1 hD1
  clear hPc hDc hFc hP1 hD1 hk1 hz1
  generalize H1 = H at hP hS ⊢
  have hP : va_P D CL [(h0, .inr (1, [.ref q, .int (nI L)])), (q, .inl (cB, n, .inl g42_62))] H := hP
  have hD : va_D A [(h0, .inr (1, [.ref q, .int (nI L)])), (q, .inl (cB, n, .inl g42_62))] := hD
  refine lv_iinc (v := 2) hx hb d_Bytes_putBoth_45 hl (k := 0) rfl (by decide) (by decide) rfl (fun ls hl => ?_)
  have hl : lv_has ls 5 [(4, .int 2), (0, .ref h0), (1, .int i), (2, .int v), (3, .int 4)] := hl
  refine lv_goto (tgt := 3) hx hb d_Bytes_putBoth_48 (by decide) ?_
  refine lv_iload hx hb d_Bytes_putBoth_3 (lv_at hl 0 rfl) ?_
  refine lv_iload_n hx hb d_Bytes_putBoth_5 rfl (lv_at hl 4 rfl) ?_
  refine lv_icmp_ge (tgt := 51) hx hb d_Bytes_putBoth_6 (by decide) (fun h_6 => absurd h_6 (by decide)) (fun h_6 => ?_)
  refine lv_aload_n hx hb d_Bytes_putBoth_9 rfl (lv_at hl 1 rfl) ?_
  refine lv_iload_n hx hb d_Bytes_putBoth_10 rfl (lv_at hl 2 rfl) ?_
  refine lv_iload hx hb d_Bytes_putBoth_11 (lv_at hl 0 rfl) ?_
  refine lv_iadd hx hb d_Bytes_putBoth_13 ?_
  refine lv_iload_n hx hb d_Bytes_putBoth_14 rfl (lv_at hl 3 rfl) ?_
  refine lv_bipush (v := 8) hx hb d_Bytes_putBoth_15 (by decide) ?_
  refine lv_iload hx hb d_Bytes_putBoth_17 (lv_at hl 0 rfl) ?_
  refine lv_imul hx hb d_Bytes_putBoth_19 ?_
  refine W.eq (g2 := F0 m 20 ls [.int 16, .int v, .int (i + 2), .ref h0]) (by rw [show ((8 * 2) : Int32) = 16 from by decide]) ?_
  refine lv_ishr hx hb d_Bytes_putBoth_20 ?_
  have hPc := hP.sub (ws' := [(h0, .inr (1, [.ref q, .int (nI L)])), (q, .inl (cB, n, .inl g42_62))]) [0, 1] rfl
  have hDc := hD.sub (ws' := [(h0, .inr (1, [.ref q, .int (nI L)])), (q, .inl (cB, n, .inl g42_62))]) [0, 1] (by decide) rfl
  have hFc := va_free (wc := [(h0, .inr (1, [.ref q, .int (nI L)])), (q, .inl (cB, n, .inl g42_62))]) hD hS hA [0, 1] rfl
  have hkc : 0 ≤ 0 := by decide
  have hks : 0 ≤ 0 := by decide
  refine va_callv (va_runV (C := "DiscMaker$Bytes") (As := [.int (i + 2), .int (v >>> (16 &&& 31))]) (rest := []) ⟨hx, hb, hml, hown, hts⟩ (c_put l D cB cI cJ cZ cN cF H.size h0 q L n g42_62 (i + 2) (v >>> (16 &&& 31)) hL hn) (cwV 2 hts (lg_goodV k988 k912 k913 k119 kc_Bytes_put) rfl rfl rfl (by decide +kernel) ⟨Nat.le_of_ble_eq_true rfl, Nat.le_of_ble_eq_true rfl⟩) ⟨fun a U g mk q => by obtain ⟨q0, q1, qP, qK, qN, qD⟩ := q; exact ⟨q0, q1, qP, va_K.moved (u := U) (U := U.calling g mk a) (Vm.Alike.refl U.vm) qK, qN.calling, qD⟩, va_recv hK hP (ci := 1) (q0 := 0) rfl rfl, fun U hU hW => ⟨rfl, by rw [hU], by rw [hU]; exact hPc, va_K.moved hW.alike hK, NN.warm hW hN, hDc.weaken (fun _ _ _ _ => trivial)⟩⟩ rfl rfl hl.1 rfl (lv_room (Nat.le_of_ble_eq_true rfl)) d_Bytes_putBoth_21 ⟨hkc, hks⟩) hS (fun q _ h => hFc q h) hFc (fun u t H1 locs ht hvm hp_21 hB hz1 hk1 hS => ?_)
  obtain ⟨g21_77, rfl⟩ : ∃ z, z = u := ⟨_, rfl⟩
  obtain ⟨hP1, hD1⟩ := hB
  rw [ht] at hP1
  obtain ⟨hP, hD⟩ := va_join (wr := []) (w1 := [(h0, .inr (1, [.ref q, .int (nI L)])), (q, .inl (cB, n, .inl g21_77))]) hP hD [0, 1] [] rfl rfl (by decide) (by decide) hk1 hFc hP1 hD1
  clear hPc hDc hFc hP1 hD1 hk1 hz1
  generalize H1 = H at hP hS ⊢
  have hP : va_P D CL [(h0, .inr (1, [.ref q, .int (nI L)])), (q, .inl (cB, n, .inl g21_77))] H := hP
  have hD : va_D A [(h0, .inr (1, [.ref q, .int (nI L)])), (q, .inl (cB, n, .inl g21_77))] := hD
  refine lv_aload_n hx hb d_Bytes_putBoth_24 rfl (lv_at hl 1 rfl) ?_
  refine lv_iload_n hx hb d_Bytes_putBoth_25 rfl (lv_at hl 2 rfl) ?_
  refine lv_iconst (v := 2) hx hb d_Bytes_putBoth_26 (by decide) ?_
  refine lv_iload_n hx hb d_Bytes_putBoth_27 rfl (lv_at hl 4 rfl) ?_
  refine lv_imul hx hb d_Bytes_putBoth_28 ?_
  refine W.eq (g2 := F0 m 29 ls [.int 8, .int i, .ref h0]) (by rw [show ((2 * 4) : Int32) = 8 from by decide]) ?_
  refine lv_iadd hx hb d_Bytes_putBoth_29 ?_
  refine lv_iconst (v := 1) hx hb d_Bytes_putBoth_30 (by decide) ?_
  refine lv_isub hx hb d_Bytes_putBoth_31 ?_
  refine lv_iload hx hb d_Bytes_putBoth_32 (lv_at hl 0 rfl) ?_
  refine lv_isub hx hb d_Bytes_putBoth_34 ?_
  refine lv_iload_n hx hb d_Bytes_putBoth_35 rfl (lv_at hl 3 rfl) ?_
  refine lv_bipush (v := 8) hx hb d_Bytes_putBoth_36 (by decide) ?_
  refine lv_iload hx hb d_Bytes_putBoth_38 (lv_at hl 0 rfl) ?_
  refine lv_imul hx hb d_Bytes_putBoth_40 ?_
  refine W.eq (g2 := F0 m 41 ls [.int 16, .int v, .int (((i + 8) - 1) - 2), .ref h0]) (by rw [show ((8 * 2) : Int32) = 16 from by decide]) ?_
  refine lv_ishr hx hb d_Bytes_putBoth_41 ?_
  have hPc := hP.sub (ws' := [(h0, .inr (1, [.ref q, .int (nI L)])), (q, .inl (cB, n, .inl g21_77))]) [0, 1] rfl
  have hDc := hD.sub (ws' := [(h0, .inr (1, [.ref q, .int (nI L)])), (q, .inl (cB, n, .inl g21_77))]) [0, 1] (by decide) rfl
  have hFc := va_free (wc := [(h0, .inr (1, [.ref q, .int (nI L)])), (q, .inl (cB, n, .inl g21_77))]) hD hS hA [0, 1] rfl
  have hkc : 0 ≤ 0 := by decide
  have hks : 0 ≤ 0 := by decide
  refine va_callv (va_runV (C := "DiscMaker$Bytes") (As := [.int (((i + 8) - 1) - 2), .int (v >>> (16 &&& 31))]) (rest := []) ⟨hx, hb, hml, hown, hts⟩ (c_put l D cB cI cJ cZ cN cF H.size h0 q L n g21_77 (((i + 8) - 1) - 2) (v >>> (16 &&& 31)) hL hn) (cwV 2 hts (lg_goodV k988 k912 k913 k119 kc_Bytes_put) rfl rfl rfl (by decide +kernel) ⟨Nat.le_of_ble_eq_true rfl, Nat.le_of_ble_eq_true rfl⟩) ⟨fun a U g mk q => by obtain ⟨q0, q1, qP, qK, qN, qD⟩ := q; exact ⟨q0, q1, qP, va_K.moved (u := U) (U := U.calling g mk a) (Vm.Alike.refl U.vm) qK, qN.calling, qD⟩, va_recv hK hP (ci := 1) (q0 := 0) rfl rfl, fun U hU hW => ⟨rfl, by rw [hU], by rw [hU]; exact hPc, va_K.moved hW.alike hK, NN.warm hW hN, hDc.weaken (fun _ _ _ _ => trivial)⟩⟩ rfl rfl hl.1 rfl (lv_room (Nat.le_of_ble_eq_true rfl)) d_Bytes_putBoth_42 ⟨hkc, hks⟩) hS (fun q _ h => hFc q h) hFc (fun u t H1 locs ht hvm hp_42 hB hz1 hk1 hS => ?_)
  obtain ⟨g42_93, rfl⟩ : ∃ z, z = u := ⟨_, rfl⟩
  obtain ⟨hP1, hD1⟩ := hB
  rw [ht] at hP1
  obtain ⟨hP, hD⟩ := va_join (wr := []) (w1 := [(h0, .inr (1, [.ref q, .int (nI L)])), (q, .inl (cB, n, .inl g42_93))]) hP hD [0, 1] [] rfl rfl (by decide) (by decide) hk1 hFc hP1 hD1
  clear hPc hDc hFc hP1 hD1 hk1 hz1
  generalize H1 = H at hP hS ⊢
  have hP : va_P D CL [(h0, .inr (1, [.ref q, .int (nI L)])), (q, .inl (cB, n, .inl g42_93))] H := hP
  have hD : va_D A [(h0, .inr (1, [.ref q, .int (nI L)])), (q, .inl (cB, n, .inl g42_93))] := hD
  refine lv_iinc (v := 3) hx hb d_Bytes_putBoth_45 hl (k := 0) rfl (by decide) (by decide) rfl (fun ls hl => ?_)
  have hl : lv_has ls 5 [(4, .int 3), (0, .ref h0), (1, .int i), (2, .int v), (3, .int 4)] := hl
  refine lv_goto (tgt := 3) hx hb d_Bytes_putBoth_48 (by decide) ?_
  refine lv_iload hx hb d_Bytes_putBoth_3 (lv_at hl 0 rfl) ?_
  refine lv_iload_n hx hb d_Bytes_putBoth_5 rfl (lv_at hl 4 rfl) ?_
  refine lv_icmp_ge (tgt := 51) hx hb d_Bytes_putBoth_6 (by decide) (fun h_6 => absurd h_6 (by decide)) (fun h_6 => ?_)
  refine lv_aload_n hx hb d_Bytes_putBoth_9 rfl (lv_at hl 1 rfl) ?_
  refine lv_iload_n hx hb d_Bytes_putBoth_10 rfl (lv_at hl 2 rfl) ?_
  refine lv_iload hx hb d_Bytes_putBoth_11 (lv_at hl 0 rfl) ?_
  refine lv_iadd hx hb d_Bytes_putBoth_13 ?_
  refine lv_iload_n hx hb d_Bytes_putBoth_14 rfl (lv_at hl 3 rfl) ?_
  refine lv_bipush (v := 8) hx hb d_Bytes_putBoth_15 (by decide) ?_
  refine lv_iload hx hb d_Bytes_putBoth_17 (lv_at hl 0 rfl) ?_
  refine lv_imul hx hb d_Bytes_putBoth_19 ?_
  refine W.eq (g2 := F0 m 20 ls [.int 24, .int v, .int (i + 3), .ref h0]) (by rw [show ((8 * 3) : Int32) = 24 from by decide]) ?_
  refine lv_ishr hx hb d_Bytes_putBoth_20 ?_
  have hPc := hP.sub (ws' := [(h0, .inr (1, [.ref q, .int (nI L)])), (q, .inl (cB, n, .inl g42_93))]) [0, 1] rfl
  have hDc := hD.sub (ws' := [(h0, .inr (1, [.ref q, .int (nI L)])), (q, .inl (cB, n, .inl g42_93))]) [0, 1] (by decide) rfl
  have hFc := va_free (wc := [(h0, .inr (1, [.ref q, .int (nI L)])), (q, .inl (cB, n, .inl g42_93))]) hD hS hA [0, 1] rfl
  have hkc : 0 ≤ 0 := by decide
  have hks : 0 ≤ 0 := by decide
  refine va_callv (va_runV (C := "DiscMaker$Bytes") (As := [.int (i + 3), .int (v >>> (24 &&& 31))]) (rest := []) ⟨hx, hb, hml, hown, hts⟩ (c_put l D cB cI cJ cZ cN cF H.size h0 q L n g42_93 (i + 3) (v >>> (24 &&& 31)) hL hn) (cwV 2 hts (lg_goodV k988 k912 k913 k119 kc_Bytes_put) rfl rfl rfl (by decide +kernel) ⟨Nat.le_of_ble_eq_true rfl, Nat.le_of_ble_eq_true rfl⟩) ⟨fun a U g mk q => by obtain ⟨q0, q1, qP, qK, qN, qD⟩ := q; exact ⟨q0, q1, qP, va_K.moved (u := U) (U := U.calling g mk a) (Vm.Alike.refl U.vm) qK, qN.calling, qD⟩, va_recv hK hP (ci := 1) (q0 := 0) rfl rfl, fun U hU hW => ⟨rfl, by rw [hU], by rw [hU]; exact hPc, va_K.moved hW.alike hK, NN.warm hW hN, hDc.weaken (fun _ _ _ _ => trivial)⟩⟩ rfl rfl hl.1 rfl (lv_room (Nat.le_of_ble_eq_true rfl)) d_Bytes_putBoth_21 ⟨hkc, hks⟩) hS (fun q _ h => hFc q h) hFc (fun u t H1 locs ht hvm hp_21 hB hz1 hk1 hS => ?_)
  obtain ⟨g21_108, rfl⟩ : ∃ z, z = u := ⟨_, rfl⟩
  obtain ⟨hP1, hD1⟩ := hB
  rw [ht] at hP1
  obtain ⟨hP, hD⟩ := va_join (wr := []) (w1 := [(h0, .inr (1, [.ref q, .int (nI L)])), (q, .inl (cB, n, .inl g21_108))]) hP hD [0, 1] [] rfl rfl (by decide) (by decide) hk1 hFc hP1 hD1
  clear hPc hDc hFc hP1 hD1 hk1 hz1
  generalize H1 = H at hP hS ⊢
  have hP : va_P D CL [(h0, .inr (1, [.ref q, .int (nI L)])), (q, .inl (cB, n, .inl g21_108))] H := hP
  have hD : va_D A [(h0, .inr (1, [.ref q, .int (nI L)])), (q, .inl (cB, n, .inl g21_108))] := hD
  refine lv_aload_n hx hb d_Bytes_putBoth_24 rfl (lv_at hl 1 rfl) ?_
  refine lv_iload_n hx hb d_Bytes_putBoth_25 rfl (lv_at hl 2 rfl) ?_
  refine lv_iconst (v := 2) hx hb d_Bytes_putBoth_26 (by decide) ?_
  refine lv_iload_n hx hb d_Bytes_putBoth_27 rfl (lv_at hl 4 rfl) ?_
  refine lv_imul hx hb d_Bytes_putBoth_28 ?_
  refine W.eq (g2 := F0 m 29 ls [.int 8, .int i, .ref h0]) (by rw [show ((2 * 4) : Int32) = 8 from by decide]) ?_
  refine lv_iadd hx hb d_Bytes_putBoth_29 ?_
  refine lv_iconst (v := 1) hx hb d_Bytes_putBoth_30 (by decide) ?_
  refine lv_isub hx hb d_Bytes_putBoth_31 ?_
  refine lv_iload hx hb d_Bytes_putBoth_32 (lv_at hl 0 rfl) ?_
  refine lv_isub hx hb d_Bytes_putBoth_34 ?_
  refine lv_iload_n hx hb d_Bytes_putBoth_35 rfl (lv_at hl 3 rfl) ?_
  refine lv_bipush (v := 8) hx hb d_Bytes_putBoth_36 (by decide) ?_
  refine lv_iload hx hb d_Bytes_putBoth_38 (lv_at hl 0 rfl) ?_
  refine lv_imul hx hb d_Bytes_putBoth_40 ?_
  refine W.eq (g2 := F0 m 41 ls [.int 24, .int v, .int (((i + 8) - 1) - 3), .ref h0]) (by rw [show ((8 * 3) : Int32) = 24 from by decide]) ?_
  refine lv_ishr hx hb d_Bytes_putBoth_41 ?_
  have hPc := hP.sub (ws' := [(h0, .inr (1, [.ref q, .int (nI L)])), (q, .inl (cB, n, .inl g21_108))]) [0, 1] rfl
  have hDc := hD.sub (ws' := [(h0, .inr (1, [.ref q, .int (nI L)])), (q, .inl (cB, n, .inl g21_108))]) [0, 1] (by decide) rfl
  have hFc := va_free (wc := [(h0, .inr (1, [.ref q, .int (nI L)])), (q, .inl (cB, n, .inl g21_108))]) hD hS hA [0, 1] rfl
  have hkc : 0 ≤ 0 := by decide
  have hks : 0 ≤ 0 := by decide
  refine va_callv (va_runV (C := "DiscMaker$Bytes") (As := [.int (((i + 8) - 1) - 3), .int (v >>> (24 &&& 31))]) (rest := []) ⟨hx, hb, hml, hown, hts⟩ (c_put l D cB cI cJ cZ cN cF H.size h0 q L n g21_108 (((i + 8) - 1) - 3) (v >>> (24 &&& 31)) hL hn) (cwV 2 hts (lg_goodV k988 k912 k913 k119 kc_Bytes_put) rfl rfl rfl (by decide +kernel) ⟨Nat.le_of_ble_eq_true rfl, Nat.le_of_ble_eq_true rfl⟩) ⟨fun a U g mk q => by obtain ⟨q0, q1, qP, qK, qN, qD⟩ := q; exact ⟨q0, q1, qP, va_K.moved (u := U) (U := U.calling g mk a) (Vm.Alike.refl U.vm) qK, qN.calling, qD⟩, va_recv hK hP (ci := 1) (q0 := 0) rfl rfl, fun U hU hW => ⟨rfl, by rw [hU], by rw [hU]; exact hPc, va_K.moved hW.alike hK, NN.warm hW hN, hDc.weaken (fun _ _ _ _ => trivial)⟩⟩ rfl rfl hl.1 rfl (lv_room (Nat.le_of_ble_eq_true rfl)) d_Bytes_putBoth_42 ⟨hkc, hks⟩) hS (fun q _ h => hFc q h) hFc (fun u t H1 locs ht hvm hp_42 hB hz1 hk1 hS => ?_)
  obtain ⟨g42_124, rfl⟩ : ∃ z, z = u := ⟨_, rfl⟩
  obtain ⟨hP1, hD1⟩ := hB
  rw [ht] at hP1
  obtain ⟨hP, hD⟩ := va_join (wr := []) (w1 := [(h0, .inr (1, [.ref q, .int (nI L)])), (q, .inl (cB, n, .inl g42_124))]) hP hD [0, 1] [] rfl rfl (by decide) (by decide) hk1 hFc hP1 hD1
  clear hPc hDc hFc hP1 hD1 hk1 hz1
  generalize H1 = H at hP hS ⊢
  have hP : va_P D CL [(h0, .inr (1, [.ref q, .int (nI L)])), (q, .inl (cB, n, .inl g42_124))] H := hP
  have hD : va_D A [(h0, .inr (1, [.ref q, .int (nI L)])), (q, .inl (cB, n, .inl g42_124))] := hD
  refine lv_iinc (v := 4) hx hb d_Bytes_putBoth_45 hl (k := 0) rfl (by decide) (by decide) rfl (fun ls hl => ?_)
  have hl : lv_has ls 5 [(4, .int 4), (0, .ref h0), (1, .int i), (2, .int v), (3, .int 4)] := hl
  refine lv_goto (tgt := 3) hx hb d_Bytes_putBoth_48 (by decide) ?_
  refine lv_iload hx hb d_Bytes_putBoth_3 (lv_at hl 0 rfl) ?_
  refine lv_iload_n hx hb d_Bytes_putBoth_5 rfl (lv_at hl 4 rfl) ?_
  refine lv_icmp_ge (tgt := 51) hx hb d_Bytes_putBoth_6 (by decide) (fun h_6 => ?_) (fun h_6 => absurd (by decide) h_6)
  have hP9 := hP.sub (ws' := [(h0, .inr (1, [.ref q, .int (nI L)])), (q, .inl (cB, n, .inl g42_124))]) [0, 1] rfl
  have hD9 := hD.sub (ws' := [(h0, .inr (1, [.ref q, .int (nI L)])), (q, .inl (cB, n, .inl g42_124))]) [0, 1] (by decide) rfl
  exact W.vret hx hb hr (fun t ht hW => ⟨⟨g42_124, rfl, trivial, by rw [ht]; exact hP9, hD9⟩, hS.F ht⟩) hS.2.2 d_Bytes_putBoth_51

theorem d_Bytes_putRow_0 : decode b_Bytes_putRow 0 = .ok (.iconst 0, 1) := by decide +kernel
theorem d_Bytes_putRow_1 : decode b_Bytes_putRow 1 = .ok (.istore_n 3, 1) := by decide +kernel
theorem d_Bytes_putRow_2 : decode b_Bytes_putRow 2 = .ok (.iload_n 3, 1) := by decide +kernel
theorem d_Bytes_putRow_3 : decode b_Bytes_putRow 3 = .ok (.aload_n 2, 1) := by decide +kernel
theorem d_Bytes_putRow_4 : decode b_Bytes_putRow 4 = .ok (.arraylength, 1) := by decide +kernel
theorem d_Bytes_putRow_5 : decode b_Bytes_putRow 5 = .ok (.if_icmp .ge 19, 3) := by decide +kernel
theorem d_Bytes_putRow_8 : decode b_Bytes_putRow 8 = .ok (.aload_n 0, 1) := by decide +kernel
theorem d_Bytes_putRow_9 : decode b_Bytes_putRow 9 = .ok (.iload_n 1, 1) := by decide +kernel
theorem d_Bytes_putRow_10 : decode b_Bytes_putRow 10 = .ok (.iload_n 3, 1) := by decide +kernel
theorem d_Bytes_putRow_11 : decode b_Bytes_putRow 11 = .ok (.iadd, 1) := by decide +kernel
theorem d_Bytes_putRow_12 : decode b_Bytes_putRow 12 = .ok (.aload_n 2, 1) := by decide +kernel
theorem d_Bytes_putRow_13 : decode b_Bytes_putRow 13 = .ok (.iload_n 3, 1) := by decide +kernel
theorem d_Bytes_putRow_14 : decode b_Bytes_putRow 14 = .ok (.baload, 1) := by decide +kernel
theorem d_Bytes_putRow_15 : decode b_Bytes_putRow 15 = .ok (.invokevirtual 29, 3) := by decide +kernel
theorem d_Bytes_putRow_18 : decode b_Bytes_putRow 18 = .ok (.iinc 3 1, 3) := by decide +kernel
theorem d_Bytes_putRow_21 : decode b_Bytes_putRow 21 = .ok (.goto (-19), 3) := by decide +kernel
theorem d_Bytes_putRow_24 : decode b_Bytes_putRow 24 = .ok (.return_, 1) := by decide +kernel
set_option maxHeartbeats 4000000 in
set_option maxRecDepth 100000 in
theorem c_putRow3 (l : Launch) (D : va_G) (cB cI cJ cZ cN cF : ClassId) (sz : Nat) (h0 q L n : Nat) (f : Nat → Int32) (t9 : Nat) (g9 : Nat → Int32) (i : Int32) (hL : L ≤ n) (hn : n < 2147483648) : Met l y_Bytes_putRow w_Bytes_putRow ({ frames := 1, cells := 0, slots := 0, locals := 22 }) (va_Pc [.ref h0, .int i, .ref t9] (fun U => U.heap.size = sz ∧ va_P D CL [(h0, .inr (1, [.ref q, .int (nI L)])), (q, .inl (cB, n, .inl f))] U.heap ∧ va_K D CL (TY cB cI cJ cZ cN cF) U ∧ NN U ∧ va_D (fun _ => True) [(h0, .inr (1, [.ref q, .int (nI L)])), (q, .inl (cB, n, .inl f))] ∧ va_T .byte t9 3 (fun j => .int (g9 j)) (va_A [(h0, .inr (1, [.ref q, .int (nI L)])), (q, .inl (cB, n, .inl f))] sz) U U.heap)) (va_Qv (fun (u : Nat → Int32) => True) (fun (u : Nat → Int32) (t : State) => match u with | g => va_P D CL [(h0, .inr (1, [.ref q, .int (nI L)])), (q, .inl (cB, n, .inl g))] t.heap ∧ va_D (va_A [(h0, .inr (1, [.ref q, .int (nI L)])), (q, .inl (cB, n, .inl f))] sz) [(h0, .inr (1, [.ref q, .int (nI L)])), (q, .inl (cB, n, .inl g))]) (va_A [(h0, .inr (1, [.ref q, .int (nI L)])), (q, .inl (cB, n, .inl f))] sz)) 0 0 (va_A [(h0, .inr (1, [.ref q, .int (nI L)])), (q, .inl (cB, n, .inl f))] sz) := by
  refine Met.ofW (cc := b_Bytes_putRow) (maxL := 4) (ret := none) (by decide) rfl ?_
  intro p e s m args below meth c s₁ B hml hv
  obtain ⟨rfl, hsz, hP, hK, hN, hD0, hZ⟩ := hv
  have hx := B.exec
  have hb := B.bytes
  have hr := B.returns
  have hts := atoms_spec (ws := w_Bytes_putRow) B.pre
  have ht9 := fun (w : Cond) (h : w ∈ lw_g) => hts w (List.mem_cons_of_mem _ h)
  have hown : s.vm.findClass "DiscMaker$Bytes" = some m.cls := findClass_of_methodNamed B.named
  have hlocks := B.notSynchronized
  subst hsz
  have hD := hD0.self (sz := s.heap.size)
  generalize hAe : va_A [(h0, .inr (1, [.ref q, .int (nI L)])), (q, .inl (cB, n, .inl f))] s.heap.size = A at hD hZ ⊢
  have hA : ∀ q : Nat, s.heap.size ≤ q → A q := fun q h => by rw [← hAe]; exact Or.inr h
  have hS : va_S A s.heap s.heap [] := va_S.rf
  have hP : va_P D CL [(h0, .inr (1, [.ref q, .int (nI L)])), (q, .inl (cB, n, .inl f))] s.heap := hP
  have hl := lv_entry [.ref h0, .int i, .ref t9] (n := 4) (Nat.le_of_ble_eq_true rfl)
  rw [lg_entry_eq]
  generalize (lg_sl [.ref h0, .int i, .ref t9] ++ List.replicate (4 - (lg_sl [.ref h0, .int i, .ref t9]).length) Slot.unset).toArray = ls at hl ⊢
  have hl : lv_has ls 4 [(0, .ref h0), (1, .int i), (2, .ref t9)] := hl
  refine lv_iconst (v := 0) hx hb d_Bytes_putRow_0 (by decide) ?_
  refine lv_istore_n hx hb d_Bytes_putRow_1 rfl hl (by decide) rfl (fun ls hl => ?_)
  have hl : lv_has ls 4 [(3, .int 0), (0, .ref h0), (1, .int i), (2, .ref t9)] := hl
  refine lv_iload_n hx hb d_Bytes_putRow_2 rfl (lv_at hl 0 rfl) ?_
  refine lv_aload_n hx hb d_Bytes_putRow_3 rfl (lv_at hl 3 rfl) ?_
  refine va_tlen (v := 3) hx hb hZ hS rfl d_Bytes_putRow_4 ?_
  refine lv_icmp_ge (tgt := 24) hx hb d_Bytes_putRow_5 (by decide) (fun h_5 => absurd h_5 (by decide)) (fun h_5 => ?_)
  refine lv_aload_n hx hb d_Bytes_putRow_8 rfl (lv_at hl 1 rfl) ?_
  refine lv_iload_n hx hb d_Bytes_putRow_9 rfl (lv_at hl 2 rfl) ?_
  refine lv_iload_n hx hb d_Bytes_putRow_10 rfl (lv_at hl 0 rfl) ?_
  refine lv_iadd hx hb d_Bytes_putRow_11 ?_
  refine lv_aload_n hx hb d_Bytes_putRow_12 rfl (lv_at hl 3 rfl) ?_
  refine lv_iload_n hx hb d_Bytes_putRow_13 rfl (lv_at hl 0 rfl) ?_
  refine va_tb (v := .int (g9 0)) hx hb hZ hS (by unfold vp_in; decide) rfl d_Bytes_putRow_14 ?_
  have hPc := hP.sub (ws' := [(h0, .inr (1, [.ref q, .int (nI L)])), (q, .inl (cB, n, .inl f))]) [0, 1] rfl
  have hDc := hD.sub (ws' := [(h0, .inr (1, [.ref q, .int (nI L)])), (q, .inl (cB, n, .inl f))]) [0, 1] (by decide) rfl
  have hFc := va_free (wc := [(h0, .inr (1, [.ref q, .int (nI L)])), (q, .inl (cB, n, .inl f))]) hD hS hA [0, 1] rfl
  have hkc : 0 ≤ 0 := by decide
  have hks : 0 ≤ 0 := by decide
  refine va_callv (va_runV (C := "DiscMaker$Bytes") (As := [.int (i + 0), .int (g9 0)]) (rest := []) ⟨hx, hb, hml, hown, hts⟩ (c_put l D cB cI cJ cZ cN cF s.heap.size h0 q L n f (i + 0) (g9 0) hL hn) (cwV 2 hts (lg_goodV k988 k912 k913 k119 kc_Bytes_put) rfl rfl rfl (by decide +kernel) ⟨Nat.le_of_ble_eq_true rfl, Nat.le_of_ble_eq_true rfl⟩) ⟨fun a U g mk q => by obtain ⟨q0, q1, qP, qK, qN, qD⟩ := q; exact ⟨q0, q1, qP, va_K.moved (u := U) (U := U.calling g mk a) (Vm.Alike.refl U.vm) qK, qN.calling, qD⟩, va_recv hK hP (ci := 1) (q0 := 0) rfl rfl, fun U hU hW => ⟨rfl, by rw [hU], by rw [hU]; exact hPc, va_K.moved hW.alike hK, NN.warm hW hN, hDc.weaken (fun _ _ _ _ => trivial)⟩⟩ rfl rfl hl.1 rfl (lv_room (Nat.le_of_ble_eq_true rfl)) d_Bytes_putRow_15 ⟨hkc, hks⟩) hS (fun q _ h => hFc q h) hFc (fun u t H1 locs ht hvm hp_15 hB hz1 hk1 hS => ?_)
  obtain ⟨g15_14, rfl⟩ : ∃ z, z = u := ⟨_, rfl⟩
  obtain ⟨hP1, hD1⟩ := hB
  rw [ht] at hP1
  obtain ⟨hP, hD⟩ := va_join (wr := []) (w1 := [(h0, .inr (1, [.ref q, .int (nI L)])), (q, .inl (cB, n, .inl g15_14))]) hP hD [0, 1] [] rfl rfl (by decide) (by decide) hk1 hFc hP1 hD1
  clear hPc hDc hFc hP1 hD1 hk1 hz1
  generalize H1 = H at hP hS ⊢
  have hP : va_P D CL [(h0, .inr (1, [.ref q, .int (nI L)])), (q, .inl (cB, n, .inl g15_14))] H := hP
  have hD : va_D A [(h0, .inr (1, [.ref q, .int (nI L)])), (q, .inl (cB, n, .inl g15_14))] := hD
  refine lv_iinc (v := 1) hx hb d_Bytes_putRow_18 hl (k := 0) rfl (by decide) (by decide) rfl (fun ls hl => ?_)
  have hl : lv_has ls 4 [(3, .int 1), (0, .ref h0), (1, .int i), (2, .ref t9)] := hl
  refine lv_goto (tgt := 2) hx hb d_Bytes_putRow_21 (by decide) ?_
  refine lv_iload_n hx hb d_Bytes_putRow_2 rfl (lv_at hl 0 rfl) ?_
  refine lv_aload_n hx hb d_Bytes_putRow_3 rfl (lv_at hl 3 rfl) ?_
  refine va_tlen (v := 3) hx hb hZ hS rfl d_Bytes_putRow_4 ?_
  refine lv_icmp_ge (tgt := 24) hx hb d_Bytes_putRow_5 (by decide) (fun h_5 => absurd h_5 (by decide)) (fun h_5 => ?_)
  refine lv_aload_n hx hb d_Bytes_putRow_8 rfl (lv_at hl 1 rfl) ?_
  refine lv_iload_n hx hb d_Bytes_putRow_9 rfl (lv_at hl 2 rfl) ?_
  refine lv_iload_n hx hb d_Bytes_putRow_10 rfl (lv_at hl 0 rfl) ?_
  refine lv_iadd hx hb d_Bytes_putRow_11 ?_
  refine lv_aload_n hx hb d_Bytes_putRow_12 rfl (lv_at hl 3 rfl) ?_
  refine lv_iload_n hx hb d_Bytes_putRow_13 rfl (lv_at hl 0 rfl) ?_
  refine va_tb (v := .int (g9 1)) hx hb hZ hS (by unfold vp_in; decide) rfl d_Bytes_putRow_14 ?_
  have hPc := hP.sub (ws' := [(h0, .inr (1, [.ref q, .int (nI L)])), (q, .inl (cB, n, .inl g15_14))]) [0, 1] rfl
  have hDc := hD.sub (ws' := [(h0, .inr (1, [.ref q, .int (nI L)])), (q, .inl (cB, n, .inl g15_14))]) [0, 1] (by decide) rfl
  have hFc := va_free (wc := [(h0, .inr (1, [.ref q, .int (nI L)])), (q, .inl (cB, n, .inl g15_14))]) hD hS hA [0, 1] rfl
  have hkc : 0 ≤ 0 := by decide
  have hks : 0 ≤ 0 := by decide
  refine va_callv (va_runV (C := "DiscMaker$Bytes") (As := [.int (i + 1), .int (g9 1)]) (rest := []) ⟨hx, hb, hml, hown, hts⟩ (c_put l D cB cI cJ cZ cN cF H.size h0 q L n g15_14 (i + 1) (g9 1) hL hn) (cwV 2 hts (lg_goodV k988 k912 k913 k119 kc_Bytes_put) rfl rfl rfl (by decide +kernel) ⟨Nat.le_of_ble_eq_true rfl, Nat.le_of_ble_eq_true rfl⟩) ⟨fun a U g mk q => by obtain ⟨q0, q1, qP, qK, qN, qD⟩ := q; exact ⟨q0, q1, qP, va_K.moved (u := U) (U := U.calling g mk a) (Vm.Alike.refl U.vm) qK, qN.calling, qD⟩, va_recv hK hP (ci := 1) (q0 := 0) rfl rfl, fun U hU hW => ⟨rfl, by rw [hU], by rw [hU]; exact hPc, va_K.moved hW.alike hK, NN.warm hW hN, hDc.weaken (fun _ _ _ _ => trivial)⟩⟩ rfl rfl hl.1 rfl (lv_room (Nat.le_of_ble_eq_true rfl)) d_Bytes_putRow_15 ⟨hkc, hks⟩) hS (fun q _ h => hFc q h) hFc (fun u t H1 locs ht hvm hp_15 hB hz1 hk1 hS => ?_)
  obtain ⟨g15_28, rfl⟩ : ∃ z, z = u := ⟨_, rfl⟩
  obtain ⟨hP1, hD1⟩ := hB
  rw [ht] at hP1
  obtain ⟨hP, hD⟩ := va_join (wr := []) (w1 := [(h0, .inr (1, [.ref q, .int (nI L)])), (q, .inl (cB, n, .inl g15_28))]) hP hD [0, 1] [] rfl rfl (by decide) (by decide) hk1 hFc hP1 hD1
  clear hPc hDc hFc hP1 hD1 hk1 hz1
  generalize H1 = H at hP hS ⊢
  have hP : va_P D CL [(h0, .inr (1, [.ref q, .int (nI L)])), (q, .inl (cB, n, .inl g15_28))] H := hP
  have hD : va_D A [(h0, .inr (1, [.ref q, .int (nI L)])), (q, .inl (cB, n, .inl g15_28))] := hD
  refine lv_iinc (v := 2) hx hb d_Bytes_putRow_18 hl (k := 0) rfl (by decide) (by decide) rfl (fun ls hl => ?_)
  have hl : lv_has ls 4 [(3, .int 2), (0, .ref h0), (1, .int i), (2, .ref t9)] := hl
  refine lv_goto (tgt := 2) hx hb d_Bytes_putRow_21 (by decide) ?_
  refine lv_iload_n hx hb d_Bytes_putRow_2 rfl (lv_at hl 0 rfl) ?_
  refine lv_aload_n hx hb d_Bytes_putRow_3 rfl (lv_at hl 3 rfl) ?_
  refine va_tlen (v := 3) hx hb hZ hS rfl d_Bytes_putRow_4 ?_
  refine lv_icmp_ge (tgt := 24) hx hb d_Bytes_putRow_5 (by decide) (fun h_5 => absurd h_5 (by decide)) (fun h_5 => ?_)
  refine lv_aload_n hx hb d_Bytes_putRow_8 rfl (lv_at hl 1 rfl) ?_
  refine lv_iload_n hx hb d_Bytes_putRow_9 rfl (lv_at hl 2 rfl) ?_
  refine lv_iload_n hx hb d_Bytes_putRow_10 rfl (lv_at hl 0 rfl) ?_
  refine lv_iadd hx hb d_Bytes_putRow_11 ?_
  refine lv_aload_n hx hb d_Bytes_putRow_12 rfl (lv_at hl 3 rfl) ?_
  refine lv_iload_n hx hb d_Bytes_putRow_13 rfl (lv_at hl 0 rfl) ?_
  refine va_tb (v := .int (g9 2)) hx hb hZ hS (by unfold vp_in; decide) rfl d_Bytes_putRow_14 ?_
  have hPc := hP.sub (ws' := [(h0, .inr (1, [.ref q, .int (nI L)])), (q, .inl (cB, n, .inl g15_28))]) [0, 1] rfl
  have hDc := hD.sub (ws' := [(h0, .inr (1, [.ref q, .int (nI L)])), (q, .inl (cB, n, .inl g15_28))]) [0, 1] (by decide) rfl
  have hFc := va_free (wc := [(h0, .inr (1, [.ref q, .int (nI L)])), (q, .inl (cB, n, .inl g15_28))]) hD hS hA [0, 1] rfl
  have hkc : 0 ≤ 0 := by decide
  have hks : 0 ≤ 0 := by decide
  refine va_callv (va_runV (C := "DiscMaker$Bytes") (As := [.int (i + 2), .int (g9 2)]) (rest := []) ⟨hx, hb, hml, hown, hts⟩ (c_put l D cB cI cJ cZ cN cF H.size h0 q L n g15_28 (i + 2) (g9 2) hL hn) (cwV 2 hts (lg_goodV k988 k912 k913 k119 kc_Bytes_put) rfl rfl rfl (by decide +kernel) ⟨Nat.le_of_ble_eq_true rfl, Nat.le_of_ble_eq_true rfl⟩) ⟨fun a U g mk q => by obtain ⟨q0, q1, qP, qK, qN, qD⟩ := q; exact ⟨q0, q1, qP, va_K.moved (u := U) (U := U.calling g mk a) (Vm.Alike.refl U.vm) qK, qN.calling, qD⟩, va_recv hK hP (ci := 1) (q0 := 0) rfl rfl, fun U hU hW => ⟨rfl, by rw [hU], by rw [hU]; exact hPc, va_K.moved hW.alike hK, NN.warm hW hN, hDc.weaken (fun _ _ _ _ => trivial)⟩⟩ rfl rfl hl.1 rfl (lv_room (Nat.le_of_ble_eq_true rfl)) d_Bytes_putRow_15 ⟨hkc, hks⟩) hS (fun q _ h => hFc q h) hFc (fun u t H1 locs ht hvm hp_15 hB hz1 hk1 hS => ?_)
  obtain ⟨g15_42, rfl⟩ : ∃ z, z = u := ⟨_, rfl⟩
  obtain ⟨hP1, hD1⟩ := hB
  rw [ht] at hP1
  obtain ⟨hP, hD⟩ := va_join (wr := []) (w1 := [(h0, .inr (1, [.ref q, .int (nI L)])), (q, .inl (cB, n, .inl g15_42))]) hP hD [0, 1] [] rfl rfl (by decide) (by decide) hk1 hFc hP1 hD1
  clear hPc hDc hFc hP1 hD1 hk1 hz1
  generalize H1 = H at hP hS ⊢
  have hP : va_P D CL [(h0, .inr (1, [.ref q, .int (nI L)])), (q, .inl (cB, n, .inl g15_42))] H := hP
  have hD : va_D A [(h0, .inr (1, [.ref q, .int (nI L)])), (q, .inl (cB, n, .inl g15_42))] := hD
  refine lv_iinc (v := 3) hx hb d_Bytes_putRow_18 hl (k := 0) rfl (by decide) (by decide) rfl (fun ls hl => ?_)
  have hl : lv_has ls 4 [(3, .int 3), (0, .ref h0), (1, .int i), (2, .ref t9)] := hl
  refine lv_goto (tgt := 2) hx hb d_Bytes_putRow_21 (by decide) ?_
  refine lv_iload_n hx hb d_Bytes_putRow_2 rfl (lv_at hl 0 rfl) ?_
  refine lv_aload_n hx hb d_Bytes_putRow_3 rfl (lv_at hl 3 rfl) ?_
  refine va_tlen (v := 3) hx hb hZ hS rfl d_Bytes_putRow_4 ?_
  refine lv_icmp_ge (tgt := 24) hx hb d_Bytes_putRow_5 (by decide) (fun h_5 => ?_) (fun h_5 => absurd (by decide) h_5)
  have hP9 := hP.sub (ws' := [(h0, .inr (1, [.ref q, .int (nI L)])), (q, .inl (cB, n, .inl g15_42))]) [0, 1] rfl
  have hD9 := hD.sub (ws' := [(h0, .inr (1, [.ref q, .int (nI L)])), (q, .inl (cB, n, .inl g15_42))]) [0, 1] (by decide) rfl
  exact W.vret hx hb hr (fun t ht hW => ⟨⟨g15_42, rfl, trivial, by rw [ht]; exact hP9, hD9⟩, hS.F ht⟩) hS.2.2 d_Bytes_putRow_24

set_option maxHeartbeats 4000000 in
set_option maxRecDepth 100000 in
theorem c_putRow6 (l : Launch) (D : va_G) (cB cI cJ cZ cN cF : ClassId) (sz : Nat) (h0 q L n : Nat) (f : Nat → Int32) (t9 : Nat) (g9 : Nat → Int32) (i : Int32) (hL : L ≤ n) (hn : n < 2147483648) : Met l y_Bytes_putRow w_Bytes_putRow ({ frames := 1, cells := 0, slots := 0, locals := 22 }) (va_Pc [.ref h0, .int i, .ref t9] (fun U => U.heap.size = sz ∧ va_P D CL [(h0, .inr (1, [.ref q, .int (nI L)])), (q, .inl (cB, n, .inl f))] U.heap ∧ va_K D CL (TY cB cI cJ cZ cN cF) U ∧ NN U ∧ va_D (fun _ => True) [(h0, .inr (1, [.ref q, .int (nI L)])), (q, .inl (cB, n, .inl f))] ∧ va_T .byte t9 6 (fun j => .int (g9 j)) (va_A [(h0, .inr (1, [.ref q, .int (nI L)])), (q, .inl (cB, n, .inl f))] sz) U U.heap)) (va_Qv (fun (u : Nat → Int32) => True) (fun (u : Nat → Int32) (t : State) => match u with | g => va_P D CL [(h0, .inr (1, [.ref q, .int (nI L)])), (q, .inl (cB, n, .inl g))] t.heap ∧ va_D (va_A [(h0, .inr (1, [.ref q, .int (nI L)])), (q, .inl (cB, n, .inl f))] sz) [(h0, .inr (1, [.ref q, .int (nI L)])), (q, .inl (cB, n, .inl g))]) (va_A [(h0, .inr (1, [.ref q, .int (nI L)])), (q, .inl (cB, n, .inl f))] sz)) 0 0 (va_A [(h0, .inr (1, [.ref q, .int (nI L)])), (q, .inl (cB, n, .inl f))] sz) := by
  refine Met.ofW (cc := b_Bytes_putRow) (maxL := 4) (ret := none) (by decide) rfl ?_
  intro p e s m args below meth c s₁ B hml hv
  obtain ⟨rfl, hsz, hP, hK, hN, hD0, hZ⟩ := hv
  have hx := B.exec
  have hb := B.bytes
  have hr := B.returns
  have hts := atoms_spec (ws := w_Bytes_putRow) B.pre
  have ht9 := fun (w : Cond) (h : w ∈ lw_g) => hts w (List.mem_cons_of_mem _ h)
  have hown : s.vm.findClass "DiscMaker$Bytes" = some m.cls := findClass_of_methodNamed B.named
  have hlocks := B.notSynchronized
  subst hsz
  have hD := hD0.self (sz := s.heap.size)
  generalize hAe : va_A [(h0, .inr (1, [.ref q, .int (nI L)])), (q, .inl (cB, n, .inl f))] s.heap.size = A at hD hZ ⊢
  have hA : ∀ q : Nat, s.heap.size ≤ q → A q := fun q h => by rw [← hAe]; exact Or.inr h
  have hS : va_S A s.heap s.heap [] := va_S.rf
  have hP : va_P D CL [(h0, .inr (1, [.ref q, .int (nI L)])), (q, .inl (cB, n, .inl f))] s.heap := hP
  have hl := lv_entry [.ref h0, .int i, .ref t9] (n := 4) (Nat.le_of_ble_eq_true rfl)
  rw [lg_entry_eq]
  generalize (lg_sl [.ref h0, .int i, .ref t9] ++ List.replicate (4 - (lg_sl [.ref h0, .int i, .ref t9]).length) Slot.unset).toArray = ls at hl ⊢
  have hl : lv_has ls 4 [(0, .ref h0), (1, .int i), (2, .ref t9)] := hl
  refine lv_iconst (v := 0) hx hb d_Bytes_putRow_0 (by decide) ?_
  refine lv_istore_n hx hb d_Bytes_putRow_1 rfl hl (by decide) rfl (fun ls hl => ?_)
  have hl : lv_has ls 4 [(3, .int 0), (0, .ref h0), (1, .int i), (2, .ref t9)] := hl
  refine lv_iload_n hx hb d_Bytes_putRow_2 rfl (lv_at hl 0 rfl) ?_
  refine lv_aload_n hx hb d_Bytes_putRow_3 rfl (lv_at hl 3 rfl) ?_
  refine va_tlen (v := 6) hx hb hZ hS rfl d_Bytes_putRow_4 ?_
  refine lv_icmp_ge (tgt := 24) hx hb d_Bytes_putRow_5 (by decide) (fun h_5 => absurd h_5 (by decide)) (fun h_5 => ?_)
  refine lv_aload_n hx hb d_Bytes_putRow_8 rfl (lv_at hl 1 rfl) ?_
  refine lv_iload_n hx hb d_Bytes_putRow_9 rfl (lv_at hl 2 rfl) ?_
  refine lv_iload_n hx hb d_Bytes_putRow_10 rfl (lv_at hl 0 rfl) ?_
  refine lv_iadd hx hb d_Bytes_putRow_11 ?_
  refine lv_aload_n hx hb d_Bytes_putRow_12 rfl (lv_at hl 3 rfl) ?_
  refine lv_iload_n hx hb d_Bytes_putRow_13 rfl (lv_at hl 0 rfl) ?_
  refine va_tb (v := .int (g9 0)) hx hb hZ hS (by unfold vp_in; decide) rfl d_Bytes_putRow_14 ?_
  have hPc := hP.sub (ws' := [(h0, .inr (1, [.ref q, .int (nI L)])), (q, .inl (cB, n, .inl f))]) [0, 1] rfl
  have hDc := hD.sub (ws' := [(h0, .inr (1, [.ref q, .int (nI L)])), (q, .inl (cB, n, .inl f))]) [0, 1] (by decide) rfl
  have hFc := va_free (wc := [(h0, .inr (1, [.ref q, .int (nI L)])), (q, .inl (cB, n, .inl f))]) hD hS hA [0, 1] rfl
  have hkc : 0 ≤ 0 := by decide
  have hks : 0 ≤ 0 := by decide
  refine va_callv (va_runV (C := "DiscMaker$Bytes") (As := [.int (i + 0), .int (g9 0)]) (rest := []) ⟨hx, hb, hml, hown, hts⟩ (c_put l D cB cI cJ cZ cN cF s.heap.size h0 q L n f (i + 0) (g9 0) hL hn) (cwV 2 hts (lg_goodV k988 k912 k913 k119 kc_Bytes_put) rfl rfl rfl (by decide +kernel) ⟨Nat.le_of_ble_eq_true rfl, Nat.le_of_ble_eq_true rfl⟩) ⟨fun a U g mk q => by obtain ⟨q0, q1, qP, qK, qN, qD⟩ := q; exact ⟨q0, q1, qP, va_K.moved (u := U) (U := U.calling g mk a) (Vm.Alike.refl U.vm) qK, qN.calling, qD⟩, va_recv hK hP (ci := 1) (q0 := 0) rfl rfl, fun U hU hW => ⟨rfl, by rw [hU], by rw [hU]; exact hPc, va_K.moved hW.alike hK, NN.warm hW hN, hDc.weaken (fun _ _ _ _ => trivial)⟩⟩ rfl rfl hl.1 rfl (lv_room (Nat.le_of_ble_eq_true rfl)) d_Bytes_putRow_15 ⟨hkc, hks⟩) hS (fun q _ h => hFc q h) hFc (fun u t H1 locs ht hvm hp_15 hB hz1 hk1 hS => ?_)
  obtain ⟨g15_14, rfl⟩ : ∃ z, z = u := ⟨_, rfl⟩
  obtain ⟨hP1, hD1⟩ := hB
  rw [ht] at hP1
  obtain ⟨hP, hD⟩ := va_join (wr := []) (w1 := [(h0, .inr (1, [.ref q, .int (nI L)])), (q, .inl (cB, n, .inl g15_14))]) hP hD [0, 1] [] rfl rfl (by decide) (by decide) hk1 hFc hP1 hD1
  clear hPc hDc hFc hP1 hD1 hk1 hz1
  generalize H1 = H at hP hS ⊢
  have hP : va_P D CL [(h0, .inr (1, [.ref q, .int (nI L)])), (q, .inl (cB, n, .inl g15_14))] H := hP
  have hD : va_D A [(h0, .inr (1, [.ref q, .int (nI L)])), (q, .inl (cB, n, .inl g15_14))] := hD
  refine lv_iinc (v := 1) hx hb d_Bytes_putRow_18 hl (k := 0) rfl (by decide) (by decide) rfl (fun ls hl => ?_)
  have hl : lv_has ls 4 [(3, .int 1), (0, .ref h0), (1, .int i), (2, .ref t9)] := hl
  refine lv_goto (tgt := 2) hx hb d_Bytes_putRow_21 (by decide) ?_
  refine lv_iload_n hx hb d_Bytes_putRow_2 rfl (lv_at hl 0 rfl) ?_
  refine lv_aload_n hx hb d_Bytes_putRow_3 rfl (lv_at hl 3 rfl) ?_
  refine va_tlen (v := 6) hx hb hZ hS rfl d_Bytes_putRow_4 ?_
  refine lv_icmp_ge (tgt := 24) hx hb d_Bytes_putRow_5 (by decide) (fun h_5 => absurd h_5 (by decide)) (fun h_5 => ?_)
  refine lv_aload_n hx hb d_Bytes_putRow_8 rfl (lv_at hl 1 rfl) ?_
  refine lv_iload_n hx hb d_Bytes_putRow_9 rfl (lv_at hl 2 rfl) ?_
  refine lv_iload_n hx hb d_Bytes_putRow_10 rfl (lv_at hl 0 rfl) ?_
  refine lv_iadd hx hb d_Bytes_putRow_11 ?_
  refine lv_aload_n hx hb d_Bytes_putRow_12 rfl (lv_at hl 3 rfl) ?_
  refine lv_iload_n hx hb d_Bytes_putRow_13 rfl (lv_at hl 0 rfl) ?_
  refine va_tb (v := .int (g9 1)) hx hb hZ hS (by unfold vp_in; decide) rfl d_Bytes_putRow_14 ?_
  have hPc := hP.sub (ws' := [(h0, .inr (1, [.ref q, .int (nI L)])), (q, .inl (cB, n, .inl g15_14))]) [0, 1] rfl
  have hDc := hD.sub (ws' := [(h0, .inr (1, [.ref q, .int (nI L)])), (q, .inl (cB, n, .inl g15_14))]) [0, 1] (by decide) rfl
  have hFc := va_free (wc := [(h0, .inr (1, [.ref q, .int (nI L)])), (q, .inl (cB, n, .inl g15_14))]) hD hS hA [0, 1] rfl
  have hkc : 0 ≤ 0 := by decide
  have hks : 0 ≤ 0 := by decide
  refine va_callv (va_runV (C := "DiscMaker$Bytes") (As := [.int (i + 1), .int (g9 1)]) (rest := []) ⟨hx, hb, hml, hown, hts⟩ (c_put l D cB cI cJ cZ cN cF H.size h0 q L n g15_14 (i + 1) (g9 1) hL hn) (cwV 2 hts (lg_goodV k988 k912 k913 k119 kc_Bytes_put) rfl rfl rfl (by decide +kernel) ⟨Nat.le_of_ble_eq_true rfl, Nat.le_of_ble_eq_true rfl⟩) ⟨fun a U g mk q => by obtain ⟨q0, q1, qP, qK, qN, qD⟩ := q; exact ⟨q0, q1, qP, va_K.moved (u := U) (U := U.calling g mk a) (Vm.Alike.refl U.vm) qK, qN.calling, qD⟩, va_recv hK hP (ci := 1) (q0 := 0) rfl rfl, fun U hU hW => ⟨rfl, by rw [hU], by rw [hU]; exact hPc, va_K.moved hW.alike hK, NN.warm hW hN, hDc.weaken (fun _ _ _ _ => trivial)⟩⟩ rfl rfl hl.1 rfl (lv_room (Nat.le_of_ble_eq_true rfl)) d_Bytes_putRow_15 ⟨hkc, hks⟩) hS (fun q _ h => hFc q h) hFc (fun u t H1 locs ht hvm hp_15 hB hz1 hk1 hS => ?_)
  obtain ⟨g15_28, rfl⟩ : ∃ z, z = u := ⟨_, rfl⟩
  obtain ⟨hP1, hD1⟩ := hB
  rw [ht] at hP1
  obtain ⟨hP, hD⟩ := va_join (wr := []) (w1 := [(h0, .inr (1, [.ref q, .int (nI L)])), (q, .inl (cB, n, .inl g15_28))]) hP hD [0, 1] [] rfl rfl (by decide) (by decide) hk1 hFc hP1 hD1
  clear hPc hDc hFc hP1 hD1 hk1 hz1
  generalize H1 = H at hP hS ⊢
  have hP : va_P D CL [(h0, .inr (1, [.ref q, .int (nI L)])), (q, .inl (cB, n, .inl g15_28))] H := hP
  have hD : va_D A [(h0, .inr (1, [.ref q, .int (nI L)])), (q, .inl (cB, n, .inl g15_28))] := hD
  refine lv_iinc (v := 2) hx hb d_Bytes_putRow_18 hl (k := 0) rfl (by decide) (by decide) rfl (fun ls hl => ?_)
  have hl : lv_has ls 4 [(3, .int 2), (0, .ref h0), (1, .int i), (2, .ref t9)] := hl
  refine lv_goto (tgt := 2) hx hb d_Bytes_putRow_21 (by decide) ?_
  refine lv_iload_n hx hb d_Bytes_putRow_2 rfl (lv_at hl 0 rfl) ?_
  refine lv_aload_n hx hb d_Bytes_putRow_3 rfl (lv_at hl 3 rfl) ?_
  refine va_tlen (v := 6) hx hb hZ hS rfl d_Bytes_putRow_4 ?_
  refine lv_icmp_ge (tgt := 24) hx hb d_Bytes_putRow_5 (by decide) (fun h_5 => absurd h_5 (by decide)) (fun h_5 => ?_)
  refine lv_aload_n hx hb d_Bytes_putRow_8 rfl (lv_at hl 1 rfl) ?_
  refine lv_iload_n hx hb d_Bytes_putRow_9 rfl (lv_at hl 2 rfl) ?_
  refine lv_iload_n hx hb d_Bytes_putRow_10 rfl (lv_at hl 0 rfl) ?_
  refine lv_iadd hx hb d_Bytes_putRow_11 ?_
  refine lv_aload_n hx hb d_Bytes_putRow_12 rfl (lv_at hl 3 rfl) ?_
  refine lv_iload_n hx hb d_Bytes_putRow_13 rfl (lv_at hl 0 rfl) ?_
  refine va_tb (v := .int (g9 2)) hx hb hZ hS (by unfold vp_in; decide) rfl d_Bytes_putRow_14 ?_
  have hPc := hP.sub (ws' := [(h0, .inr (1, [.ref q, .int (nI L)])), (q, .inl (cB, n, .inl g15_28))]) [0, 1] rfl
  have hDc := hD.sub (ws' := [(h0, .inr (1, [.ref q, .int (nI L)])), (q, .inl (cB, n, .inl g15_28))]) [0, 1] (by decide) rfl
  have hFc := va_free (wc := [(h0, .inr (1, [.ref q, .int (nI L)])), (q, .inl (cB, n, .inl g15_28))]) hD hS hA [0, 1] rfl
  have hkc : 0 ≤ 0 := by decide
  have hks : 0 ≤ 0 := by decide
  refine va_callv (va_runV (C := "DiscMaker$Bytes") (As := [.int (i + 2), .int (g9 2)]) (rest := []) ⟨hx, hb, hml, hown, hts⟩ (c_put l D cB cI cJ cZ cN cF H.size h0 q L n g15_28 (i + 2) (g9 2) hL hn) (cwV 2 hts (lg_goodV k988 k912 k913 k119 kc_Bytes_put) rfl rfl rfl (by decide +kernel) ⟨Nat.le_of_ble_eq_true rfl, Nat.le_of_ble_eq_true rfl⟩) ⟨fun a U g mk q => by obtain ⟨q0, q1, qP, qK, qN, qD⟩ := q; exact ⟨q0, q1, qP, va_K.moved (u := U) (U := U.calling g mk a) (Vm.Alike.refl U.vm) qK, qN.calling, qD⟩, va_recv hK hP (ci := 1) (q0 := 0) rfl rfl, fun U hU hW => ⟨rfl, by rw [hU], by rw [hU]; exact hPc, va_K.moved hW.alike hK, NN.warm hW hN, hDc.weaken (fun _ _ _ _ => trivial)⟩⟩ rfl rfl hl.1 rfl (lv_room (Nat.le_of_ble_eq_true rfl)) d_Bytes_putRow_15 ⟨hkc, hks⟩) hS (fun q _ h => hFc q h) hFc (fun u t H1 locs ht hvm hp_15 hB hz1 hk1 hS => ?_)
  obtain ⟨g15_42, rfl⟩ : ∃ z, z = u := ⟨_, rfl⟩
  obtain ⟨hP1, hD1⟩ := hB
  rw [ht] at hP1
  obtain ⟨hP, hD⟩ := va_join (wr := []) (w1 := [(h0, .inr (1, [.ref q, .int (nI L)])), (q, .inl (cB, n, .inl g15_42))]) hP hD [0, 1] [] rfl rfl (by decide) (by decide) hk1 hFc hP1 hD1
  clear hPc hDc hFc hP1 hD1 hk1 hz1
  generalize H1 = H at hP hS ⊢
  have hP : va_P D CL [(h0, .inr (1, [.ref q, .int (nI L)])), (q, .inl (cB, n, .inl g15_42))] H := hP
  have hD : va_D A [(h0, .inr (1, [.ref q, .int (nI L)])), (q, .inl (cB, n, .inl g15_42))] := hD
  refine lv_iinc (v := 3) hx hb d_Bytes_putRow_18 hl (k := 0) rfl (by decide) (by decide) rfl (fun ls hl => ?_)
  have hl : lv_has ls 4 [(3, .int 3), (0, .ref h0), (1, .int i), (2, .ref t9)] := hl
  refine lv_goto (tgt := 2) hx hb d_Bytes_putRow_21 (by decide) ?_
  refine lv_iload_n hx hb d_Bytes_putRow_2 rfl (lv_at hl 0 rfl) ?_
  refine lv_aload_n hx hb d_Bytes_putRow_3 rfl (lv_at hl 3 rfl) ?_
  refine va_tlen (v := 6) hx hb hZ hS rfl d_Bytes_putRow_4 ?_
  refine lv_icmp_ge (tgt := 24) hx hb d_Bytes_putRow_5 (by decide) (fun h_5 => absurd h_5 (by decide)) (fun h_5 => ?_)
  refine lv_aload_n hx hb d_Bytes_putRow_8 rfl (lv_at hl 1 rfl) ?_
  refine lv_iload_n hx hb d_Bytes_putRow_9 rfl (lv_at hl 2 rfl) ?_
  refine lv_iload_n hx hb d_Bytes_putRow_10 rfl (lv_at hl 0 rfl) ?_
  refine lv_iadd hx hb d_Bytes_putRow_11 ?_
  refine lv_aload_n hx hb d_Bytes_putRow_12 rfl (lv_at hl 3 rfl) ?_
  refine lv_iload_n hx hb d_Bytes_putRow_13 rfl (lv_at hl 0 rfl) ?_
  refine va_tb (v := .int (g9 3)) hx hb hZ hS (by unfold vp_in; decide) rfl d_Bytes_putRow_14 ?_
  have hPc := hP.sub (ws' := [(h0, .inr (1, [.ref q, .int (nI L)])), (q, .inl (cB, n, .inl g15_42))]) [0, 1] rfl
  have hDc := hD.sub (ws' := [(h0, .inr (1, [.ref q, .int (nI L)])), (q, .inl (cB, n, .inl g15_42))]) [0, 1] (by decide) rfl
  have hFc := va_free (wc := [(h0, .inr (1, [.ref q, .int (nI L)])), (q, .inl (cB, n, .inl g15_42))]) hD hS hA [0, 1] rfl
  have hkc : 0 ≤ 0 := by decide
  have hks : 0 ≤ 0 := by decide
  refine va_callv (va_runV (C := "DiscMaker$Bytes") (As := [.int (i + 3), .int (g9 3)]) (rest := []) ⟨hx, hb, hml, hown, hts⟩ (c_put l D cB cI cJ cZ cN cF H.size h0 q L n g15_42 (i + 3) (g9 3) hL hn) (cwV 2 hts (lg_goodV k988 k912 k913 k119 kc_Bytes_put) rfl rfl rfl (by decide +kernel) ⟨Nat.le_of_ble_eq_true rfl, Nat.le_of_ble_eq_true rfl⟩) ⟨fun a U g mk q => by obtain ⟨q0, q1, qP, qK, qN, qD⟩ := q; exact ⟨q0, q1, qP, va_K.moved (u := U) (U := U.calling g mk a) (Vm.Alike.refl U.vm) qK, qN.calling, qD⟩, va_recv hK hP (ci := 1) (q0 := 0) rfl rfl, fun U hU hW => ⟨rfl, by rw [hU], by rw [hU]; exact hPc, va_K.moved hW.alike hK, NN.warm hW hN, hDc.weaken (fun _ _ _ _ => trivial)⟩⟩ rfl rfl hl.1 rfl (lv_room (Nat.le_of_ble_eq_true rfl)) d_Bytes_putRow_15 ⟨hkc, hks⟩) hS (fun q _ h => hFc q h) hFc (fun u t H1 locs ht hvm hp_15 hB hz1 hk1 hS => ?_)
  obtain ⟨g15_56, rfl⟩ : ∃ z, z = u := ⟨_, rfl⟩
  obtain ⟨hP1, hD1⟩ := hB
  rw [ht] at hP1
  obtain ⟨hP, hD⟩ := va_join (wr := []) (w1 := [(h0, .inr (1, [.ref q, .int (nI L)])), (q, .inl (cB, n, .inl g15_56))]) hP hD [0, 1] [] rfl rfl (by decide) (by decide) hk1 hFc hP1 hD1
  clear hPc hDc hFc hP1 hD1 hk1 hz1
  generalize H1 = H at hP hS ⊢
  have hP : va_P D CL [(h0, .inr (1, [.ref q, .int (nI L)])), (q, .inl (cB, n, .inl g15_56))] H := hP
  have hD : va_D A [(h0, .inr (1, [.ref q, .int (nI L)])), (q, .inl (cB, n, .inl g15_56))] := hD
  refine lv_iinc (v := 4) hx hb d_Bytes_putRow_18 hl (k := 0) rfl (by decide) (by decide) rfl (fun ls hl => ?_)
  have hl : lv_has ls 4 [(3, .int 4), (0, .ref h0), (1, .int i), (2, .ref t9)] := hl
  refine lv_goto (tgt := 2) hx hb d_Bytes_putRow_21 (by decide) ?_
  refine lv_iload_n hx hb d_Bytes_putRow_2 rfl (lv_at hl 0 rfl) ?_
  refine lv_aload_n hx hb d_Bytes_putRow_3 rfl (lv_at hl 3 rfl) ?_
  refine va_tlen (v := 6) hx hb hZ hS rfl d_Bytes_putRow_4 ?_
  refine lv_icmp_ge (tgt := 24) hx hb d_Bytes_putRow_5 (by decide) (fun h_5 => absurd h_5 (by decide)) (fun h_5 => ?_)
  refine lv_aload_n hx hb d_Bytes_putRow_8 rfl (lv_at hl 1 rfl) ?_
  refine lv_iload_n hx hb d_Bytes_putRow_9 rfl (lv_at hl 2 rfl) ?_
  refine lv_iload_n hx hb d_Bytes_putRow_10 rfl (lv_at hl 0 rfl) ?_
  refine lv_iadd hx hb d_Bytes_putRow_11 ?_
  refine lv_aload_n hx hb d_Bytes_putRow_12 rfl (lv_at hl 3 rfl) ?_
  refine lv_iload_n hx hb d_Bytes_putRow_13 rfl (lv_at hl 0 rfl) ?_
  refine va_tb (v := .int (g9 4)) hx hb hZ hS (by unfold vp_in; decide) rfl d_Bytes_putRow_14 ?_
  have hPc := hP.sub (ws' := [(h0, .inr (1, [.ref q, .int (nI L)])), (q, .inl (cB, n, .inl g15_56))]) [0, 1] rfl
  have hDc := hD.sub (ws' := [(h0, .inr (1, [.ref q, .int (nI L)])), (q, .inl (cB, n, .inl g15_56))]) [0, 1] (by decide) rfl
  have hFc := va_free (wc := [(h0, .inr (1, [.ref q, .int (nI L)])), (q, .inl (cB, n, .inl g15_56))]) hD hS hA [0, 1] rfl
  have hkc : 0 ≤ 0 := by decide
  have hks : 0 ≤ 0 := by decide
  refine va_callv (va_runV (C := "DiscMaker$Bytes") (As := [.int (i + 4), .int (g9 4)]) (rest := []) ⟨hx, hb, hml, hown, hts⟩ (c_put l D cB cI cJ cZ cN cF H.size h0 q L n g15_56 (i + 4) (g9 4) hL hn) (cwV 2 hts (lg_goodV k988 k912 k913 k119 kc_Bytes_put) rfl rfl rfl (by decide +kernel) ⟨Nat.le_of_ble_eq_true rfl, Nat.le_of_ble_eq_true rfl⟩) ⟨fun a U g mk q => by obtain ⟨q0, q1, qP, qK, qN, qD⟩ := q; exact ⟨q0, q1, qP, va_K.moved (u := U) (U := U.calling g mk a) (Vm.Alike.refl U.vm) qK, qN.calling, qD⟩, va_recv hK hP (ci := 1) (q0 := 0) rfl rfl, fun U hU hW => ⟨rfl, by rw [hU], by rw [hU]; exact hPc, va_K.moved hW.alike hK, NN.warm hW hN, hDc.weaken (fun _ _ _ _ => trivial)⟩⟩ rfl rfl hl.1 rfl (lv_room (Nat.le_of_ble_eq_true rfl)) d_Bytes_putRow_15 ⟨hkc, hks⟩) hS (fun q _ h => hFc q h) hFc (fun u t H1 locs ht hvm hp_15 hB hz1 hk1 hS => ?_)
  obtain ⟨g15_70, rfl⟩ : ∃ z, z = u := ⟨_, rfl⟩
  obtain ⟨hP1, hD1⟩ := hB
  rw [ht] at hP1
  obtain ⟨hP, hD⟩ := va_join (wr := []) (w1 := [(h0, .inr (1, [.ref q, .int (nI L)])), (q, .inl (cB, n, .inl g15_70))]) hP hD [0, 1] [] rfl rfl (by decide) (by decide) hk1 hFc hP1 hD1
  clear hPc hDc hFc hP1 hD1 hk1 hz1
  generalize H1 = H at hP hS ⊢
  have hP : va_P D CL [(h0, .inr (1, [.ref q, .int (nI L)])), (q, .inl (cB, n, .inl g15_70))] H := hP
  have hD : va_D A [(h0, .inr (1, [.ref q, .int (nI L)])), (q, .inl (cB, n, .inl g15_70))] := hD
  refine lv_iinc (v := 5) hx hb d_Bytes_putRow_18 hl (k := 0) rfl (by decide) (by decide) rfl (fun ls hl => ?_)
  have hl : lv_has ls 4 [(3, .int 5), (0, .ref h0), (1, .int i), (2, .ref t9)] := hl
  refine lv_goto (tgt := 2) hx hb d_Bytes_putRow_21 (by decide) ?_
  refine lv_iload_n hx hb d_Bytes_putRow_2 rfl (lv_at hl 0 rfl) ?_
  refine lv_aload_n hx hb d_Bytes_putRow_3 rfl (lv_at hl 3 rfl) ?_
  refine va_tlen (v := 6) hx hb hZ hS rfl d_Bytes_putRow_4 ?_
  refine lv_icmp_ge (tgt := 24) hx hb d_Bytes_putRow_5 (by decide) (fun h_5 => absurd h_5 (by decide)) (fun h_5 => ?_)
  refine lv_aload_n hx hb d_Bytes_putRow_8 rfl (lv_at hl 1 rfl) ?_
  refine lv_iload_n hx hb d_Bytes_putRow_9 rfl (lv_at hl 2 rfl) ?_
  refine lv_iload_n hx hb d_Bytes_putRow_10 rfl (lv_at hl 0 rfl) ?_
  refine lv_iadd hx hb d_Bytes_putRow_11 ?_
  refine lv_aload_n hx hb d_Bytes_putRow_12 rfl (lv_at hl 3 rfl) ?_
  refine lv_iload_n hx hb d_Bytes_putRow_13 rfl (lv_at hl 0 rfl) ?_
  refine va_tb (v := .int (g9 5)) hx hb hZ hS (by unfold vp_in; decide) rfl d_Bytes_putRow_14 ?_
  have hPc := hP.sub (ws' := [(h0, .inr (1, [.ref q, .int (nI L)])), (q, .inl (cB, n, .inl g15_70))]) [0, 1] rfl
  have hDc := hD.sub (ws' := [(h0, .inr (1, [.ref q, .int (nI L)])), (q, .inl (cB, n, .inl g15_70))]) [0, 1] (by decide) rfl
  have hFc := va_free (wc := [(h0, .inr (1, [.ref q, .int (nI L)])), (q, .inl (cB, n, .inl g15_70))]) hD hS hA [0, 1] rfl
  have hkc : 0 ≤ 0 := by decide
  have hks : 0 ≤ 0 := by decide
  refine va_callv (va_runV (C := "DiscMaker$Bytes") (As := [.int (i + 5), .int (g9 5)]) (rest := []) ⟨hx, hb, hml, hown, hts⟩ (c_put l D cB cI cJ cZ cN cF H.size h0 q L n g15_70 (i + 5) (g9 5) hL hn) (cwV 2 hts (lg_goodV k988 k912 k913 k119 kc_Bytes_put) rfl rfl rfl (by decide +kernel) ⟨Nat.le_of_ble_eq_true rfl, Nat.le_of_ble_eq_true rfl⟩) ⟨fun a U g mk q => by obtain ⟨q0, q1, qP, qK, qN, qD⟩ := q; exact ⟨q0, q1, qP, va_K.moved (u := U) (U := U.calling g mk a) (Vm.Alike.refl U.vm) qK, qN.calling, qD⟩, va_recv hK hP (ci := 1) (q0 := 0) rfl rfl, fun U hU hW => ⟨rfl, by rw [hU], by rw [hU]; exact hPc, va_K.moved hW.alike hK, NN.warm hW hN, hDc.weaken (fun _ _ _ _ => trivial)⟩⟩ rfl rfl hl.1 rfl (lv_room (Nat.le_of_ble_eq_true rfl)) d_Bytes_putRow_15 ⟨hkc, hks⟩) hS (fun q _ h => hFc q h) hFc (fun u t H1 locs ht hvm hp_15 hB hz1 hk1 hS => ?_)
  obtain ⟨g15_84, rfl⟩ : ∃ z, z = u := ⟨_, rfl⟩
  obtain ⟨hP1, hD1⟩ := hB
  rw [ht] at hP1
  obtain ⟨hP, hD⟩ := va_join (wr := []) (w1 := [(h0, .inr (1, [.ref q, .int (nI L)])), (q, .inl (cB, n, .inl g15_84))]) hP hD [0, 1] [] rfl rfl (by decide) (by decide) hk1 hFc hP1 hD1
  clear hPc hDc hFc hP1 hD1 hk1 hz1
  generalize H1 = H at hP hS ⊢
  have hP : va_P D CL [(h0, .inr (1, [.ref q, .int (nI L)])), (q, .inl (cB, n, .inl g15_84))] H := hP
  have hD : va_D A [(h0, .inr (1, [.ref q, .int (nI L)])), (q, .inl (cB, n, .inl g15_84))] := hD
  refine lv_iinc (v := 6) hx hb d_Bytes_putRow_18 hl (k := 0) rfl (by decide) (by decide) rfl (fun ls hl => ?_)
  have hl : lv_has ls 4 [(3, .int 6), (0, .ref h0), (1, .int i), (2, .ref t9)] := hl
  refine lv_goto (tgt := 2) hx hb d_Bytes_putRow_21 (by decide) ?_
  refine lv_iload_n hx hb d_Bytes_putRow_2 rfl (lv_at hl 0 rfl) ?_
  refine lv_aload_n hx hb d_Bytes_putRow_3 rfl (lv_at hl 3 rfl) ?_
  refine va_tlen (v := 6) hx hb hZ hS rfl d_Bytes_putRow_4 ?_
  refine lv_icmp_ge (tgt := 24) hx hb d_Bytes_putRow_5 (by decide) (fun h_5 => ?_) (fun h_5 => absurd (by decide) h_5)
  have hP9 := hP.sub (ws' := [(h0, .inr (1, [.ref q, .int (nI L)])), (q, .inl (cB, n, .inl g15_84))]) [0, 1] rfl
  have hD9 := hD.sub (ws' := [(h0, .inr (1, [.ref q, .int (nI L)])), (q, .inl (cB, n, .inl g15_84))]) [0, 1] (by decide) rfl
  exact W.vret hx hb hr (fun t ht hW => ⟨⟨g15_84, rfl, trivial, by rw [ht]; exact hP9, hD9⟩, hS.F ht⟩) hS.2.2 d_Bytes_putRow_24

set_option maxHeartbeats 4000000 in
set_option maxRecDepth 100000 in
theorem c_putRow7 (l : Launch) (D : va_G) (cB cI cJ cZ cN cF : ClassId) (sz : Nat) (h0 q L n : Nat) (f : Nat → Int32) (t9 : Nat) (g9 : Nat → Int32) (i : Int32) (hL : L ≤ n) (hn : n < 2147483648) : Met l y_Bytes_putRow w_Bytes_putRow ({ frames := 1, cells := 0, slots := 0, locals := 22 }) (va_Pc [.ref h0, .int i, .ref t9] (fun U => U.heap.size = sz ∧ va_P D CL [(h0, .inr (1, [.ref q, .int (nI L)])), (q, .inl (cB, n, .inl f))] U.heap ∧ va_K D CL (TY cB cI cJ cZ cN cF) U ∧ NN U ∧ va_D (fun _ => True) [(h0, .inr (1, [.ref q, .int (nI L)])), (q, .inl (cB, n, .inl f))] ∧ va_T .byte t9 7 (fun j => .int (g9 j)) (va_A [(h0, .inr (1, [.ref q, .int (nI L)])), (q, .inl (cB, n, .inl f))] sz) U U.heap)) (va_Qv (fun (u : Nat → Int32) => True) (fun (u : Nat → Int32) (t : State) => match u with | g => va_P D CL [(h0, .inr (1, [.ref q, .int (nI L)])), (q, .inl (cB, n, .inl g))] t.heap ∧ va_D (va_A [(h0, .inr (1, [.ref q, .int (nI L)])), (q, .inl (cB, n, .inl f))] sz) [(h0, .inr (1, [.ref q, .int (nI L)])), (q, .inl (cB, n, .inl g))]) (va_A [(h0, .inr (1, [.ref q, .int (nI L)])), (q, .inl (cB, n, .inl f))] sz)) 0 0 (va_A [(h0, .inr (1, [.ref q, .int (nI L)])), (q, .inl (cB, n, .inl f))] sz) := by
  refine Met.ofW (cc := b_Bytes_putRow) (maxL := 4) (ret := none) (by decide) rfl ?_
  intro p e s m args below meth c s₁ B hml hv
  obtain ⟨rfl, hsz, hP, hK, hN, hD0, hZ⟩ := hv
  have hx := B.exec
  have hb := B.bytes
  have hr := B.returns
  have hts := atoms_spec (ws := w_Bytes_putRow) B.pre
  have ht9 := fun (w : Cond) (h : w ∈ lw_g) => hts w (List.mem_cons_of_mem _ h)
  have hown : s.vm.findClass "DiscMaker$Bytes" = some m.cls := findClass_of_methodNamed B.named
  have hlocks := B.notSynchronized
  subst hsz
  have hD := hD0.self (sz := s.heap.size)
  generalize hAe : va_A [(h0, .inr (1, [.ref q, .int (nI L)])), (q, .inl (cB, n, .inl f))] s.heap.size = A at hD hZ ⊢
  have hA : ∀ q : Nat, s.heap.size ≤ q → A q := fun q h => by rw [← hAe]; exact Or.inr h
  have hS : va_S A s.heap s.heap [] := va_S.rf
  have hP : va_P D CL [(h0, .inr (1, [.ref q, .int (nI L)])), (q, .inl (cB, n, .inl f))] s.heap := hP
  have hl := lv_entry [.ref h0, .int i, .ref t9] (n := 4) (Nat.le_of_ble_eq_true rfl)
  rw [lg_entry_eq]
  generalize (lg_sl [.ref h0, .int i, .ref t9] ++ List.replicate (4 - (lg_sl [.ref h0, .int i, .ref t9]).length) Slot.unset).toArray = ls at hl ⊢
  have hl : lv_has ls 4 [(0, .ref h0), (1, .int i), (2, .ref t9)] := hl
  refine lv_iconst (v := 0) hx hb d_Bytes_putRow_0 (by decide) ?_
  refine lv_istore_n hx hb d_Bytes_putRow_1 rfl hl (by decide) rfl (fun ls hl => ?_)
  have hl : lv_has ls 4 [(3, .int 0), (0, .ref h0), (1, .int i), (2, .ref t9)] := hl
  refine lv_iload_n hx hb d_Bytes_putRow_2 rfl (lv_at hl 0 rfl) ?_
  refine lv_aload_n hx hb d_Bytes_putRow_3 rfl (lv_at hl 3 rfl) ?_
  refine va_tlen (v := 7) hx hb hZ hS rfl d_Bytes_putRow_4 ?_
  refine lv_icmp_ge (tgt := 24) hx hb d_Bytes_putRow_5 (by decide) (fun h_5 => absurd h_5 (by decide)) (fun h_5 => ?_)
  refine lv_aload_n hx hb d_Bytes_putRow_8 rfl (lv_at hl 1 rfl) ?_
  refine lv_iload_n hx hb d_Bytes_putRow_9 rfl (lv_at hl 2 rfl) ?_
  refine lv_iload_n hx hb d_Bytes_putRow_10 rfl (lv_at hl 0 rfl) ?_
  refine lv_iadd hx hb d_Bytes_putRow_11 ?_
  refine lv_aload_n hx hb d_Bytes_putRow_12 rfl (lv_at hl 3 rfl) ?_
  refine lv_iload_n hx hb d_Bytes_putRow_13 rfl (lv_at hl 0 rfl) ?_
  refine va_tb (v := .int (g9 0)) hx hb hZ hS (by unfold vp_in; decide) rfl d_Bytes_putRow_14 ?_
  have hPc := hP.sub (ws' := [(h0, .inr (1, [.ref q, .int (nI L)])), (q, .inl (cB, n, .inl f))]) [0, 1] rfl
  have hDc := hD.sub (ws' := [(h0, .inr (1, [.ref q, .int (nI L)])), (q, .inl (cB, n, .inl f))]) [0, 1] (by decide) rfl
  have hFc := va_free (wc := [(h0, .inr (1, [.ref q, .int (nI L)])), (q, .inl (cB, n, .inl f))]) hD hS hA [0, 1] rfl
  have hkc : 0 ≤ 0 := by decide
  have hks : 0 ≤ 0 := by decide
  refine va_callv (va_runV (C := "DiscMaker$Bytes") (As := [.int (i + 0), .int (g9 0)]) (rest := []) ⟨hx, hb, hml, hown, hts⟩ (c_put l D cB cI cJ cZ cN cF s.heap.size h0 q L n f (i + 0) (g9 0) hL hn) (cwV 2 hts (lg_goodV k988 k912 k913 k119 kc_Bytes_put) rfl rfl rfl (by decide +kernel) ⟨Nat.le_of_ble_eq_true rfl, Nat.le_of_ble_eq_true rfl⟩) ⟨fun a U g mk q => by obtain ⟨q0, q1, qP, qK, qN, qD⟩ := q; exact ⟨q0, q1, qP, va_K.moved (u := U) (U := U.calling g mk a) (Vm.Alike.refl U.vm) qK, qN.calling, qD⟩, va_recv hK hP (ci := 1) (q0 := 0) rfl rfl, fun U hU hW => ⟨rfl, by rw [hU], by rw [hU]; exact hPc, va_K.moved hW.alike hK, NN.warm hW hN, hDc.weaken (fun _ _ _ _ => trivial)⟩⟩ rfl rfl hl.1 rfl (lv_room (Nat.le_of_ble_eq_true rfl)) d_Bytes_putRow_15 ⟨hkc, hks⟩) hS (fun q _ h => hFc q h) hFc (fun u t H1 locs ht hvm hp_15 hB hz1 hk1 hS => ?_)
  obtain ⟨g15_14, rfl⟩ : ∃ z, z = u := ⟨_, rfl⟩
  obtain ⟨hP1, hD1⟩ := hB
  rw [ht] at hP1
  obtain ⟨hP, hD⟩ := va_join (wr := []) (w1 := [(h0, .inr (1, [.ref q, .int (nI L)])), (q, .inl (cB, n, .inl g15_14))]) hP hD [0, 1] [] rfl rfl (by decide) (by decide) hk1 hFc hP1 hD1
  clear hPc hDc hFc hP1 hD1 hk1 hz1
  generalize H1 = H at hP hS ⊢
  have hP : va_P D CL [(h0, .inr (1, [.ref q, .int (nI L)])), (q, .inl (cB, n, .inl g15_14))] H := hP
  have hD : va_D A [(h0, .inr (1, [.ref q, .int (nI L)])), (q, .inl (cB, n, .inl g15_14))] := hD
  refine lv_iinc (v := 1) hx hb d_Bytes_putRow_18 hl (k := 0) rfl (by decide) (by decide) rfl (fun ls hl => ?_)
  have hl : lv_has ls 4 [(3, .int 1), (0, .ref h0), (1, .int i), (2, .ref t9)] := hl
  refine lv_goto (tgt := 2) hx hb d_Bytes_putRow_21 (by decide) ?_
  refine lv_iload_n hx hb d_Bytes_putRow_2 rfl (lv_at hl 0 rfl) ?_
  refine lv_aload_n hx hb d_Bytes_putRow_3 rfl (lv_at hl 3 rfl) ?_
  refine va_tlen (v := 7) hx hb hZ hS rfl d_Bytes_putRow_4 ?_
  refine lv_icmp_ge (tgt := 24) hx hb d_Bytes_putRow_5 (by decide) (fun h_5 => absurd h_5 (by decide)) (fun h_5 => ?_)
  refine lv_aload_n hx hb d_Bytes_putRow_8 rfl (lv_at hl 1 rfl) ?_
  refine lv_iload_n hx hb d_Bytes_putRow_9 rfl (lv_at hl 2 rfl) ?_
  refine lv_iload_n hx hb d_Bytes_putRow_10 rfl (lv_at hl 0 rfl) ?_
  refine lv_iadd hx hb d_Bytes_putRow_11 ?_
  refine lv_aload_n hx hb d_Bytes_putRow_12 rfl (lv_at hl 3 rfl) ?_
  refine lv_iload_n hx hb d_Bytes_putRow_13 rfl (lv_at hl 0 rfl) ?_
  refine va_tb (v := .int (g9 1)) hx hb hZ hS (by unfold vp_in; decide) rfl d_Bytes_putRow_14 ?_
  have hPc := hP.sub (ws' := [(h0, .inr (1, [.ref q, .int (nI L)])), (q, .inl (cB, n, .inl g15_14))]) [0, 1] rfl
  have hDc := hD.sub (ws' := [(h0, .inr (1, [.ref q, .int (nI L)])), (q, .inl (cB, n, .inl g15_14))]) [0, 1] (by decide) rfl
  have hFc := va_free (wc := [(h0, .inr (1, [.ref q, .int (nI L)])), (q, .inl (cB, n, .inl g15_14))]) hD hS hA [0, 1] rfl
  have hkc : 0 ≤ 0 := by decide
  have hks : 0 ≤ 0 := by decide
  refine va_callv (va_runV (C := "DiscMaker$Bytes") (As := [.int (i + 1), .int (g9 1)]) (rest := []) ⟨hx, hb, hml, hown, hts⟩ (c_put l D cB cI cJ cZ cN cF H.size h0 q L n g15_14 (i + 1) (g9 1) hL hn) (cwV 2 hts (lg_goodV k988 k912 k913 k119 kc_Bytes_put) rfl rfl rfl (by decide +kernel) ⟨Nat.le_of_ble_eq_true rfl, Nat.le_of_ble_eq_true rfl⟩) ⟨fun a U g mk q => by obtain ⟨q0, q1, qP, qK, qN, qD⟩ := q; exact ⟨q0, q1, qP, va_K.moved (u := U) (U := U.calling g mk a) (Vm.Alike.refl U.vm) qK, qN.calling, qD⟩, va_recv hK hP (ci := 1) (q0 := 0) rfl rfl, fun U hU hW => ⟨rfl, by rw [hU], by rw [hU]; exact hPc, va_K.moved hW.alike hK, NN.warm hW hN, hDc.weaken (fun _ _ _ _ => trivial)⟩⟩ rfl rfl hl.1 rfl (lv_room (Nat.le_of_ble_eq_true rfl)) d_Bytes_putRow_15 ⟨hkc, hks⟩) hS (fun q _ h => hFc q h) hFc (fun u t H1 locs ht hvm hp_15 hB hz1 hk1 hS => ?_)
  obtain ⟨g15_28, rfl⟩ : ∃ z, z = u := ⟨_, rfl⟩
  obtain ⟨hP1, hD1⟩ := hB
  rw [ht] at hP1
  obtain ⟨hP, hD⟩ := va_join (wr := []) (w1 := [(h0, .inr (1, [.ref q, .int (nI L)])), (q, .inl (cB, n, .inl g15_28))]) hP hD [0, 1] [] rfl rfl (by decide) (by decide) hk1 hFc hP1 hD1
  clear hPc hDc hFc hP1 hD1 hk1 hz1
  generalize H1 = H at hP hS ⊢
  have hP : va_P D CL [(h0, .inr (1, [.ref q, .int (nI L)])), (q, .inl (cB, n, .inl g15_28))] H := hP
  have hD : va_D A [(h0, .inr (1, [.ref q, .int (nI L)])), (q, .inl (cB, n, .inl g15_28))] := hD
  refine lv_iinc (v := 2) hx hb d_Bytes_putRow_18 hl (k := 0) rfl (by decide) (by decide) rfl (fun ls hl => ?_)
  have hl : lv_has ls 4 [(3, .int 2), (0, .ref h0), (1, .int i), (2, .ref t9)] := hl
  refine lv_goto (tgt := 2) hx hb d_Bytes_putRow_21 (by decide) ?_
  refine lv_iload_n hx hb d_Bytes_putRow_2 rfl (lv_at hl 0 rfl) ?_
  refine lv_aload_n hx hb d_Bytes_putRow_3 rfl (lv_at hl 3 rfl) ?_
  refine va_tlen (v := 7) hx hb hZ hS rfl d_Bytes_putRow_4 ?_
  refine lv_icmp_ge (tgt := 24) hx hb d_Bytes_putRow_5 (by decide) (fun h_5 => absurd h_5 (by decide)) (fun h_5 => ?_)
  refine lv_aload_n hx hb d_Bytes_putRow_8 rfl (lv_at hl 1 rfl) ?_
  refine lv_iload_n hx hb d_Bytes_putRow_9 rfl (lv_at hl 2 rfl) ?_
  refine lv_iload_n hx hb d_Bytes_putRow_10 rfl (lv_at hl 0 rfl) ?_
  refine lv_iadd hx hb d_Bytes_putRow_11 ?_
  refine lv_aload_n hx hb d_Bytes_putRow_12 rfl (lv_at hl 3 rfl) ?_
  refine lv_iload_n hx hb d_Bytes_putRow_13 rfl (lv_at hl 0 rfl) ?_
  refine va_tb (v := .int (g9 2)) hx hb hZ hS (by unfold vp_in; decide) rfl d_Bytes_putRow_14 ?_
  have hPc := hP.sub (ws' := [(h0, .inr (1, [.ref q, .int (nI L)])), (q, .inl (cB, n, .inl g15_28))]) [0, 1] rfl
  have hDc := hD.sub (ws' := [(h0, .inr (1, [.ref q, .int (nI L)])), (q, .inl (cB, n, .inl g15_28))]) [0, 1] (by decide) rfl
  have hFc := va_free (wc := [(h0, .inr (1, [.ref q, .int (nI L)])), (q, .inl (cB, n, .inl g15_28))]) hD hS hA [0, 1] rfl
  have hkc : 0 ≤ 0 := by decide
  have hks : 0 ≤ 0 := by decide
  refine va_callv (va_runV (C := "DiscMaker$Bytes") (As := [.int (i + 2), .int (g9 2)]) (rest := []) ⟨hx, hb, hml, hown, hts⟩ (c_put l D cB cI cJ cZ cN cF H.size h0 q L n g15_28 (i + 2) (g9 2) hL hn) (cwV 2 hts (lg_goodV k988 k912 k913 k119 kc_Bytes_put) rfl rfl rfl (by decide +kernel) ⟨Nat.le_of_ble_eq_true rfl, Nat.le_of_ble_eq_true rfl⟩) ⟨fun a U g mk q => by obtain ⟨q0, q1, qP, qK, qN, qD⟩ := q; exact ⟨q0, q1, qP, va_K.moved (u := U) (U := U.calling g mk a) (Vm.Alike.refl U.vm) qK, qN.calling, qD⟩, va_recv hK hP (ci := 1) (q0 := 0) rfl rfl, fun U hU hW => ⟨rfl, by rw [hU], by rw [hU]; exact hPc, va_K.moved hW.alike hK, NN.warm hW hN, hDc.weaken (fun _ _ _ _ => trivial)⟩⟩ rfl rfl hl.1 rfl (lv_room (Nat.le_of_ble_eq_true rfl)) d_Bytes_putRow_15 ⟨hkc, hks⟩) hS (fun q _ h => hFc q h) hFc (fun u t H1 locs ht hvm hp_15 hB hz1 hk1 hS => ?_)
  obtain ⟨g15_42, rfl⟩ : ∃ z, z = u := ⟨_, rfl⟩
  obtain ⟨hP1, hD1⟩ := hB
  rw [ht] at hP1
  obtain ⟨hP, hD⟩ := va_join (wr := []) (w1 := [(h0, .inr (1, [.ref q, .int (nI L)])), (q, .inl (cB, n, .inl g15_42))]) hP hD [0, 1] [] rfl rfl (by decide) (by decide) hk1 hFc hP1 hD1
  clear hPc hDc hFc hP1 hD1 hk1 hz1
  generalize H1 = H at hP hS ⊢
  have hP : va_P D CL [(h0, .inr (1, [.ref q, .int (nI L)])), (q, .inl (cB, n, .inl g15_42))] H := hP
  have hD : va_D A [(h0, .inr (1, [.ref q, .int (nI L)])), (q, .inl (cB, n, .inl g15_42))] := hD
  refine lv_iinc (v := 3) hx hb d_Bytes_putRow_18 hl (k := 0) rfl (by decide) (by decide) rfl (fun ls hl => ?_)
  have hl : lv_has ls 4 [(3, .int 3), (0, .ref h0), (1, .int i), (2, .ref t9)] := hl
  refine lv_goto (tgt := 2) hx hb d_Bytes_putRow_21 (by decide) ?_
  refine lv_iload_n hx hb d_Bytes_putRow_2 rfl (lv_at hl 0 rfl) ?_
  refine lv_aload_n hx hb d_Bytes_putRow_3 rfl (lv_at hl 3 rfl) ?_
  refine va_tlen (v := 7) hx hb hZ hS rfl d_Bytes_putRow_4 ?_
  refine lv_icmp_ge (tgt := 24) hx hb d_Bytes_putRow_5 (by decide) (fun h_5 => absurd h_5 (by decide)) (fun h_5 => ?_)
  refine lv_aload_n hx hb d_Bytes_putRow_8 rfl (lv_at hl 1 rfl) ?_
  refine lv_iload_n hx hb d_Bytes_putRow_9 rfl (lv_at hl 2 rfl) ?_
  refine lv_iload_n hx hb d_Bytes_putRow_10 rfl (lv_at hl 0 rfl) ?_
  refine lv_iadd hx hb d_Bytes_putRow_11 ?_
  refine lv_aload_n hx hb d_Bytes_putRow_12 rfl (lv_at hl 3 rfl) ?_
  refine lv_iload_n hx hb d_Bytes_putRow_13 rfl (lv_at hl 0 rfl) ?_
  refine va_tb (v := .int (g9 3)) hx hb hZ hS (by unfold vp_in; decide) rfl d_Bytes_putRow_14 ?_
  have hPc := hP.sub (ws' := [(h0, .inr (1, [.ref q, .int (nI L)])), (q, .inl (cB, n, .inl g15_42))]) [0, 1] rfl
  have hDc := hD.sub (ws' := [(h0, .inr (1, [.ref q, .int (nI L)])), (q, .inl (cB, n, .inl g15_42))]) [0, 1] (by decide) rfl
  have hFc := va_free (wc := [(h0, .inr (1, [.ref q, .int (nI L)])), (q, .inl (cB, n, .inl g15_42))]) hD hS hA [0, 1] rfl
  have hkc : 0 ≤ 0 := by decide
  have hks : 0 ≤ 0 := by decide
  refine va_callv (va_runV (C := "DiscMaker$Bytes") (As := [.int (i + 3), .int (g9 3)]) (rest := []) ⟨hx, hb, hml, hown, hts⟩ (c_put l D cB cI cJ cZ cN cF H.size h0 q L n g15_42 (i + 3) (g9 3) hL hn) (cwV 2 hts (lg_goodV k988 k912 k913 k119 kc_Bytes_put) rfl rfl rfl (by decide +kernel) ⟨Nat.le_of_ble_eq_true rfl, Nat.le_of_ble_eq_true rfl⟩) ⟨fun a U g mk q => by obtain ⟨q0, q1, qP, qK, qN, qD⟩ := q; exact ⟨q0, q1, qP, va_K.moved (u := U) (U := U.calling g mk a) (Vm.Alike.refl U.vm) qK, qN.calling, qD⟩, va_recv hK hP (ci := 1) (q0 := 0) rfl rfl, fun U hU hW => ⟨rfl, by rw [hU], by rw [hU]; exact hPc, va_K.moved hW.alike hK, NN.warm hW hN, hDc.weaken (fun _ _ _ _ => trivial)⟩⟩ rfl rfl hl.1 rfl (lv_room (Nat.le_of_ble_eq_true rfl)) d_Bytes_putRow_15 ⟨hkc, hks⟩) hS (fun q _ h => hFc q h) hFc (fun u t H1 locs ht hvm hp_15 hB hz1 hk1 hS => ?_)
  obtain ⟨g15_56, rfl⟩ : ∃ z, z = u := ⟨_, rfl⟩
  obtain ⟨hP1, hD1⟩ := hB
  rw [ht] at hP1
  obtain ⟨hP, hD⟩ := va_join (wr := []) (w1 := [(h0, .inr (1, [.ref q, .int (nI L)])), (q, .inl (cB, n, .inl g15_56))]) hP hD [0, 1] [] rfl rfl (by decide) (by decide) hk1 hFc hP1 hD1
  clear hPc hDc hFc hP1 hD1 hk1 hz1
  generalize H1 = H at hP hS ⊢
  have hP : va_P D CL [(h0, .inr (1, [.ref q, .int (nI L)])), (q, .inl (cB, n, .inl g15_56))] H := hP
  have hD : va_D A [(h0, .inr (1, [.ref q, .int (nI L)])), (q, .inl (cB, n, .inl g15_56))] := hD
  refine lv_iinc (v := 4) hx hb d_Bytes_putRow_18 hl (k := 0) rfl (by decide) (by decide) rfl (fun ls hl => ?_)
  have hl : lv_has ls 4 [(3, .int 4), (0, .ref h0), (1, .int i), (2, .ref t9)] := hl
  refine lv_goto (tgt := 2) hx hb d_Bytes_putRow_21 (by decide) ?_
  refine lv_iload_n hx hb d_Bytes_putRow_2 rfl (lv_at hl 0 rfl) ?_
  refine lv_aload_n hx hb d_Bytes_putRow_3 rfl (lv_at hl 3 rfl) ?_
  refine va_tlen (v := 7) hx hb hZ hS rfl d_Bytes_putRow_4 ?_
  refine lv_icmp_ge (tgt := 24) hx hb d_Bytes_putRow_5 (by decide) (fun h_5 => absurd h_5 (by decide)) (fun h_5 => ?_)
  refine lv_aload_n hx hb d_Bytes_putRow_8 rfl (lv_at hl 1 rfl) ?_
  refine lv_iload_n hx hb d_Bytes_putRow_9 rfl (lv_at hl 2 rfl) ?_
  refine lv_iload_n hx hb d_Bytes_putRow_10 rfl (lv_at hl 0 rfl) ?_
  refine lv_iadd hx hb d_Bytes_putRow_11 ?_
  refine lv_aload_n hx hb d_Bytes_putRow_12 rfl (lv_at hl 3 rfl) ?_
  refine lv_iload_n hx hb d_Bytes_putRow_13 rfl (lv_at hl 0 rfl) ?_
  refine va_tb (v := .int (g9 4)) hx hb hZ hS (by unfold vp_in; decide) rfl d_Bytes_putRow_14 ?_
  have hPc := hP.sub (ws' := [(h0, .inr (1, [.ref q, .int (nI L)])), (q, .inl (cB, n, .inl g15_56))]) [0, 1] rfl
  have hDc := hD.sub (ws' := [(h0, .inr (1, [.ref q, .int (nI L)])), (q, .inl (cB, n, .inl g15_56))]) [0, 1] (by decide) rfl
  have hFc := va_free (wc := [(h0, .inr (1, [.ref q, .int (nI L)])), (q, .inl (cB, n, .inl g15_56))]) hD hS hA [0, 1] rfl
  have hkc : 0 ≤ 0 := by decide
  have hks : 0 ≤ 0 := by decide
  refine va_callv (va_runV (C := "DiscMaker$Bytes") (As := [.int (i + 4), .int (g9 4)]) (rest := []) ⟨hx, hb, hml, hown, hts⟩ (c_put l D cB cI cJ cZ cN cF H.size h0 q L n g15_56 (i + 4) (g9 4) hL hn) (cwV 2 hts (lg_goodV k988 k912 k913 k119 kc_Bytes_put) rfl rfl rfl (by decide +kernel) ⟨Nat.le_of_ble_eq_true rfl, Nat.le_of_ble_eq_true rfl⟩) ⟨fun a U g mk q => by obtain ⟨q0, q1, qP, qK, qN, qD⟩ := q; exact ⟨q0, q1, qP, va_K.moved (u := U) (U := U.calling g mk a) (Vm.Alike.refl U.vm) qK, qN.calling, qD⟩, va_recv hK hP (ci := 1) (q0 := 0) rfl rfl, fun U hU hW => ⟨rfl, by rw [hU], by rw [hU]; exact hPc, va_K.moved hW.alike hK, NN.warm hW hN, hDc.weaken (fun _ _ _ _ => trivial)⟩⟩ rfl rfl hl.1 rfl (lv_room (Nat.le_of_ble_eq_true rfl)) d_Bytes_putRow_15 ⟨hkc, hks⟩) hS (fun q _ h => hFc q h) hFc (fun u t H1 locs ht hvm hp_15 hB hz1 hk1 hS => ?_)
  obtain ⟨g15_70, rfl⟩ : ∃ z, z = u := ⟨_, rfl⟩
  obtain ⟨hP1, hD1⟩ := hB
  rw [ht] at hP1
  obtain ⟨hP, hD⟩ := va_join (wr := []) (w1 := [(h0, .inr (1, [.ref q, .int (nI L)])), (q, .inl (cB, n, .inl g15_70))]) hP hD [0, 1] [] rfl rfl (by decide) (by decide) hk1 hFc hP1 hD1
  clear hPc hDc hFc hP1 hD1 hk1 hz1
  generalize H1 = H at hP hS ⊢
  have hP : va_P D CL [(h0, .inr (1, [.ref q, .int (nI L)])), (q, .inl (cB, n, .inl g15_70))] H := hP
  have hD : va_D A [(h0, .inr (1, [.ref q, .int (nI L)])), (q, .inl (cB, n, .inl g15_70))] := hD
  refine lv_iinc (v := 5) hx hb d_Bytes_putRow_18 hl (k := 0) rfl (by decide) (by decide) rfl (fun ls hl => ?_)
  have hl : lv_has ls 4 [(3, .int 5), (0, .ref h0), (1, .int i), (2, .ref t9)] := hl
  refine lv_goto (tgt := 2) hx hb d_Bytes_putRow_21 (by decide) ?_
  refine lv_iload_n hx hb d_Bytes_putRow_2 rfl (lv_at hl 0 rfl) ?_
  refine lv_aload_n hx hb d_Bytes_putRow_3 rfl (lv_at hl 3 rfl) ?_
  refine va_tlen (v := 7) hx hb hZ hS rfl d_Bytes_putRow_4 ?_
  refine lv_icmp_ge (tgt := 24) hx hb d_Bytes_putRow_5 (by decide) (fun h_5 => absurd h_5 (by decide)) (fun h_5 => ?_)
  refine lv_aload_n hx hb d_Bytes_putRow_8 rfl (lv_at hl 1 rfl) ?_
  refine lv_iload_n hx hb d_Bytes_putRow_9 rfl (lv_at hl 2 rfl) ?_
  refine lv_iload_n hx hb d_Bytes_putRow_10 rfl (lv_at hl 0 rfl) ?_
  refine lv_iadd hx hb d_Bytes_putRow_11 ?_
  refine lv_aload_n hx hb d_Bytes_putRow_12 rfl (lv_at hl 3 rfl) ?_
  refine lv_iload_n hx hb d_Bytes_putRow_13 rfl (lv_at hl 0 rfl) ?_
  refine va_tb (v := .int (g9 5)) hx hb hZ hS (by unfold vp_in; decide) rfl d_Bytes_putRow_14 ?_
  have hPc := hP.sub (ws' := [(h0, .inr (1, [.ref q, .int (nI L)])), (q, .inl (cB, n, .inl g15_70))]) [0, 1] rfl
  have hDc := hD.sub (ws' := [(h0, .inr (1, [.ref q, .int (nI L)])), (q, .inl (cB, n, .inl g15_70))]) [0, 1] (by decide) rfl
  have hFc := va_free (wc := [(h0, .inr (1, [.ref q, .int (nI L)])), (q, .inl (cB, n, .inl g15_70))]) hD hS hA [0, 1] rfl
  have hkc : 0 ≤ 0 := by decide
  have hks : 0 ≤ 0 := by decide
  refine va_callv (va_runV (C := "DiscMaker$Bytes") (As := [.int (i + 5), .int (g9 5)]) (rest := []) ⟨hx, hb, hml, hown, hts⟩ (c_put l D cB cI cJ cZ cN cF H.size h0 q L n g15_70 (i + 5) (g9 5) hL hn) (cwV 2 hts (lg_goodV k988 k912 k913 k119 kc_Bytes_put) rfl rfl rfl (by decide +kernel) ⟨Nat.le_of_ble_eq_true rfl, Nat.le_of_ble_eq_true rfl⟩) ⟨fun a U g mk q => by obtain ⟨q0, q1, qP, qK, qN, qD⟩ := q; exact ⟨q0, q1, qP, va_K.moved (u := U) (U := U.calling g mk a) (Vm.Alike.refl U.vm) qK, qN.calling, qD⟩, va_recv hK hP (ci := 1) (q0 := 0) rfl rfl, fun U hU hW => ⟨rfl, by rw [hU], by rw [hU]; exact hPc, va_K.moved hW.alike hK, NN.warm hW hN, hDc.weaken (fun _ _ _ _ => trivial)⟩⟩ rfl rfl hl.1 rfl (lv_room (Nat.le_of_ble_eq_true rfl)) d_Bytes_putRow_15 ⟨hkc, hks⟩) hS (fun q _ h => hFc q h) hFc (fun u t H1 locs ht hvm hp_15 hB hz1 hk1 hS => ?_)
  obtain ⟨g15_84, rfl⟩ : ∃ z, z = u := ⟨_, rfl⟩
  obtain ⟨hP1, hD1⟩ := hB
  rw [ht] at hP1
  obtain ⟨hP, hD⟩ := va_join (wr := []) (w1 := [(h0, .inr (1, [.ref q, .int (nI L)])), (q, .inl (cB, n, .inl g15_84))]) hP hD [0, 1] [] rfl rfl (by decide) (by decide) hk1 hFc hP1 hD1
  clear hPc hDc hFc hP1 hD1 hk1 hz1
  generalize H1 = H at hP hS ⊢
  have hP : va_P D CL [(h0, .inr (1, [.ref q, .int (nI L)])), (q, .inl (cB, n, .inl g15_84))] H := hP
  have hD : va_D A [(h0, .inr (1, [.ref q, .int (nI L)])), (q, .inl (cB, n, .inl g15_84))] := hD
  refine lv_iinc (v := 6) hx hb d_Bytes_putRow_18 hl (k := 0) rfl (by decide) (by decide) rfl (fun ls hl => ?_)
  have hl : lv_has ls 4 [(3, .int 6), (0, .ref h0), (1, .int i), (2, .ref t9)] := hl
  refine lv_goto (tgt := 2) hx hb d_Bytes_putRow_21 (by decide) ?_
  refine lv_iload_n hx hb d_Bytes_putRow_2 rfl (lv_at hl 0 rfl) ?_
  refine lv_aload_n hx hb d_Bytes_putRow_3 rfl (lv_at hl 3 rfl) ?_
  refine va_tlen (v := 7) hx hb hZ hS rfl d_Bytes_putRow_4 ?_
  refine lv_icmp_ge (tgt := 24) hx hb d_Bytes_putRow_5 (by decide) (fun h_5 => absurd h_5 (by decide)) (fun h_5 => ?_)
  refine lv_aload_n hx hb d_Bytes_putRow_8 rfl (lv_at hl 1 rfl) ?_
  refine lv_iload_n hx hb d_Bytes_putRow_9 rfl (lv_at hl 2 rfl) ?_
  refine lv_iload_n hx hb d_Bytes_putRow_10 rfl (lv_at hl 0 rfl) ?_
  refine lv_iadd hx hb d_Bytes_putRow_11 ?_
  refine lv_aload_n hx hb d_Bytes_putRow_12 rfl (lv_at hl 3 rfl) ?_
  refine lv_iload_n hx hb d_Bytes_putRow_13 rfl (lv_at hl 0 rfl) ?_
  refine va_tb (v := .int (g9 6)) hx hb hZ hS (by unfold vp_in; decide) rfl d_Bytes_putRow_14 ?_
  have hPc := hP.sub (ws' := [(h0, .inr (1, [.ref q, .int (nI L)])), (q, .inl (cB, n, .inl g15_84))]) [0, 1] rfl
  have hDc := hD.sub (ws' := [(h0, .inr (1, [.ref q, .int (nI L)])), (q, .inl (cB, n, .inl g15_84))]) [0, 1] (by decide) rfl
  have hFc := va_free (wc := [(h0, .inr (1, [.ref q, .int (nI L)])), (q, .inl (cB, n, .inl g15_84))]) hD hS hA [0, 1] rfl
  have hkc : 0 ≤ 0 := by decide
  have hks : 0 ≤ 0 := by decide
  refine va_callv (va_runV (C := "DiscMaker$Bytes") (As := [.int (i + 6), .int (g9 6)]) (rest := []) ⟨hx, hb, hml, hown, hts⟩ (c_put l D cB cI cJ cZ cN cF H.size h0 q L n g15_84 (i + 6) (g9 6) hL hn) (cwV 2 hts (lg_goodV k988 k912 k913 k119 kc_Bytes_put) rfl rfl rfl (by decide +kernel) ⟨Nat.le_of_ble_eq_true rfl, Nat.le_of_ble_eq_true rfl⟩) ⟨fun a U g mk q => by obtain ⟨q0, q1, qP, qK, qN, qD⟩ := q; exact ⟨q0, q1, qP, va_K.moved (u := U) (U := U.calling g mk a) (Vm.Alike.refl U.vm) qK, qN.calling, qD⟩, va_recv hK hP (ci := 1) (q0 := 0) rfl rfl, fun U hU hW => ⟨rfl, by rw [hU], by rw [hU]; exact hPc, va_K.moved hW.alike hK, NN.warm hW hN, hDc.weaken (fun _ _ _ _ => trivial)⟩⟩ rfl rfl hl.1 rfl (lv_room (Nat.le_of_ble_eq_true rfl)) d_Bytes_putRow_15 ⟨hkc, hks⟩) hS (fun q _ h => hFc q h) hFc (fun u t H1 locs ht hvm hp_15 hB hz1 hk1 hS => ?_)
  obtain ⟨g15_98, rfl⟩ : ∃ z, z = u := ⟨_, rfl⟩
  obtain ⟨hP1, hD1⟩ := hB
  rw [ht] at hP1
  obtain ⟨hP, hD⟩ := va_join (wr := []) (w1 := [(h0, .inr (1, [.ref q, .int (nI L)])), (q, .inl (cB, n, .inl g15_98))]) hP hD [0, 1] [] rfl rfl (by decide) (by decide) hk1 hFc hP1 hD1
  clear hPc hDc hFc hP1 hD1 hk1 hz1
  generalize H1 = H at hP hS ⊢
  have hP : va_P D CL [(h0, .inr (1, [.ref q, .int (nI L)])), (q, .inl (cB, n, .inl g15_98))] H := hP
  have hD : va_D A [(h0, .inr (1, [.ref q, .int (nI L)])), (q, .inl (cB, n, .inl g15_98))] := hD
  refine lv_iinc (v := 7) hx hb d_Bytes_putRow_18 hl (k := 0) rfl (by decide) (by decide) rfl (fun ls hl => ?_)
  have hl : lv_has ls 4 [(3, .int 7), (0, .ref h0), (1, .int i), (2, .ref t9)] := hl
  refine lv_goto (tgt := 2) hx hb d_Bytes_putRow_21 (by decide) ?_
  refine lv_iload_n hx hb d_Bytes_putRow_2 rfl (lv_at hl 0 rfl) ?_
  refine lv_aload_n hx hb d_Bytes_putRow_3 rfl (lv_at hl 3 rfl) ?_
  refine va_tlen (v := 7) hx hb hZ hS rfl d_Bytes_putRow_4 ?_
  refine lv_icmp_ge (tgt := 24) hx hb d_Bytes_putRow_5 (by decide) (fun h_5 => ?_) (fun h_5 => absurd (by decide) h_5)
  have hP9 := hP.sub (ws' := [(h0, .inr (1, [.ref q, .int (nI L)])), (q, .inl (cB, n, .inl g15_98))]) [0, 1] rfl
  have hD9 := hD.sub (ws' := [(h0, .inr (1, [.ref q, .int (nI L)])), (q, .inl (cB, n, .inl g15_98))]) [0, 1] (by decide) rfl
  exact W.vret hx hb hr (fun t ht hW => ⟨⟨g15_98, rfl, trivial, by rw [ht]; exact hP9, hD9⟩, hS.F ht⟩) hS.2.2 d_Bytes_putRow_24

theorem d_Bytes_copyTo_0 : decode b_Bytes_copyTo 0 = .ok (.iconst 0, 1) := by decide +kernel
theorem d_Bytes_copyTo_1 : decode b_Bytes_copyTo 1 = .ok (.istore 5, 2) := by decide +kernel
theorem d_Bytes_copyTo_3 : decode b_Bytes_copyTo 3 = .ok (.iload 5, 2) := by decide +kernel
theorem d_Bytes_copyTo_5 : decode b_Bytes_copyTo 5 = .ok (.iload 4, 2) := by decide +kernel
theorem d_Bytes_copyTo_7 : decode b_Bytes_copyTo 7 = .ok (.if_icmp .ge 25, 3) := by decide +kernel
theorem d_Bytes_copyTo_10 : decode b_Bytes_copyTo 10 = .ok (.aload_n 1, 1) := by decide +kernel
theorem d_Bytes_copyTo_11 : decode b_Bytes_copyTo 11 = .ok (.iload_n 3, 1) := by decide +kernel
theorem d_Bytes_copyTo_12 : decode b_Bytes_copyTo 12 = .ok (.iload 5, 2) := by decide +kernel
theorem d_Bytes_copyTo_14 : decode b_Bytes_copyTo 14 = .ok (.iadd, 1) := by decide +kernel
theorem d_Bytes_copyTo_15 : decode b_Bytes_copyTo 15 = .ok (.aload_n 0, 1) := by decide +kernel
theorem d_Bytes_copyTo_16 : decode b_Bytes_copyTo 16 = .ok (.iload_n 2, 1) := by decide +kernel
theorem d_Bytes_copyTo_17 : decode b_Bytes_copyTo 17 = .ok (.iload 5, 2) := by decide +kernel
theorem d_Bytes_copyTo_19 : decode b_Bytes_copyTo 19 = .ok (.iadd, 1) := by decide +kernel
theorem d_Bytes_copyTo_20 : decode b_Bytes_copyTo 20 = .ok (.invokevirtual 33, 3) := by decide +kernel
theorem d_Bytes_copyTo_23 : decode b_Bytes_copyTo 23 = .ok (.invokevirtual 29, 3) := by decide +kernel
theorem d_Bytes_copyTo_26 : decode b_Bytes_copyTo 26 = .ok (.iinc 5 1, 3) := by decide +kernel
theorem d_Bytes_copyTo_29 : decode b_Bytes_copyTo 29 = .ok (.goto (-26), 3) := by decide +kernel
theorem d_Bytes_copyTo_32 : decode b_Bytes_copyTo 32 = .ok (.return_, 1) := by decide +kernel
set_option maxHeartbeats 4000000 in
set_option maxRecDepth 100000 in
theorem c_copyTo (l : Launch) (D : va_G) (cB cI cJ cZ cN cF : ClassId) (sz : Nat) (h0 q L n : Nat) (f : Nat → Int32) (o0 q2 L2 n2 : Nat) (f2 : Nat → Int32) (i v : Int32) (b9 : Nat) (hL : L ≤ n) (hn : n < 2147483648) (hL2 : L2 ≤ n2) (hn2 : n2 < 2147483648) (hb9 : b9 < 2147483648) : Met l y_Bytes_copyTo w_Bytes_copyTo ({ frames := 1, cells := 0, slots := 0, locals := 22 }) (va_Pc [.ref h0, .ref o0, .int i, .int v, .int (nI b9)] (fun U => U.heap.size = sz ∧ va_P D CL [(h0, .inr (1, [.ref q, .int (nI L)])), (q, .inl (cB, n, .inl f)), (o0, .inr (1, [.ref q2, .int (nI L2)])), (q2, .inl (cB, n2, .inl f2))] U.heap ∧ va_K D CL (TY cB cI cJ cZ cN cF) U ∧ NN U ∧ va_D (fun _ => True) [(h0, .inr (1, [.ref q, .int (nI L)])), (q, .inl (cB, n, .inl f)), (o0, .inr (1, [.ref q2, .int (nI L2)])), (q2, .inl (cB, n2, .inl f2))])) (va_Qv (fun (u : Nat → Int32) => True) (fun (u : Nat → Int32) (t : State) => match u with | g => va_P D CL [(h0, .inr (1, [.ref q, .int (nI L)])), (q, .inl (cB, n, .inl f)), (o0, .inr (1, [.ref q2, .int (nI L2)])), (q2, .inl (cB, n2, .inl g))] t.heap ∧ va_D (va_A [(h0, .inr (1, [.ref q, .int (nI L)])), (q, .inl (cB, n, .inl f)), (o0, .inr (1, [.ref q2, .int (nI L2)])), (q2, .inl (cB, n2, .inl f2))] sz) [(h0, .inr (1, [.ref q, .int (nI L)])), (q, .inl (cB, n, .inl f)), (o0, .inr (1, [.ref q2, .int (nI L2)])), (q2, .inl (cB, n2, .inl g))]) (va_A [(h0, .inr (1, [.ref q, .int (nI L)])), (q, .inl (cB, n, .inl f)), (o0, .inr (1, [.ref q2, .int (nI L2)])), (q2, .inl (cB, n2, .inl f2))] sz)) 0 0 (va_A [(h0, .inr (1, [.ref q, .int (nI L)])), (q, .inl (cB, n, .inl f)), (o0, .inr (1, [.ref q2, .int (nI L2)])), (q2, .inl (cB, n2, .inl f2))] sz) := by
  refine Met.ofW (cc := b_Bytes_copyTo) (maxL := 6) (ret := none) (by decide) rfl ?_
  intro p e s m args below meth c s₁ B hml hv
  obtain ⟨rfl, hsz, hP, hK, hN, hD0⟩ := hv
  have hx := B.exec
  have hb := B.bytes
  have hr := B.returns
  have hts := atoms_spec (ws := w_Bytes_copyTo) B.pre
  have ht9 := fun (w : Cond) (h : w ∈ lw_g) => hts w (List.mem_cons_of_mem _ h)
  have hown : s.vm.findClass "DiscMaker$Bytes" = some m.cls := findClass_of_methodNamed B.named
  have hlocks := B.notSynchronized
  subst hsz
  have hD := hD0.self (sz := s.heap.size)
  generalize hAe : va_A [(h0, .inr (1, [.ref q, .int (nI L)])), (q, .inl (cB, n, .inl f)), (o0, .inr (1, [.ref q2, .int (nI L2)])), (q2, .inl (cB, n2, .inl f2))] s.heap.size = A at hD ⊢
  have hA : ∀ q : Nat, s.heap.size ≤ q → A q := fun q h => by rw [← hAe]; exact Or.inr h
  have hS : va_S A s.heap s.heap [] := va_S.rf
  have hP : va_P D CL [(h0, .inr (1, [.ref q, .int (nI L)])), (q, .inl (cB, n, .inl f)), (o0, .inr (1, [.ref q2, .int (nI L2)])), (q2, .inl (cB, n2, .inl f2))] s.heap := hP
  have hl := lv_entry [.ref h0, .ref o0, .int i, .int v, .int (nI b9)] (n := 6) (Nat.le_of_ble_eq_true rfl)
  rw [lg_entry_eq]
  generalize (lg_sl [.ref h0, .ref o0, .int i, .int v, .int (nI b9)] ++ List.replicate (6 - (lg_sl [.ref h0, .ref o0, .int i, .int v, .int (nI b9)]).length) Slot.unset).toArray = ls at hl ⊢
  have hl : lv_has ls 6 [(0, .ref h0), (1, .ref o0), (2, .int i), (3, .int v), (4, .int (nI b9))] := hl
  refine lv_iconst (v := 0) hx hb d_Bytes_copyTo_0 (by decide) ?_
  refine lv_istore hx hb d_Bytes_copyTo_1 hl (by decide) rfl (fun ls hl => ?_)
  have hl : lv_has ls 6 [(5, .int 0), (0, .ref h0), (1, .ref o0), (2, .int i), (3, .int v), (4, .int (nI b9))] := hl
  refine zz_loop (P := fun (lk : Nat) (H : Heap) (locs : List Loc) (ls : Array Slot) => ∃ (lj : Nat) (lf0 : Nat → Int32), lj + lk = b9 ∧ va_P D CL [(h0, .inr (1, [.ref q, .int (nI L)])), (q, .inl (cB, n, .inl f)), (o0, .inr (1, [.ref q2, .int (nI L2)])), (q2, .inl (cB, n2, .inl lf0))] H ∧ va_D A [(h0, .inr (1, [.ref q, .int (nI L)])), (q, .inl (cB, n, .inl f)), (o0, .inr (1, [.ref q2, .int (nI L2)])), (q2, .inl (cB, n2, .inl lf0))] ∧ va_S A s.heap H locs ∧ lv_has ls 6 [(5, .int (nI lj)), (0, .ref h0), (1, .ref o0), (2, .int i), (3, .int v), (4, .int (nI b9))]) (b9 - 0) ?_ ?_ _ _ _ ⟨0, f2, by omega, hP, hD, hS, hl⟩
  · skip
    intro H locs ls hI
    obtain ⟨lj, lf0, hj, hP, hD, hS, hl⟩ := hI
    refine lv_iload hx hb d_Bytes_copyTo_3 (lv_at hl 0 rfl) ?_
    refine lv_iload hx hb d_Bytes_copyTo_5 (lv_at hl 5 rfl) ?_
    refine lv_icmp_ge (tgt := 32) hx hb d_Bytes_copyTo_7 (by decide) (fun h_7 => ?_) (fun h_7 => absurd (nI_le (by omega) (by omega)) h_7)
    have hP9 := hP.sub (ws' := [(h0, .inr (1, [.ref q, .int (nI L)])), (q, .inl (cB, n, .inl f)), (o0, .inr (1, [.ref q2, .int (nI L2)])), (q2, .inl (cB, n2, .inl lf0))]) [0, 1, 2, 3] rfl
    have hD9 := hD.sub (ws' := [(h0, .inr (1, [.ref q, .int (nI L)])), (q, .inl (cB, n, .inl f)), (o0, .inr (1, [.ref q2, .int (nI L2)])), (q2, .inl (cB, n2, .inl lf0))]) [0, 1, 2, 3] (by decide) rfl
    exact W.vret hx hb hr (fun t ht hW => ⟨⟨lf0, rfl, trivial, by rw [ht]; exact hP9, hD9⟩, hS.F ht⟩) hS.2.2 d_Bytes_copyTo_32
  · skip
    intro lk ih H locs ls hI
    obtain ⟨lj, lf0, hj, hP, hD, hS, hl⟩ := hI
    refine lv_iload hx hb d_Bytes_copyTo_3 (lv_at hl 0 rfl) ?_
    refine lv_iload hx hb d_Bytes_copyTo_5 (lv_at hl 5 rfl) ?_
    refine lv_icmp_ge (tgt := 32) hx hb d_Bytes_copyTo_7 (by decide) (fun h_7 => absurd h_7 (nI_ge (by omega) (by omega))) (fun h_7 => ?_)
    refine lv_aload_n hx hb d_Bytes_copyTo_10 rfl (lv_at hl 2 rfl) ?_
    refine lv_iload_n hx hb d_Bytes_copyTo_11 rfl (lv_at hl 4 rfl) ?_
    refine lv_iload hx hb d_Bytes_copyTo_12 (lv_at hl 0 rfl) ?_
    refine lv_iadd hx hb d_Bytes_copyTo_14 ?_
    refine lv_aload_n hx hb d_Bytes_copyTo_15 rfl (lv_at hl 1 rfl) ?_
    refine lv_iload_n hx hb d_Bytes_copyTo_16 rfl (lv_at hl 3 rfl) ?_
    refine lv_iload hx hb d_Bytes_copyTo_17 (lv_at hl 0 rfl) ?_
    refine lv_iadd hx hb d_Bytes_copyTo_19 ?_
    have hPc := hP.sub (ws' := [(h0, .inr (1, [.ref q, .int (nI L)])), (q, .inl (cB, n, .inl f))]) [0, 1] rfl
    have hDc := hD.sub (ws' := [(h0, .inr (1, [.ref q, .int (nI L)])), (q, .inl (cB, n, .inl f))]) [0, 1] (by decide) rfl
    have hFc := va_free (wc := [(h0, .inr (1, [.ref q, .int (nI L)])), (q, .inl (cB, n, .inl f))]) hD hS hA [0, 1] rfl
    have hkc : 0 ≤ 0 := by decide
    have hks : 0 ≤ 0 := by decide
    refine va_calli (va_runV (C := "DiscMaker$Bytes") (As := [.int (i + (nI lj))]) (rest := [.int (v + (nI lj)), .ref o0]) ⟨hx, hb, hml, hown, hts⟩ (c_at l D cB cI cJ cZ cN cF H.size h0 q L n f (i + (nI lj)) hL hn) (cwV 1 hts (lg_goodV k1064 k1065 k1066 k119 kc_Bytes_at) rfl rfl rfl (by decide +kernel) ⟨Nat.le_of_ble_eq_true rfl, Nat.le_of_ble_eq_true rfl⟩) ⟨fun a U g mk q => by obtain ⟨q0, q1, qP, qK, qN, qD⟩ := q; exact ⟨q0, q1, qP, va_K.moved (u := U) (U := U.calling g mk a) (Vm.Alike.refl U.vm) qK, qN.calling, qD⟩, va_recv hK hP (ci := 1) (q0 := 0) rfl rfl, fun U hU hW => ⟨rfl, by rw [hU], by rw [hU]; exact hPc, va_K.moved hW.alike hK, NN.warm hW hN, hDc.weaken (fun _ _ _ _ => trivial)⟩⟩ rfl rfl hl.1 rfl (lv_room (Nat.le_of_ble_eq_true rfl)) d_Bytes_copyTo_20 ⟨hkc, hks⟩) hS (fun q _ h => hFc q h) hFc (fun r20 u t H1 locs ht hvm hp_20 hB hz1 hk1 hS => ?_)
    obtain ⟨hP1, hD1⟩ := hB
    rw [ht] at hP1
    obtain ⟨hP, hD⟩ := va_join (wr := [(o0, .inr (1, [.ref q2, .int (nI L2)])), (q2, .inl (cB, n2, .inl lf0))]) (w1 := [(h0, .inr (1, [.ref q, .int (nI L)])), (q, .inl (cB, n, .inl f))]) hP hD [0, 1] [2, 3] rfl rfl (by decide) (by decide) hk1 hFc hP1 hD1
    clear hPc hDc hFc hP1 hD1 hk1 hz1
    generalize H1 = H at hP hS ⊢
    have hP : va_P D CL [(o0, .inr (1, [.ref q2, .int (nI L2)])), (q2, .inl (cB, n2, .inl lf0)), (h0, .inr (1, [.ref q, .int (nI L)])), (q, .inl (cB, n, .inl f))] H := hP
    have hD : va_D A [(o0, .inr (1, [.ref q2, .int (nI L2)])), (q2, .inl (cB, n2, .inl lf0)), (h0, .inr (1, [.ref q, .int (nI L)])), (q, .inl (cB, n, .inl f))] := hD
    have hPc := hP.sub (ws' := [(o0, .inr (1, [.ref q2, .int (nI L2)])), (q2, .inl (cB, n2, .inl lf0))]) [0, 1] rfl
    have hDc := hD.sub (ws' := [(o0, .inr (1, [.ref q2, .int (nI L2)])), (q2, .inl (cB, n2, .inl lf0))]) [0, 1] (by decide) rfl
    have hFc := va_free (wc := [(o0, .inr (1, [.ref q2, .int (nI L2)])), (q2, .inl (cB, n2, .inl lf0))]) hD hS hA [0, 1] rfl
    have hkc : 0 ≤ 0 := by decide
    have hks : 0 ≤ 0 := by decide
    refine va_callv (va_runV (C := "DiscMaker$Bytes") (As := [.int (v + (nI lj)), .int r20]) (rest := []) ⟨hx, hb, hml, hown, hts⟩ (c_put l D cB cI cJ cZ cN cF H.size o0 q2 L2 n2 lf0 (v + (nI lj)) r20 hL2 hn2) (cwV 2 hts (lg_goodV k988 k912 k913 k119 kc_Bytes_put) rfl rfl rfl (by decide +kernel) ⟨Nat.le_of_ble_eq_true rfl, Nat.le_of_ble_eq_true rfl⟩) ⟨fun a U g mk q => by obtain ⟨q0, q1, qP, qK, qN, qD⟩ := q; exact ⟨q0, q1, qP, va_K.moved (u := U) (U := U.calling g mk a) (Vm.Alike.refl U.vm) qK, qN.calling, qD⟩, va_recv hK hP (ci := 1) (q0 := 0) rfl rfl, fun U hU hW => ⟨rfl, by rw [hU], by rw [hU]; exact hPc, va_K.moved hW.alike hK, NN.warm hW hN, hDc.weaken (fun _ _ _ _ => trivial)⟩⟩ rfl rfl hl.1 rfl (lv_room (Nat.le_of_ble_eq_true rfl)) d_Bytes_copyTo_23 ⟨hkc, hks⟩) hS (fun q _ h => hFc q h) hFc (fun u t H1 locs ht hvm hp_23 hB hz1 hk1 hS => ?_)
    obtain ⟨g23, rfl⟩ : ∃ z, z = u := ⟨_, rfl⟩
    obtain ⟨hP1, hD1⟩ := hB
    rw [ht] at hP1
    obtain ⟨hP, hD⟩ := va_join (wr := [(h0, .inr (1, [.ref q, .int (nI L)])), (q, .inl (cB, n, .inl f))]) (w1 := [(o0, .inr (1, [.ref q2, .int (nI L2)])), (q2, .inl (cB, n2, .inl g23))]) hP hD [0, 1] [2, 3] rfl rfl (by decide) (by decide) hk1 hFc hP1 hD1
    clear hPc hDc hFc hP1 hD1 hk1 hz1
    generalize H1 = H at hP hS ⊢
    have hP : va_P D CL [(h0, .inr (1, [.ref q, .int (nI L)])), (q, .inl (cB, n, .inl f)), (o0, .inr (1, [.ref q2, .int (nI L2)])), (q2, .inl (cB, n2, .inl g23))] H := hP
    have hD : va_D A [(h0, .inr (1, [.ref q, .int (nI L)])), (q, .inl (cB, n, .inl f)), (o0, .inr (1, [.ref q2, .int (nI L2)])), (q2, .inl (cB, n2, .inl g23))] := hD
    refine lv_iinc (v := (nI (lj + 1))) hx hb d_Bytes_copyTo_26 hl (k := 0) rfl (nI_add lj 1) (by decide) rfl (fun ls hl => ?_)
    have hl : lv_has ls 6 [(5, .int (nI (lj + 1))), (0, .ref h0), (1, .ref o0), (2, .int i), (3, .int v), (4, .int (nI b9))] := hl
    refine lv_goto (tgt := 3) hx hb d_Bytes_copyTo_29 (by decide) ?_
    have hP := hP.sub (ws' := [(h0, .inr (1, [.ref q, .int (nI L)])), (q, .inl (cB, n, .inl f)), (o0, .inr (1, [.ref q2, .int (nI L2)])), (q2, .inl (cB, n2, .inl g23))]) [0, 1, 2, 3] rfl
    have hD := hD.sub (ws' := [(h0, .inr (1, [.ref q, .int (nI L)])), (q, .inl (cB, n, .inl f)), (o0, .inr (1, [.ref q2, .int (nI L2)])), (q2, .inl (cB, n2, .inl g23))]) [0, 1, 2, 3] (by decide) rfl
    exact ih _ _ _ ⟨(lj + 1), g23, by omega, hP, hD, hS, hl⟩
