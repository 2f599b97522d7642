theorem d_SystemUse_clear_0 : decode b_SystemUse_clear 0 = .ok (.aload_n 0, 1) := by decide +kernel
theorem d_SystemUse_clear_1 : decode b_SystemUse_clear 1 = .ok (.getfield 16, 3) := by decide +kernel
theorem d_SystemUse_clear_4 : decode b_SystemUse_clear 4 = .ok (.iconst 0, 1) := by decide +kernel
theorem d_SystemUse_clear_5 : decode b_SystemUse_clear 5 = .ok (.invokevirtual 24, 3) := by decide +kernel
theorem d_SystemUse_clear_8 : decode b_SystemUse_clear 8 = .ok (.aload_n 0, 1) := by decide +kernel
theorem d_SystemUse_clear_9 : decode b_SystemUse_clear 9 = .ok (.iconst 0, 1) := by decide +kernel
theorem d_SystemUse_clear_10 : decode b_SystemUse_clear 10 = .ok (.putfield 27, 3) := by decide +kernel
theorem d_SystemUse_clear_13 : decode b_SystemUse_clear 13 = .ok (.aload_n 0, 1) := by decide +kernel
theorem d_SystemUse_clear_14 : decode b_SystemUse_clear 14 = .ok (.iconst 0, 1) := by decide +kernel
theorem d_SystemUse_clear_15 : decode b_SystemUse_clear 15 = .ok (.putfield 31, 3) := by decide +kernel
theorem d_SystemUse_clear_18 : decode b_SystemUse_clear 18 = .ok (.return_, 1) := by decide +kernel
set_option maxHeartbeats 4000000 in
set_option maxRecDepth 100000 in
theorem c3_clear (l : Launch) (D : va_G) (cB cI cJ cZ cN cF : ClassId) (sz : Nat) (u0 : Nat) (pb : Nat) (pq : Nat) (en : Nat) (uc : Int32) (uk : Int32) (pL : Int32) (pf : Nat → Int32) : Met l y_SystemUse_clear w_SystemUse_clear ({ frames := 1, cells := 0, slots := 0, locals := 27 }) (va_Pc [.ref u0] (fun U => U.heap.size = sz ∧ va_P D CL [(u0, .inr (8, [.ref pb, .ref en, .int uc, .int uk])), (pb, .inr (1, [.ref pq, .int pL])), (pq, .inl (cB, 400, .inl pf))] U.heap ∧ va_K D CL (TY cB cI cJ cZ cN cF) U ∧ NN U ∧ va_D (fun _ => True) [(u0, .inr (8, [.ref pb, .ref en, .int uc, .int uk])), (pb, .inr (1, [.ref pq, .int pL])), (pq, .inl (cB, 400, .inl pf))])) (va_Qv (fun (u : Unit) => True) (fun (u : Unit) (t : State) => match u with | () => va_P D CL [(u0, .inr (8, [.ref pb, .ref en, .int 0, .int 0])), (pb, .inr (1, [.ref pq, .int 0])), (pq, .inl (cB, 400, .inl pf))] t.heap ∧ va_D (va_A [(u0, .inr (8, [.ref pb, .ref en, .int uc, .int uk])), (pb, .inr (1, [.ref pq, .int pL])), (pq, .inl (cB, 400, .inl pf))] sz) [(u0, .inr (8, [.ref pb, .ref en, .int 0, .int 0])), (pb, .inr (1, [.ref pq, .int 0])), (pq, .inl (cB, 400, .inl pf))]) (va_A [(u0, .inr (8, [.ref pb, .ref en, .int uc, .int uk])), (pb, .inr (1, [.ref pq, .int pL])), (pq, .inl (cB, 400, .inl pf))] sz)) 0 0 (va_A [(u0, .inr (8, [.ref pb, .ref en, .int uc, .int uk])), (pb, .inr (1, [.ref pq, .int pL])), (pq, .inl (cB, 400, .inl pf))] sz) := by
  refine Met.ofW (cc := b_SystemUse_clear) (maxL := 1) (ret := none) (by decide +kernel) rfl ?_
  intro p e s m args below meth c s₁ B hml hv
  obtain ⟨rfl, hsz, hP, hK, hN, hD0⟩ := hv
  have hx := B.exec
  have hb := B.bytes
  have hr := B.returns
  have hts := atoms_spec (ws := w_SystemUse_clear) B.pre
  have ht9 := fun (w : Cond) (h : w ∈ lw_g) => hts w (List.mem_cons_of_mem _ h)
  have hown : s.vm.findClass "DiscMaker$SystemUse" = some m.cls := findClass_of_methodNamed B.named
  have hlocks := B.notSynchronized
  subst hsz
  have hD := hD0.self (sz := s.heap.size)
  generalize hAe : va_A [(u0, .inr (8, [.ref pb, .ref en, .int uc, .int uk])), (pb, .inr (1, [.ref pq, .int pL])), (pq, .inl (cB, 400, .inl pf))] s.heap.size = A at hD ⊢
  have hA : ∀ q : Nat, s.heap.size ≤ q → A q := fun q h => by rw [← hAe]; exact Or.inr h
  have hS : va_S A s.heap s.heap [] := va_S.rf
  have hP : va_P D CL [(u0, .inr (8, [.ref pb, .ref en, .int uc, .int uk])), (pb, .inr (1, [.ref pq, .int pL])), (pq, .inl (cB, 400, .inl pf))] s.heap := hP
  have hl := lv_entry [.ref u0] (n := 1) (Nat.le_of_ble_eq_true rfl)
  rw [lg_entry_eq]
  generalize (lg_sl [.ref u0] ++ List.replicate (1 - (lg_sl [.ref u0]).length) Slot.unset).toArray = ls at hl ⊢
  have hl : lv_has ls 1 [(0, .ref u0)] := hl
  have L_m1 : ((-1) : Int32).toInt = (-1) := by decide
  have L_0 : (0 : Int32).toInt = 0 := by decide
  have L_1 : (1 : Int32).toInt = 1 := by decide
  refine lv_aload_n hx hb d_SystemUse_clear_0 rfl (lv_at hl 0 rfl) ?_
  refine va_get (D := D) (ci := 8) (v := .ref pb) (C := "DiscMaker$SystemUse") (T := F_SystemUse) (N := 4) hx hb ht9 in_SystemUse hown hK hP 0 rfl rfl 0 (by decide) (ht9 _ k330) (fun _ h9 => h9) rfl d_SystemUse_clear_1 ?_
  refine lv_iconst (v := 0) hx hb d_SystemUse_clear_4 (by decide) ?_
  have hPc := hP.sub (ws' := [(pb, .inr (1, [.ref pq, .int pL])), (pq, .inl (cB, 400, .inl pf))]) [1, 2] rfl
  have hDc := hD.sub (ws' := [(pb, .inr (1, [.ref pq, .int pL])), (pq, .inl (cB, 400, .inl pf))]) [1, 2] (by decide +kernel) rfl
  have hFc := va_free (wc := [(pb, .inr (1, [.ref pq, .int pL])), (pq, .inl (cB, 400, .inl pf))]) hD hS hA [1, 2] rfl
  have hkc : 0 ≤ 0 := by decide
  have hks : 0 ≤ 0 := by decide
  refine va_callv (va_runV (C := "DiscMaker$Bytes") (As := [.int 0]) (rest := []) ⟨hx, hb, hml, hown, hts⟩ (c3_shorten l D cB cI cJ cZ cN cF s.heap.size pb pq 400 pL pf 0) (cwV 1 hts (lg_goodV k895 k896 k897 k119 kc_Bytes_shorten) rfl rfl rfl (by decide +kernel) ⟨Nat.le_of_ble_eq_true rfl, Nat.le_of_ble_eq_true rfl⟩) ⟨fun a U g mk q => by obtain ⟨q0, q1, qP, qK, qN, qD⟩ := q; exact ⟨q0, q1, qP, va_K.moved (u := U) (U := U.calling g mk a) (Vm.Alike.refl U.vm) qK, qN.calling, qD⟩, va_recv hK hP (ci := 1) (q0 := 1) rfl rfl, fun U hU hW => ⟨rfl, by rw [hU], by rw [hU]; exact hPc, va_K.moved hW.alike hK, NN.warm hW hN, hDc.weaken (fun _ _ _ _ => trivial)⟩⟩ rfl rfl hl.1 rfl (lv_room (Nat.le_of_ble_eq_true rfl)) d_SystemUse_clear_5 ⟨hkc, hks⟩) hS (fun q _ h => hFc q h) hFc (fun u t H1 locs ht hvm hp_r1 hB hz1 hk1 hS => ?_)
  obtain ⟨hP1, hD1⟩ := hB
  rw [ht] at hP1
  obtain ⟨hP, hD⟩ := va_join (wr := [(u0, .inr (8, [.ref pb, .ref en, .int uc, .int uk]))]) (w1 := [(pb, .inr (1, [.ref pq, .int 0])), (pq, .inl (cB, 400, .inl pf))]) hP hD [1, 2] [0] rfl rfl (by decide +kernel) (by decide +kernel) hk1 hFc hP1 hD1
  clear hPc hDc hFc hP1 hD1 hk1 hz1 hkc hks
  generalize H1 = H at hP hS ⊢
  have hP : va_P D CL [(u0, .inr (8, [.ref pb, .ref en, .int uc, .int uk])), (pb, .inr (1, [.ref pq, .int 0])), (pq, .inl (cB, 400, .inl pf))] H := hP
  have hD : va_D A [(u0, .inr (8, [.ref pb, .ref en, .int uc, .int uk])), (pb, .inr (1, [.ref pq, .int 0])), (pq, .inl (cB, 400, .inl pf))] := hD
  refine lv_aload_n hx hb d_SystemUse_clear_8 rfl (lv_at hl 0 rfl) ?_
  refine lv_iconst (v := 0) hx hb d_SystemUse_clear_9 (by decide) ?_
  refine va_put (D := D) (ci := 8) (v := .int 0) (ty := .int) (C := "DiscMaker$SystemUse") (T := F_SystemUse) (N := 4) hx hb ht9 in_SystemUse t_SystemUse t_SystemUse_ok n_SystemUse hown hK hP hD hS 0 rfl rfl 2 (by decide) (ht9 _ k333) (fun _ h9 => h9) rfl (by decide +kernel) rfl rfl (Nat.le_of_ble_eq_true rfl) d_SystemUse_clear_10 (fun H locs hP hD hS => ?_)
  have hP : va_P D CL [(u0, .inr (8, [.ref pb, .ref en, .int 0, .int uk])), (pb, .inr (1, [.ref pq, .int 0])), (pq, .inl (cB, 400, .inl pf))] H := hP
  have hD : va_D A [(u0, .inr (8, [.ref pb, .ref en, .int 0, .int uk])), (pb, .inr (1, [.ref pq, .int 0])), (pq, .inl (cB, 400, .inl pf))] := hD
  refine lv_aload_n hx hb d_SystemUse_clear_13 rfl (lv_at hl 0 rfl) ?_
  refine lv_iconst (v := 0) hx hb d_SystemUse_clear_14 (by decide) ?_
  refine va_put (D := D) (ci := 8) (v := .int 0) (ty := .int) (C := "DiscMaker$SystemUse") (T := F_SystemUse) (N := 4) hx hb ht9 in_SystemUse t_SystemUse t_SystemUse_ok n_SystemUse hown hK hP hD hS 0 rfl rfl 3 (by decide) (ht9 _ k334) (fun _ h9 => h9) rfl (by decide +kernel) rfl rfl (Nat.le_of_ble_eq_true rfl) d_SystemUse_clear_15 (fun H locs hP hD hS => ?_)
  have hP : va_P D CL [(u0, .inr (8, [.ref pb, .ref en, .int 0, .int 0])), (pb, .inr (1, [.ref pq, .int 0])), (pq, .inl (cB, 400, .inl pf))] H := hP
  have hD : va_D A [(u0, .inr (8, [.ref pb, .ref en, .int 0, .int 0])), (pb, .inr (1, [.ref pq, .int 0])), (pq, .inl (cB, 400, .inl pf))] := hD
  have hP9 := hP.sub (ws' := [(u0, .inr (8, [.ref pb, .ref en, .int 0, .int 0])), (pb, .inr (1, [.ref pq, .int 0])), (pq, .inl (cB, 400, .inl pf))]) [0, 1, 2] rfl
  have hD9 := hD.sub (ws' := [(u0, .inr (8, [.ref pb, .ref en, .int 0, .int 0])), (pb, .inr (1, [.ref pq, .int 0])), (pq, .inl (cB, 400, .inl pf))]) [0, 1, 2] (by decide +kernel) rfl
  exact W.vret hx hb hr (fun t ht hW => ⟨⟨(), rfl, trivial, by rw [ht]; exact hP9, hD9⟩, hS.F ht⟩) hS.2.2 d_SystemUse_clear_18

theorem d_SystemUse_bytesInRecord_0 : decode b_SystemUse_bytesInRecord 0 = .ok (.aload_n 0, 1) := by decide +kernel
theorem d_SystemUse_bytesInRecord_1 : decode b_SystemUse_bytesInRecord 1 = .ok (.getfield 31, 3) := by decide +kernel
theorem d_SystemUse_bytesInRecord_4 : decode b_SystemUse_bytesInRecord 4 = .ok (.aload_n 0, 1) := by decide +kernel
theorem d_SystemUse_bytesInRecord_5 : decode b_SystemUse_bytesInRecord 5 = .ok (.getfield 16, 3) := by decide +kernel
theorem d_SystemUse_bytesInRecord_8 : decode b_SystemUse_bytesInRecord 8 = .ok (.getfield 34, 3) := by decide +kernel
theorem d_SystemUse_bytesInRecord_11 : decode b_SystemUse_bytesInRecord 11 = .ok (.if_icmp .ge 13, 3) := by decide +kernel
theorem d_SystemUse_bytesInRecord_14 : decode b_SystemUse_bytesInRecord 14 = .ok (.aload_n 0, 1) := by decide +kernel
theorem d_SystemUse_bytesInRecord_15 : decode b_SystemUse_bytesInRecord 15 = .ok (.getfield 31, 3) := by decide +kernel
theorem d_SystemUse_bytesInRecord_18 : decode b_SystemUse_bytesInRecord 18 = .ok (.bipush 28, 2) := by decide +kernel
theorem d_SystemUse_bytesInRecord_20 : decode b_SystemUse_bytesInRecord 20 = .ok (.iadd, 1) := by decide +kernel
theorem d_SystemUse_bytesInRecord_21 : decode b_SystemUse_bytesInRecord 21 = .ok (.goto 7, 3) := by decide +kernel
theorem d_SystemUse_bytesInRecord_24 : decode b_SystemUse_bytesInRecord 24 = .ok (.aload_n 0, 1) := by decide +kernel
theorem d_SystemUse_bytesInRecord_25 : decode b_SystemUse_bytesInRecord 25 = .ok (.getfield 31, 3) := by decide +kernel
theorem d_SystemUse_bytesInRecord_28 : decode b_SystemUse_bytesInRecord 28 = .ok (.ireturn, 1) := by decide +kernel
set_option maxHeartbeats 4000000 in
set_option maxRecDepth 100000 in
theorem c3_bytesInRecord (l : Launch) (D : va_G) (cB cI cJ cZ cN cF : ClassId) (sz : Nat) (u0 : Nat) (pb : Nat) (pq : Nat) (en : Nat) (uc : Int32) (uk : Int32) (pL : Int32) (pf : Nat → Int32) (hPL : 0 ≤ pL.toInt ∧ pL.toInt ≤ 400) (huk : 0 ≤ uk.toInt ∧ uk.toInt ≤ pL.toInt) : Met l y_SystemUse_bytesInRecord w_SystemUse_bytesInRecord ({ frames := 0, cells := 0, slots := 0, locals := 0 }) (va_Pc [.ref u0] (fun U => U.heap.size = sz ∧ va_P D CL [(u0, .inr (8, [.ref pb, .ref en, .int uc, .int uk])), (pb, .inr (1, [.ref pq, .int pL])), (pq, .inl (cB, 400, .inl pf))] U.heap ∧ va_K D CL (TY cB cI cJ cZ cN cF) U ∧ NN U ∧ va_D (fun _ => True) [(u0, .inr (8, [.ref pb, .ref en, .int uc, .int uk])), (pb, .inr (1, [.ref pq, .int pL])), (pq, .inl (cB, 400, .inl pf))])) (va_Qi (fun (r : Int32) (u : Unit) => (0 ≤ r.toInt ∧ r.toInt ≤ pL.toInt + 28) ∧ (pL.toInt = 0 → r.toInt = 0) ∧ ((uk.toInt < pL.toInt ∧ r.toInt = uk.toInt + 28) ∨ (uk.toInt = pL.toInt ∧ r.toInt = uk.toInt))) (fun (u : Unit) (t : State) => match u with | () => va_P D CL [(u0, .inr (8, [.ref pb, .ref en, .int uc, .int uk])), (pb, .inr (1, [.ref pq, .int pL])), (pq, .inl (cB, 400, .inl pf))] t.heap ∧ va_D (va_A [(u0, .inr (8, [.ref pb, .ref en, .int uc, .int uk])), (pb, .inr (1, [.ref pq, .int pL])), (pq, .inl (cB, 400, .inl pf))] sz) [(u0, .inr (8, [.ref pb, .ref en, .int uc, .int uk])), (pb, .inr (1, [.ref pq, .int pL])), (pq, .inl (cB, 400, .inl pf))]) (va_A [(u0, .inr (8, [.ref pb, .ref en, .int uc, .int uk])), (pb, .inr (1, [.ref pq, .int pL])), (pq, .inl (cB, 400, .inl pf))] sz)) 0 0 (va_A [(u0, .inr (8, [.ref pb, .ref en, .int uc, .int uk])), (pb, .inr (1, [.ref pq, .int pL])), (pq, .inl (cB, 400, .inl pf))] sz) := by
  refine Met.ofW (cc := b_SystemUse_bytesInRecord) (maxL := 1) (ret := some .int) (by decide +kernel) rfl ?_
  intro p e s m args below meth c s₁ B hml hv
  obtain ⟨rfl, hsz, hP, hK, hN, hD0⟩ := hv
  have hx := B.exec
  have hb := B.bytes
  have hr := B.returns
  have hts := atoms_spec (ws := w_SystemUse_bytesInRecord) B.pre
  have ht9 := fun (w : Cond) (h : w ∈ lw_g) => hts w (List.mem_cons_of_mem _ h)
  have hown : s.vm.findClass "DiscMaker$SystemUse" = some m.cls := findClass_of_methodNamed B.named
  have hlocks := B.notSynchronized
  subst hsz
  have hD := hD0.self (sz := s.heap.size)
  generalize hAe : va_A [(u0, .inr (8, [.ref pb, .ref en, .int uc, .int uk])), (pb, .inr (1, [.ref pq, .int pL])), (pq, .inl (cB, 400, .inl pf))] s.heap.size = A at hD ⊢
  have hA : ∀ q : Nat, s.heap.size ≤ q → A q := fun q h => by rw [← hAe]; exact Or.inr h
  have hS : va_S A s.heap s.heap [] := va_S.rf
  have hP : va_P D CL [(u0, .inr (8, [.ref pb, .ref en, .int uc, .int uk])), (pb, .inr (1, [.ref pq, .int pL])), (pq, .inl (cB, 400, .inl pf))] s.heap := hP
  have hl := lv_entry [.ref u0] (n := 1) (Nat.le_of_ble_eq_true rfl)
  rw [lg_entry_eq]
  generalize (lg_sl [.ref u0] ++ List.replicate (1 - (lg_sl [.ref u0]).length) Slot.unset).toArray = ls at hl ⊢
  have hl : lv_has ls 1 [(0, .ref u0)] := hl
  have L_m1 : ((-1) : Int32).toInt = (-1) := by decide
  have L_0 : (0 : Int32).toInt = 0 := by decide
  have L_1 : (1 : Int32).toInt = 1 := by decide
  have L_28 : (28 : Int32).toInt = 28 := by decide
  refine lv_aload_n hx hb d_SystemUse_bytesInRecord_0 rfl (lv_at hl 0 rfl) ?_
  refine va_get (D := D) (ci := 8) (v := .int uk) (C := "DiscMaker$SystemUse") (T := F_SystemUse) (N := 4) hx hb ht9 in_SystemUse hown hK hP 0 rfl rfl 3 (by decide) (ht9 _ k334) (fun _ h9 => h9) rfl d_SystemUse_bytesInRecord_1 ?_
  refine lv_aload_n hx hb d_SystemUse_bytesInRecord_4 rfl (lv_at hl 0 rfl) ?_
  refine va_get (D := D) (ci := 8) (v := .ref pb) (C := "DiscMaker$SystemUse") (T := F_SystemUse) (N := 4) hx hb ht9 in_SystemUse hown hK hP 0 rfl rfl 0 (by decide) (ht9 _ k330) (fun _ h9 => h9) rfl d_SystemUse_bytesInRecord_5 ?_
  refine va_getN (D := D) (ci := 1) (v := .int pL) (C := "DiscMaker$Bytes") (T := F_Bytes) (N := 2) hx hb ht9 in_Bytes hown hK hP 1 rfl rfl 1 (by decide) (va_Nw.use rfl (hN _ k259)) (fun _ h9 => h9) rfl d_SystemUse_bytesInRecord_8 ?_
  refine lv_icmp_ge (tgt := 24) hx hb d_SystemUse_bytesInRecord_11 (by decide) (fun h_9 => ?_) (fun h_9 => ?_)
  · skip
    have g11_6 : pL.toInt ≤ uk.toInt := (i_le rfl rfl).mp h_9
    refine lv_aload_n hx hb d_SystemUse_bytesInRecord_24 rfl (lv_at hl 0 rfl) ?_
    refine va_get (D := D) (ci := 8) (v := .int uk) (C := "DiscMaker$SystemUse") (T := F_SystemUse) (N := 4) hx hb ht9 in_SystemUse hown hK hP 0 rfl rfl 3 (by decide) (ht9 _ k334) (fun _ h9 => h9) rfl d_SystemUse_bytesInRecord_25 ?_
    have hP9 := hP.sub (ws' := [(u0, .inr (8, [.ref pb, .ref en, .int uc, .int uk])), (pb, .inr (1, [.ref pq, .int pL])), (pq, .inl (cB, 400, .inl pf))]) [0, 1, 2] rfl
    have hD9 := hD.sub (ws' := [(u0, .inr (8, [.ref pb, .ref en, .int uc, .int uk])), (pb, .inr (1, [.ref pq, .int pL])), (pq, .inl (cB, 400, .inl pf))]) [0, 1, 2] (by decide +kernel) rfl
    exact W.iret (v := uk) hx hb hr (fun t ht hW => ⟨⟨uk, (), rfl, ⟨(by (try dsimp only); first | assumption | omega | trivial), (by (try dsimp only); intro h7; first | (exfalso; omega) | omega | assumption), (by (try dsimp only); first | assumption | omega | trivial)⟩, by rw [ht]; exact hP9, hD9⟩, hS.F ht⟩) hS.2.2 d_SystemUse_bytesInRecord_28
  · skip
    have g11_6 : ¬ pL.toInt ≤ uk.toInt := fun h8 => h_9 ((i_le rfl rfl).mpr h8)
    refine lv_aload_n hx hb d_SystemUse_bytesInRecord_14 rfl (lv_at hl 0 rfl) ?_
    refine va_get (D := D) (ci := 8) (v := .int uk) (C := "DiscMaker$SystemUse") (T := F_SystemUse) (N := 4) hx hb ht9 in_SystemUse hown hK hP 0 rfl rfl 3 (by decide) (ht9 _ k334) (fun _ h9 => h9) rfl d_SystemUse_bytesInRecord_15 ?_
    refine lv_bipush (v := 28) hx hb d_SystemUse_bytesInRecord_18 (by decide) ?_
    refine lv_iadd hx hb d_SystemUse_bytesInRecord_20 ?_
    refine lv_topi (fun v1 e_v1 => ?_)
    have t_v1 : v1.toInt = uk.toInt + 28 := by rw [e_v1]; exact i_add rfl (by decide) (by omega) (by omega)
    refine lv_goto (tgt := 28) hx hb d_SystemUse_bytesInRecord_21 (by decide) ?_
    have hP9 := hP.sub (ws' := [(u0, .inr (8, [.ref pb, .ref en, .int uc, .int uk])), (pb, .inr (1, [.ref pq, .int pL])), (pq, .inl (cB, 400, .inl pf))]) [0, 1, 2] rfl
    have hD9 := hD.sub (ws' := [(u0, .inr (8, [.ref pb, .ref en, .int uc, .int uk])), (pb, .inr (1, [.ref pq, .int pL])), (pq, .inl (cB, 400, .inl pf))]) [0, 1, 2] (by decide +kernel) rfl
    exact W.iret (v := v1) hx hb hr (fun t ht hW => ⟨⟨v1, (), rfl, ⟨(by (try dsimp only); first | assumption | omega | trivial), (by (try dsimp only); intro h7; first | (exfalso; omega) | omega | assumption), (by (try dsimp only); first | assumption | omega | trivial)⟩, by rw [ht]; exact hP9, hD9⟩, hS.F ht⟩) hS.2.2 d_SystemUse_bytesInRecord_28

theorem d_SystemUse_bytesBehind_0 : decode b_SystemUse_bytesBehind 0 = .ok (.aload_n 0, 1) := by decide +kernel
theorem d_SystemUse_bytesBehind_1 : decode b_SystemUse_bytesBehind 1 = .ok (.getfield 16, 3) := by decide +kernel
theorem d_SystemUse_bytesBehind_4 : decode b_SystemUse_bytesBehind 4 = .ok (.getfield 34, 3) := by decide +kernel
theorem d_SystemUse_bytesBehind_7 : decode b_SystemUse_bytesBehind 7 = .ok (.aload_n 0, 1) := by decide +kernel
theorem d_SystemUse_bytesBehind_8 : decode b_SystemUse_bytesBehind 8 = .ok (.getfield 31, 3) := by decide +kernel
theorem d_SystemUse_bytesBehind_11 : decode b_SystemUse_bytesBehind 11 = .ok (.isub, 1) := by decide +kernel
theorem d_SystemUse_bytesBehind_12 : decode b_SystemUse_bytesBehind 12 = .ok (.ireturn, 1) := by decide +kernel
set_option maxHeartbeats 4000000 in
set_option maxRecDepth 100000 in
theorem c3_bytesBehind (l : Launch) (D : va_G) (cB cI cJ cZ cN cF : ClassId) (sz : Nat) (u0 : Nat) (pb : Nat) (pq : Nat) (en : Nat) (uc : Int32) (uk : Int32) (pL : Int32) (pf : Nat → Int32) (hPL : 0 ≤ pL.toInt ∧ pL.toInt ≤ 400) (huk : 0 ≤ uk.toInt ∧ uk.toInt ≤ pL.toInt) : Met l y_SystemUse_bytesBehind w_SystemUse_bytesBehind ({ frames := 0, cells := 0, slots := 0, locals := 0 }) (va_Pc [.ref u0] (fun U => U.heap.size = sz ∧ va_P D CL [(u0, .inr (8, [.ref pb, .ref en, .int uc, .int uk])), (pb, .inr (1, [.ref pq, .int pL])), (pq, .inl (cB, 400, .inl pf))] U.heap ∧ va_K D CL (TY cB cI cJ cZ cN cF) U ∧ NN U ∧ va_D (fun _ => True) [(u0, .inr (8, [.ref pb, .ref en, .int uc, .int uk])), (pb, .inr (1, [.ref pq, .int pL])), (pq, .inl (cB, 400, .inl pf))])) (va_Qi (fun (r : Int32) (u : Unit) => (r.toInt = pL.toInt - uk.toInt)) (fun (u : Unit) (t : State) => match u with | () => va_P D CL [(u0, .inr (8, [.ref pb, .ref en, .int uc, .int uk])), (pb, .inr (1, [.ref pq, .int pL])), (pq, .inl (cB, 400, .inl pf))] t.heap ∧ va_D (va_A [(u0, .inr (8, [.ref pb, .ref en, .int uc, .int uk])), (pb, .inr (1, [.ref pq, .int pL])), (pq, .inl (cB, 400, .inl pf))] sz) [(u0, .inr (8, [.ref pb, .ref en, .int uc, .int uk])), (pb, .inr (1, [.ref pq, .int pL])), (pq, .inl (cB, 400, .inl pf))]) (va_A [(u0, .inr (8, [.ref pb, .ref en, .int uc, .int uk])), (pb, .inr (1, [.ref pq, .int pL])), (pq, .inl (cB, 400, .inl pf))] sz)) 0 0 (va_A [(u0, .inr (8, [.ref pb, .ref en, .int uc, .int uk])), (pb, .inr (1, [.ref pq, .int pL])), (pq, .inl (cB, 400, .inl pf))] sz) := by
  refine Met.ofW (cc := b_SystemUse_bytesBehind) (maxL := 1) (ret := some .int) (by decide +kernel) rfl ?_
  intro p e s m args below meth c s₁ B hml hv
  obtain ⟨rfl, hsz, hP, hK, hN, hD0⟩ := hv
  have hx := B.exec
  have hb := B.bytes
  have hr := B.returns
  have hts := atoms_spec (ws := w_SystemUse_bytesBehind) B.pre
  have ht9 := fun (w : Cond) (h : w ∈ lw_g) => hts w (List.mem_cons_of_mem _ h)
  have hown : s.vm.findClass "DiscMaker$SystemUse" = some m.cls := findClass_of_methodNamed B.named
  have hlocks := B.notSynchronized
  subst hsz
  have hD := hD0.self (sz := s.heap.size)
  generalize hAe : va_A [(u0, .inr (8, [.ref pb, .ref en, .int uc, .int uk])), (pb, .inr (1, [.ref pq, .int pL])), (pq, .inl (cB, 400, .inl pf))] s.heap.size = A at hD ⊢
  have hA : ∀ q : Nat, s.heap.size ≤ q → A q := fun q h => by rw [← hAe]; exact Or.inr h
  have hS : va_S A s.heap s.heap [] := va_S.rf
  have hP : va_P D CL [(u0, .inr (8, [.ref pb, .ref en, .int uc, .int uk])), (pb, .inr (1, [.ref pq, .int pL])), (pq, .inl (cB, 400, .inl pf))] s.heap := hP
  have hl := lv_entry [.ref u0] (n := 1) (Nat.le_of_ble_eq_true rfl)
  rw [lg_entry_eq]
  generalize (lg_sl [.ref u0] ++ List.replicate (1 - (lg_sl [.ref u0]).length) Slot.unset).toArray = ls at hl ⊢
  have hl : lv_has ls 1 [(0, .ref u0)] := hl
  have L_m1 : ((-1) : Int32).toInt = (-1) := by decide
  have L_0 : (0 : Int32).toInt = 0 := by decide
  have L_1 : (1 : Int32).toInt = 1 := by decide
  refine lv_aload_n hx hb d_SystemUse_bytesBehind_0 rfl (lv_at hl 0 rfl) ?_
  refine va_get (D := D) (ci := 8) (v := .ref pb) (C := "DiscMaker$SystemUse") (T := F_SystemUse) (N := 4) hx hb ht9 in_SystemUse hown hK hP 0 rfl rfl 0 (by decide) (ht9 _ k330) (fun _ h9 => h9) rfl d_SystemUse_bytesBehind_1 ?_
  refine va_getN (D := D) (ci := 1) (v := .int pL) (C := "DiscMaker$Bytes") (T := F_Bytes) (N := 2) hx hb ht9 in_Bytes hown hK hP 1 rfl rfl 1 (by decide) (va_Nw.use rfl (hN _ k259)) (fun _ h9 => h9) rfl d_SystemUse_bytesBehind_4 ?_
  refine lv_aload_n hx hb d_SystemUse_bytesBehind_7 rfl (lv_at hl 0 rfl) ?_
  refine va_get (D := D) (ci := 8) (v := .int uk) (C := "DiscMaker$SystemUse") (T := F_SystemUse) (N := 4) hx hb ht9 in_SystemUse hown hK hP 0 rfl rfl 3 (by decide) (ht9 _ k334) (fun _ h9 => h9) rfl d_SystemUse_bytesBehind_8 ?_
  refine lv_isub hx hb d_SystemUse_bytesBehind_11 ?_
  refine lv_topi (fun v1 e_v1 => ?_)
  have t_v1 : v1.toInt = pL.toInt - uk.toInt := by rw [e_v1]; exact i_sub rfl rfl (by omega) (by omega)
  have hP9 := hP.sub (ws' := [(u0, .inr (8, [.ref pb, .ref en, .int uc, .int uk])), (pb, .inr (1, [.ref pq, .int pL])), (pq, .inl (cB, 400, .inl pf))]) [0, 1, 2] rfl
  have hD9 := hD.sub (ws' := [(u0, .inr (8, [.ref pb, .ref en, .int uc, .int uk])), (pb, .inr (1, [.ref pq, .int pL])), (pq, .inl (cB, 400, .inl pf))]) [0, 1, 2] (by decide +kernel) rfl
  exact W.iret (v := v1) hx hb hr (fun t ht hW => ⟨⟨v1, (), rfl, (by (try dsimp only); first | assumption | omega | trivial), by rw [ht]; exact hP9, hD9⟩, hS.F ht⟩) hS.2.2 d_SystemUse_bytesBehind_12

theorem d_SystemUse_fit_0 : decode b_SystemUse_fit 0 = .ok (.aload_n 0, 1) := by decide +kernel
theorem d_SystemUse_fit_1 : decode b_SystemUse_fit 1 = .ok (.aload_n 0, 1) := by decide +kernel
theorem d_SystemUse_fit_2 : decode b_SystemUse_fit 2 = .ok (.getfield 16, 3) := by decide +kernel
theorem d_SystemUse_fit_5 : decode b_SystemUse_fit 5 = .ok (.getfield 34, 3) := by decide +kernel
theorem d_SystemUse_fit_8 : decode b_SystemUse_fit 8 = .ok (.putfield 31, 3) := by decide +kernel
theorem d_SystemUse_fit_11 : decode b_SystemUse_fit 11 = .ok (.aload_n 0, 1) := by decide +kernel
theorem d_SystemUse_fit_12 : decode b_SystemUse_fit 12 = .ok (.getfield 31, 3) := by decide +kernel
theorem d_SystemUse_fit_15 : decode b_SystemUse_fit 15 = .ok (.iload_n 1, 1) := by decide +kernel
theorem d_SystemUse_fit_16 : decode b_SystemUse_fit 16 = .ok (.if_icmp .le 47, 3) := by decide +kernel
theorem d_SystemUse_fit_19 : decode b_SystemUse_fit 19 = .ok (.aload_n 0, 1) := by decide +kernel
theorem d_SystemUse_fit_20 : decode b_SystemUse_fit 20 = .ok (.iconst 0, 1) := by decide +kernel
theorem d_SystemUse_fit_21 : decode b_SystemUse_fit 21 = .ok (.putfield 31, 3) := by decide +kernel
theorem d_SystemUse_fit_24 : decode b_SystemUse_fit 24 = .ok (.iconst 0, 1) := by decide +kernel
theorem d_SystemUse_fit_25 : decode b_SystemUse_fit 25 = .ok (.istore_n 2, 1) := by decide +kernel
theorem d_SystemUse_fit_26 : decode b_SystemUse_fit 26 = .ok (.iload_n 2, 1) := by decide +kernel
theorem d_SystemUse_fit_27 : decode b_SystemUse_fit 27 = .ok (.aload_n 0, 1) := by decide +kernel
theorem d_SystemUse_fit_28 : decode b_SystemUse_fit 28 = .ok (.getfield 27, 3) := by decide +kernel
theorem d_SystemUse_fit_31 : decode b_SystemUse_fit 31 = .ok (.if_icmp .ge 32, 3) := by decide +kernel
theorem d_SystemUse_fit_34 : decode b_SystemUse_fit 34 = .ok (.aload_n 0, 1) := by decide +kernel
theorem d_SystemUse_fit_35 : decode b_SystemUse_fit 35 = .ok (.getfield 20, 3) := by decide +kernel
theorem d_SystemUse_fit_38 : decode b_SystemUse_fit 38 = .ok (.iload_n 2, 1) := by decide +kernel
theorem d_SystemUse_fit_39 : decode b_SystemUse_fit 39 = .ok (.iaload, 1) := by decide +kernel
theorem d_SystemUse_fit_40 : decode b_SystemUse_fit 40 = .ok (.bipush 28, 2) := by decide +kernel
theorem d_SystemUse_fit_42 : decode b_SystemUse_fit 42 = .ok (.iadd, 1) := by decide +kernel
theorem d_SystemUse_fit_43 : decode b_SystemUse_fit 43 = .ok (.iload_n 1, 1) := by decide +kernel
theorem d_SystemUse_fit_44 : decode b_SystemUse_fit 44 = .ok (.if_icmp .gt 19, 3) := by decide +kernel
theorem d_SystemUse_fit_47 : decode b_SystemUse_fit 47 = .ok (.aload_n 0, 1) := by decide +kernel
theorem d_SystemUse_fit_48 : decode b_SystemUse_fit 48 = .ok (.aload_n 0, 1) := by decide +kernel
theorem d_SystemUse_fit_49 : decode b_SystemUse_fit 49 = .ok (.getfield 20, 3) := by decide +kernel
theorem d_SystemUse_fit_52 : decode b_SystemUse_fit 52 = .ok (.iload_n 2, 1) := by decide +kernel
theorem d_SystemUse_fit_53 : decode b_SystemUse_fit 53 = .ok (.iaload, 1) := by decide +kernel
theorem d_SystemUse_fit_54 : decode b_SystemUse_fit 54 = .ok (.putfield 31, 3) := by decide +kernel
theorem d_SystemUse_fit_57 : decode b_SystemUse_fit 57 = .ok (.iinc 2 1, 3) := by decide +kernel
theorem d_SystemUse_fit_60 : decode b_SystemUse_fit 60 = .ok (.goto (-34), 3) := by decide +kernel
theorem d_SystemUse_fit_63 : decode b_SystemUse_fit 63 = .ok (.return_, 1) := by decide +kernel
set_option maxHeartbeats 4000000 in
set_option maxRecDepth 100000 in
theorem c3_fit (l : Launch) (D : va_G) (cB cI cJ cZ cN cF : ClassId) (sz : Nat) (u0 : Nat) (pb : Nat) (pq : Nat) (en : Nat) (uc : Int32) (uk : Int32) (pL : Int32) (pf : Nat → Int32) (ef : Nat → Int32) (x : Int32) (hPL : 0 ≤ pL.toInt ∧ pL.toInt ≤ 400) (huc : 0 ≤ uc.toInt ∧ uc.toInt ≤ 4) (hen : EnOK uc.toInt pL.toInt ef) : Met l y_SystemUse_fit w_SystemUse_fit ({ frames := 0, cells := 0, slots := 0, locals := 0 }) (va_Pc [.ref u0, .int x] (fun U => U.heap.size = sz ∧ va_P D CL [(u0, .inr (8, [.ref pb, .ref en, .int uc, .int uk])), (pb, .inr (1, [.ref pq, .int pL])), (pq, .inl (cB, 400, .inl pf)), (en, .inl (cI, 4, .inl ef))] U.heap ∧ va_K D CL (TY cB cI cJ cZ cN cF) U ∧ NN U ∧ va_D (fun _ => True) [(u0, .inr (8, [.ref pb, .ref en, .int uc, .int uk])), (pb, .inr (1, [.ref pq, .int pL])), (pq, .inl (cB, 400, .inl pf)), (en, .inl (cI, 4, .inl ef))])) (va_Qv (fun (u : Int32) => match u with | uk2 => (0 ≤ uk2.toInt ∧ uk2.toInt ≤ pL.toInt ∧ (uk2.toInt = 0 ∨ uk2.toInt + 28 ≤ x.toInt ∨ (uk2.toInt = pL.toInt ∧ pL.toInt ≤ x.toInt)))) (fun (u : Int32) (t : State) => match u with | uk2 => va_P D CL [(u0, .inr (8, [.ref pb, .ref en, .int uc, .int uk2])), (pb, .inr (1, [.ref pq, .int pL])), (pq, .inl (cB, 400, .inl pf)), (en, .inl (cI, 4, .inl ef))] t.heap ∧ va_D (va_A [(u0, .inr (8, [.ref pb, .ref en, .int uc, .int uk])), (pb, .inr (1, [.ref pq, .int pL])), (pq, .inl (cB, 400, .inl pf)), (en, .inl (cI, 4, .inl ef))] sz) [(u0, .inr (8, [.ref pb, .ref en, .int uc, .int uk2])), (pb, .inr (1, [.ref pq, .int pL])), (pq, .inl (cB, 400, .inl pf)), (en, .inl (cI, 4, .inl ef))]) (va_A [(u0, .inr (8, [.ref pb, .ref en, .int uc, .int uk])), (pb, .inr (1, [.ref pq, .int pL])), (pq, .inl (cB, 400, .inl pf)), (en, .inl (cI, 4, .inl ef))] sz)) 0 0 (va_A [(u0, .inr (8, [.ref pb, .ref en, .int uc, .int uk])), (pb, .inr (1, [.ref pq, .int pL])), (pq, .inl (cB, 400, .inl pf)), (en, .inl (cI, 4, .inl ef))] sz) := by
  refine Met.ofW (cc := b_SystemUse_fit) (maxL := 3) (ret := none) (by decide +kernel) rfl ?_
  intro p e s m args below meth c s₁ B hml hv
  obtain ⟨rfl, hsz, hP, hK, hN, hD0⟩ := hv
  have hx := B.exec
  have hb := B.bytes
  have hr := B.returns
  have hts := atoms_spec (ws := w_SystemUse_fit) B.pre
  have ht9 := fun (w : Cond) (h : w ∈ lw_g) => hts w (List.mem_cons_of_mem _ h)
  have hown : s.vm.findClass "DiscMaker$SystemUse" = some m.cls := findClass_of_methodNamed B.named
  have hlocks := B.notSynchronized
  subst hsz
  have hD := hD0.self (sz := s.heap.size)
  generalize hAe : va_A [(u0, .inr (8, [.ref pb, .ref en, .int uc, .int uk])), (pb, .inr (1, [.ref pq, .int pL])), (pq, .inl (cB, 400, .inl pf)), (en, .inl (cI, 4, .inl ef))] s.heap.size = A at hD ⊢
  have hA : ∀ q : Nat, s.heap.size ≤ q → A q := fun q h => by rw [← hAe]; exact Or.inr h
  have hS : va_S A s.heap s.heap [] := va_S.rf
  have hP : va_P D CL [(u0, .inr (8, [.ref pb, .ref en, .int uc, .int uk])), (pb, .inr (1, [.ref pq, .int pL])), (pq, .inl (cB, 400, .inl pf)), (en, .inl (cI, 4, .inl ef))] s.heap := hP
  have hl := lv_entry [.ref u0, .int x] (n := 3) (Nat.le_of_ble_eq_true rfl)
  rw [lg_entry_eq]
  generalize (lg_sl [.ref u0, .int x] ++ List.replicate (3 - (lg_sl [.ref u0, .int x]).length) Slot.unset).toArray = ls at hl ⊢
  have hl : lv_has ls 3 [(0, .ref u0), (1, .int x)] := hl
  have L_m1 : ((-1) : Int32).toInt = (-1) := by decide
  have L_0 : (0 : Int32).toInt = 0 := by decide
  have L_1 : (1 : Int32).toInt = 1 := by decide
  have L_28 : (28 : Int32).toInt = 28 := by decide
  refine lv_aload_n hx hb d_SystemUse_fit_0 rfl (lv_at hl 0 rfl) ?_
  refine lv_aload_n hx hb d_SystemUse_fit_1 rfl (lv_at hl 0 rfl) ?_
  refine va_get (D := D) (ci := 8) (v := .ref pb) (C := "DiscMaker$SystemUse") (T := F_SystemUse) (N := 4) hx hb ht9 in_SystemUse hown hK hP 0 rfl rfl 0 (by decide) (ht9 _ k330) (fun _ h9 => h9) rfl d_SystemUse_fit_2 ?_
  refine va_getN (D := D) (ci := 1) (v := .int pL) (C := "DiscMaker$Bytes") (T := F_Bytes) (N := 2) hx hb ht9 in_Bytes hown hK hP 1 rfl rfl 1 (by decide) (va_Nw.use rfl (hN _ k259)) (fun _ h9 => h9) rfl d_SystemUse_fit_5 ?_
  refine va_put (D := D) (ci := 8) (v := .int pL) (ty := .int) (C := "DiscMaker$SystemUse") (T := F_SystemUse) (N := 4) hx hb ht9 in_SystemUse t_SystemUse t_SystemUse_ok n_SystemUse hown hK hP hD hS 0 rfl rfl 3 (by decide) (ht9 _ k334) (fun _ h9 => h9) rfl (by decide +kernel) rfl rfl (Nat.le_of_ble_eq_true rfl) d_SystemUse_fit_8 (fun H locs hP hD hS => ?_)
  have hP : va_P D CL [(u0, .inr (8, [.ref pb, .ref en, .int uc, .int pL])), (pb, .inr (1, [.ref pq, .int pL])), (pq, .inl (cB, 400, .inl pf)), (en, .inl (cI, 4, .inl ef))] H := hP
  have hD : va_D A [(u0, .inr (8, [.ref pb, .ref en, .int uc, .int pL])), (pb, .inr (1, [.ref pq, .int pL])), (pq, .inl (cB, 400, .inl pf)), (en, .inl (cI, 4, .inl ef))] := hD
  refine lv_aload_n hx hb d_SystemUse_fit_11 rfl (lv_at hl 0 rfl) ?_
  refine va_get (D := D) (ci := 8) (v := .int pL) (C := "DiscMaker$SystemUse") (T := F_SystemUse) (N := 4) hx hb ht9 in_SystemUse hown hK hP 0 rfl rfl 3 (by decide) (ht9 _ k334) (fun _ h9 => h9) rfl d_SystemUse_fit_12 ?_
  refine lv_iload_n hx hb d_SystemUse_fit_15 rfl (lv_at hl 1 rfl) ?_
  refine lv_icmp_le (tgt := 63) hx hb d_SystemUse_fit_16 (by decide) (fun h_9 => ?_) (fun h_9 => ?_)
  · skip
    have g16_9 : pL.toInt ≤ x.toInt := (i_le rfl rfl).mp h_9
    have hP9 := hP.sub (ws' := [(u0, .inr (8, [.ref pb, .ref en, .int uc, .int pL])), (pb, .inr (1, [.ref pq, .int pL])), (pq, .inl (cB, 400, .inl pf)), (en, .inl (cI, 4, .inl ef))]) [0, 1, 2, 3] rfl
    have hD9 := hD.sub (ws' := [(u0, .inr (8, [.ref pb, .ref en, .int uc, .int pL])), (pb, .inr (1, [.ref pq, .int pL])), (pq, .inl (cB, 400, .inl pf)), (en, .inl (cI, 4, .inl ef))]) [0, 1, 2, 3] (by decide +kernel) rfl
    exact W.vret hx hb hr (fun t ht hW => ⟨⟨pL, rfl, (by (try dsimp only); first | assumption | omega | trivial), by rw [ht]; exact hP9, hD9⟩, hS.F ht⟩) hS.2.2 d_SystemUse_fit_63
  · skip
    have g16_9 : ¬ pL.toInt ≤ x.toInt := fun h8 => h_9 ((i_le rfl rfl).mpr h8)
    refine lv_aload_n hx hb d_SystemUse_fit_19 rfl (lv_at hl 0 rfl) ?_
    refine lv_iconst (v := 0) hx hb d_SystemUse_fit_20 (by decide) ?_
    refine va_put (D := D) (ci := 8) (v := .int 0) (ty := .int) (C := "DiscMaker$SystemUse") (T := F_SystemUse) (N := 4) hx hb ht9 in_SystemUse t_SystemUse t_SystemUse_ok n_SystemUse hown hK hP hD hS 0 rfl rfl 3 (by decide) (ht9 _ k334) (fun _ h9 => h9) rfl (by decide +kernel) rfl rfl (Nat.le_of_ble_eq_true rfl) d_SystemUse_fit_21 (fun H locs hP hD hS => ?_)
    have hP : va_P D CL [(u0, .inr (8, [.ref pb, .ref en, .int uc, .int 0])), (pb, .inr (1, [.ref pq, .int pL])), (pq, .inl (cB, 400, .inl pf)), (en, .inl (cI, 4, .inl ef))] H := hP
    have hD : va_D A [(u0, .inr (8, [.ref pb, .ref en, .int uc, .int 0])), (pb, .inr (1, [.ref pq, .int pL])), (pq, .inl (cB, 400, .inl pf)), (en, .inl (cI, 4, .inl ef))] := hD
    refine lv_iconst (v := 0) hx hb d_SystemUse_fit_24 (by decide) ?_
    refine lv_istore_n hx hb d_SystemUse_fit_25 rfl hl (by decide) rfl (fun ls hl => ?_)
    have hl : lv_has ls 3 [(2, .int 0), (0, .ref u0), (1, .int x)] := hl
    refine zz_labM (B := fun (lk : Nat) (K : Heap → List Loc → Array Slot → List Value → Prop) => ∀ (kx : Int32) (lk9 : Int32) (H : Heap) (locs : List Loc) (ls : Array Slot), lk = (uc.toInt - kx.toInt).toNat → (0 ≤ kx.toInt ∧ kx.toInt ≤ uc.toInt) → (0 ≤ lk9.toInt ∧ lk9.toInt ≤ pL.toInt ∧ (lk9.toInt = 0 ∨ lk9.toInt + 28 ≤ x.toInt)) → va_P D CL [(u0, .inr (8, [.ref pb, .ref en, .int uc, .int lk9])), (pb, .inr (1, [.ref pq, .int pL])), (pq, .inl (cB, 400, .inl pf)), (en, .inl (cI, 4, .inl ef))] H → va_D A [(u0, .inr (8, [.ref pb, .ref en, .int uc, .int lk9])), (pb, .inr (1, [.ref pq, .int pL])), (pq, .inl (cB, 400, .inl pf)), (en, .inl (cI, 4, .inl ef))] → va_S A s.heap H locs → lv_has ls 3 [(0, .ref u0), (1, .int x), (2, .int kx)] → K H locs ls []) 26 ?_ ?_
    · skip
      intro lk ih26 kx lk9 H locs ls hm26 e1 e2 hP hD hS hl
      refine lv_iload_n hx hb d_SystemUse_fit_26 rfl (lv_at hl 2 rfl) ?_
      refine lv_aload_n hx hb d_SystemUse_fit_27 rfl (lv_at hl 0 rfl) ?_
      refine va_get (D := D) (ci := 8) (v := .int uc) (C := "DiscMaker$SystemUse") (T := F_SystemUse) (N := 4) hx hb ht9 in_SystemUse hown hK hP 0 rfl rfl 2 (by decide) (ht9 _ k333) (fun _ h9 => h9) rfl d_SystemUse_fit_28 ?_
      refine lv_icmp_ge (tgt := 63) hx hb d_SystemUse_fit_31 (by decide) (fun h_9 => ?_) (fun h_9 => ?_)
      · skip
        have g31_19 : uc.toInt ≤ kx.toInt := (i_le rfl rfl).mp h_9
        have hP9 := hP.sub (ws' := [(u0, .inr (8, [.ref pb, .ref en, .int uc, .int lk9])), (pb, .inr (1, [.ref pq, .int pL])), (pq, .inl (cB, 400, .inl pf)), (en, .inl (cI, 4, .inl ef))]) [0, 1, 2, 3] rfl
        have hD9 := hD.sub (ws' := [(u0, .inr (8, [.ref pb, .ref en, .int uc, .int lk9])), (pb, .inr (1, [.ref pq, .int pL])), (pq, .inl (cB, 400, .inl pf)), (en, .inl (cI, 4, .inl ef))]) [0, 1, 2, 3] (by decide +kernel) rfl
        exact W.vret hx hb hr (fun t ht hW => ⟨⟨lk9, rfl, (by (try dsimp only); first | assumption | omega | trivial), by rw [ht]; exact hP9, hD9⟩, hS.F ht⟩) hS.2.2 d_SystemUse_fit_63
      · skip
        have g31_19 : ¬ uc.toInt ≤ kx.toInt := fun h8 => h_9 ((i_le rfl rfl).mpr h8)
        refine lv_aload_n hx hb d_SystemUse_fit_34 rfl (lv_at hl 0 rfl) ?_
        refine va_get (D := D) (ci := 8) (v := .ref en) (C := "DiscMaker$SystemUse") (T := F_SystemUse) (N := 4) hx hb ht9 in_SystemUse hown hK hP 0 rfl rfl 1 (by decide) (ht9 _ k332) (fun _ h9 => h9) rfl d_SystemUse_fit_35 ?_
        refine lv_iload_n hx hb d_SystemUse_fit_38 rfl (lv_at hl 2 rfl) ?_
        refine va_iald hx hb hK hP 3 1 rfl rfl (vp_in_iff.mpr ⟨by omega, by omega⟩) d_SystemUse_fit_39 ?_
        refine lv_topi (fun v1 e_v1 => ?_)
        have qv1 := EnOK_at hen e_v1 (by have := i_cl (a := kx) (by omega); omega)
        refine lv_bipush (v := 28) hx hb d_SystemUse_fit_40 (by decide) ?_
        refine lv_iadd hx hb d_SystemUse_fit_42 ?_
        refine lv_topi (fun v2 e_v2 => ?_)
        have t_v2 : v2.toInt = v1.toInt + 28 := by rw [e_v2]; exact i_add rfl (by decide) (by omega) (by omega)
        refine lv_iload_n hx hb d_SystemUse_fit_43 rfl (lv_at hl 1 rfl) ?_
        refine lv_icmp_gt (tgt := 63) hx hb d_SystemUse_fit_44 (by decide) (fun h_9 => ?_) (fun h_9 => ?_)
        · skip
          have g44_28 : x.toInt < v2.toInt := (i_lt rfl rfl).mp h_9
          have hP9 := hP.sub (ws' := [(u0, .inr (8, [.ref pb, .ref en, .int uc, .int lk9])), (pb, .inr (1, [.ref pq, .int pL])), (pq, .inl (cB, 400, .inl pf)), (en, .inl (cI, 4, .inl ef))]) [0, 1, 2, 3] rfl
          have hD9 := hD.sub (ws' := [(u0, .inr (8, [.ref pb, .ref en, .int uc, .int lk9])), (pb, .inr (1, [.ref pq, .int pL])), (pq, .inl (cB, 400, .inl pf)), (en, .inl (cI, 4, .inl ef))]) [0, 1, 2, 3] (by decide +kernel) rfl
          exact W.vret hx hb hr (fun t ht hW => ⟨⟨lk9, rfl, (by (try dsimp only); first | assumption | omega | trivial), by rw [ht]; exact hP9, hD9⟩, hS.F ht⟩) hS.2.2 d_SystemUse_fit_63
        · skip
          have g44_28 : ¬ x.toInt < v2.toInt := fun h8 => h_9 ((i_lt rfl rfl).mpr h8)
          refine lv_aload_n hx hb d_SystemUse_fit_47 rfl (lv_at hl 0 rfl) ?_
          refine lv_aload_n hx hb d_SystemUse_fit_48 rfl (lv_at hl 0 rfl) ?_
          refine va_get (D := D) (ci := 8) (v := .ref en) (C := "DiscMaker$SystemUse") (T := F_SystemUse) (N := 4) hx hb ht9 in_SystemUse hown hK hP 0 rfl rfl 1 (by decide) (ht9 _ k332) (fun _ h9 => h9) rfl d_SystemUse_fit_49 ?_
          refine lv_iload_n hx hb d_SystemUse_fit_52 rfl (lv_at hl 2 rfl) ?_
          refine va_iald hx hb hK hP 3 1 rfl rfl (vp_in_iff.mpr ⟨by omega, by omega⟩) d_SystemUse_fit_53 ?_
          refine lv_topi (fun v3 e_v3 => ?_)
          have q_v3 : v3.toInt = v1.toInt := by rw [e_v3, e_v1]
          have qv3 := EnOK_at hen e_v3 (by have := i_cl (a := kx) (by omega); omega)
          refine va_put (D := D) (ci := 8) (v := .int v3) (ty := .int) (C := "DiscMaker$SystemUse") (T := F_SystemUse) (N := 4) hx hb ht9 in_SystemUse t_SystemUse t_SystemUse_ok n_SystemUse hown hK hP hD hS 0 rfl rfl 3 (by decide) (ht9 _ k334) (fun _ h9 => h9) rfl (by decide +kernel) rfl rfl (Nat.le_of_ble_eq_true rfl) d_SystemUse_fit_54 (fun H locs hP hD hS => ?_)
          have hP : va_P D CL [(u0, .inr (8, [.ref pb, .ref en, .int uc, .int v3])), (pb, .inr (1, [.ref pq, .int pL])), (pq, .inl (cB, 400, .inl pf)), (en, .inl (cI, 4, .inl ef))] H := hP
          have hD : va_D A [(u0, .inr (8, [.ref pb, .ref en, .int uc, .int v3])), (pb, .inr (1, [.ref pq, .int pL])), (pq, .inl (cB, 400, .inl pf)), (en, .inl (cI, 4, .inl ef))] := hD
          obtain ⟨v4, e_v4⟩ : ∃ z : Int32, z = kx + 1 := ⟨_, rfl⟩
          refine lv_iinc (v := v4) hx hb d_SystemUse_fit_57 hl (k := 2) rfl e_v4.symm (by decide +kernel) rfl (fun ls hl => ?_)
          have t_v4 : v4.toInt = kx.toInt + 1 := by rw [e_v4]; exact i_add rfl (by decide) (by omega) (by omega)
          have hl : lv_has ls 3 [(2, .int v4), (0, .ref u0), (1, .int x)] := hl
          refine lv_goto (tgt := 26) hx hb d_SystemUse_fit_60 (by decide) ?_
          have hP := hP.sub (ws' := [(u0, .inr (8, [.ref pb, .ref en, .int uc, .int v3])), (pb, .inr (1, [.ref pq, .int pL])), (pq, .inl (cB, 400, .inl pf)), (en, .inl (cI, 4, .inl ef))]) [0, 1, 2, 3] rfl
          have hD := hD.sub (ws' := [(u0, .inr (8, [.ref pb, .ref en, .int uc, .int v3])), (pb, .inr (1, [.ref pq, .int pL])), (pq, .inl (cB, 400, .inl pf)), (en, .inl (cI, 4, .inl ef))]) [0, 1, 2, 3] (by decide +kernel) rfl
          have hl := lv_sub hl [1, 2, 0] rfl
          exact ih26 _ (by first | omega | (dsimp only; omega)) v4 v3 _ _ _ rfl ((by (try dsimp only); first | assumption | omega | trivial)) ((by (try dsimp only); first | assumption | omega | trivial)) hP hD hS hl
    · skip
      intro kk26
      have hP := hP.sub (ws' := [(u0, .inr (8, [.ref pb, .ref en, .int uc, .int 0])), (pb, .inr (1, [.ref pq, .int pL])), (pq, .inl (cB, 400, .inl pf)), (en, .inl (cI, 4, .inl ef))]) [0, 1, 2, 3] rfl
      have hD := hD.sub (ws' := [(u0, .inr (8, [.ref pb, .ref en, .int uc, .int 0])), (pb, .inr (1, [.ref pq, .int pL])), (pq, .inl (cB, 400, .inl pf)), (en, .inl (cI, 4, .inl ef))]) [0, 1, 2, 3] (by decide +kernel) rfl
      have hl := lv_sub hl [1, 2, 0] rfl
      exact kk26 _ 0 0 _ _ _ rfl ((by (try dsimp only); first | assumption | omega | trivial)) ((by (try dsimp only); first | assumption | omega | trivial)) hP hD hS hl

theorem d_SystemUse_open_0 : decode b_SystemUse_open 0 = .ok (.aload_n 0, 1) := by decide +kernel
theorem d_SystemUse_open_1 : decode b_SystemUse_open 1 = .ok (.getfield 16, 3) := by decide +kernel
theorem d_SystemUse_open_4 : decode b_SystemUse_open 4 = .ok (.iload_n 2, 1) := by decide +kernel
theorem d_SystemUse_open_5 : decode b_SystemUse_open 5 = .ok (.invokevirtual 82, 3) := by decide +kernel
theorem d_SystemUse_open_8 : decode b_SystemUse_open 8 = .ok (.istore_n 3, 1) := by decide +kernel
theorem d_SystemUse_open_9 : decode b_SystemUse_open 9 = .ok (.aload_n 0, 1) := by decide +kernel
theorem d_SystemUse_open_10 : decode b_SystemUse_open 10 = .ok (.getfield 16, 3) := by decide +kernel
theorem d_SystemUse_open_13 : decode b_SystemUse_open 13 = .ok (.iload_n 3, 1) := by decide +kernel
theorem d_SystemUse_open_14 : decode b_SystemUse_open 14 = .ok (.iload_n 1, 1) := by decide +kernel
theorem d_SystemUse_open_15 : decode b_SystemUse_open 15 = .ok (.bipush 8, 2) := by decide +kernel
theorem d_SystemUse_open_17 : decode b_SystemUse_open 17 = .ok (.ishr, 1) := by decide +kernel
theorem d_SystemUse_open_18 : decode b_SystemUse_open 18 = .ok (.invokevirtual 41, 3) := by decide +kernel
theorem d_SystemUse_open_21 : decode b_SystemUse_open 21 = .ok (.aload_n 0, 1) := by decide +kernel
theorem d_SystemUse_open_22 : decode b_SystemUse_open 22 = .ok (.getfield 16, 3) := by decide +kernel
theorem d_SystemUse_open_25 : decode b_SystemUse_open 25 = .ok (.iload_n 3, 1) := by decide +kernel
theorem d_SystemUse_open_26 : decode b_SystemUse_open 26 = .ok (.iconst 1, 1) := by decide +kernel
theorem d_SystemUse_open_27 : decode b_SystemUse_open 27 = .ok (.iadd, 1) := by decide +kernel
theorem d_SystemUse_open_28 : decode b_SystemUse_open 28 = .ok (.iload_n 1, 1) := by decide +kernel
theorem d_SystemUse_open_29 : decode b_SystemUse_open 29 = .ok (.invokevirtual 41, 3) := by decide +kernel
theorem d_SystemUse_open_32 : decode b_SystemUse_open 32 = .ok (.aload_n 0, 1) := by decide +kernel
theorem d_SystemUse_open_33 : decode b_SystemUse_open 33 = .ok (.getfield 16, 3) := by decide +kernel
theorem d_SystemUse_open_36 : decode b_SystemUse_open 36 = .ok (.iload_n 3, 1) := by decide +kernel
theorem d_SystemUse_open_37 : decode b_SystemUse_open 37 = .ok (.iconst 3, 1) := by decide +kernel
theorem d_SystemUse_open_38 : decode b_SystemUse_open 38 = .ok (.iadd, 1) := by decide +kernel
theorem d_SystemUse_open_39 : decode b_SystemUse_open 39 = .ok (.iconst 1, 1) := by decide +kernel
theorem d_SystemUse_open_40 : decode b_SystemUse_open 40 = .ok (.invokevirtual 41, 3) := by decide +kernel
theorem d_SystemUse_open_43 : decode b_SystemUse_open 43 = .ok (.iload_n 3, 1) := by decide +kernel
theorem d_SystemUse_open_44 : decode b_SystemUse_open 44 = .ok (.ireturn, 1) := by decide +kernel
set_option maxHeartbeats 4000000 in
set_option maxRecDepth 100000 in
theorem c3_use_open (l : Launch) (D : va_G) (cB cI cJ cZ cN cF : ClassId) (sz : Nat) (u0 : Nat) (pb : Nat) (pq : Nat) (en : Nat) (uc : Int32) (uk : Int32) (pL : Int32) (pf : Nat → Int32) (x : Int32) (y : Int32) (hPL : 0 ≤ pL.toInt ∧ pL.toInt ≤ 400) (hy : 0 ≤ y.toInt ∧ y.toInt ≤ 1000) : Met l y_SystemUse_open w_SystemUse_open ({ frames := 1, cells := 0, slots := 0, locals := 29 }) (va_Pc [.ref u0, .int x, .int y] (fun U => U.heap.size = sz ∧ va_P D CL [(u0, .inr (8, [.ref pb, .ref en, .int uc, .int uk])), (pb, .inr (1, [.ref pq, .int pL])), (pq, .inl (cB, 400, .inl pf))] U.heap ∧ va_K D CL (TY cB cI cJ cZ cN cF) U ∧ NN U ∧ va_D (fun _ => True) [(u0, .inr (8, [.ref pb, .ref en, .int uc, .int uk])), (pb, .inr (1, [.ref pq, .int pL])), (pq, .inl (cB, 400, .inl pf))])) (va_Qi (fun (r : Int32) (u : Int32 × (Nat → Int32)) => match u with | (L2, g) => (pL.toInt ≤ L2.toInt ∧ L2.toInt ≤ 400) ∧ (0 ≤ r.toInt ∧ r.toInt ≤ 400) ∧ (SatI (pL.toInt + y.toInt) L2.toInt)) (fun (u : Int32 × (Nat → Int32)) (t : State) => match u with | (L2, g) => va_P D CL [(u0, .inr (8, [.ref pb, .ref en, .int uc, .int uk])), (pb, .inr (1, [.ref pq, .int L2])), (pq, .inl (cB, 400, .inl g))] t.heap ∧ va_D (va_A [(u0, .inr (8, [.ref pb, .ref en, .int uc, .int uk])), (pb, .inr (1, [.ref pq, .int pL])), (pq, .inl (cB, 400, .inl pf))] sz) [(u0, .inr (8, [.ref pb, .ref en, .int uc, .int uk])), (pb, .inr (1, [.ref pq, .int L2])), (pq, .inl (cB, 400, .inl g))]) (va_A [(u0, .inr (8, [.ref pb, .ref en, .int uc, .int uk])), (pb, .inr (1, [.ref pq, .int pL])), (pq, .inl (cB, 400, .inl pf))] sz)) 0 0 (va_A [(u0, .inr (8, [.ref pb, .ref en, .int uc, .int uk])), (pb, .inr (1, [.ref pq, .int pL])), (pq, .inl (cB, 400, .inl pf))] sz) := by
  refine Met.ofW (cc := b_SystemUse_open) (maxL := 4) (ret := some .int) (by decide +kernel) rfl ?_
  intro p e s m args below meth c s₁ B hml hv
  obtain ⟨rfl, hsz, hP, hK, hN, hD0⟩ := hv
  have hx := B.exec
  have hb := B.bytes
  have hr := B.returns
  have hts := atoms_spec (ws := w_SystemUse_open) B.pre
  have ht9 := fun (w : Cond) (h : w ∈ lw_g) => hts w (List.mem_cons_of_mem _ h)
  have hown : s.vm.findClass "DiscMaker$SystemUse" = some m.cls := findClass_of_methodNamed B.named
  have hlocks := B.notSynchronized
  subst hsz
  have hD := hD0.self (sz := s.heap.size)
  generalize hAe : va_A [(u0, .inr (8, [.ref pb, .ref en, .int uc, .int uk])), (pb, .inr (1, [.ref pq, .int pL])), (pq, .inl (cB, 400, .inl pf))] s.heap.size = A at hD ⊢
  have hA : ∀ q : Nat, s.heap.size ≤ q → A q := fun q h => by rw [← hAe]; exact Or.inr h
  have hS : va_S A s.heap s.heap [] := va_S.rf
  have hP : va_P D CL [(u0, .inr (8, [.ref pb, .ref en, .int uc, .int uk])), (pb, .inr (1, [.ref pq, .int pL])), (pq, .inl (cB, 400, .inl pf))] s.heap := hP
  have hl := lv_entry [.ref u0, .int x, .int y] (n := 4) (Nat.le_of_ble_eq_true rfl)
  rw [lg_entry_eq]
  generalize (lg_sl [.ref u0, .int x, .int y] ++ List.replicate (4 - (lg_sl [.ref u0, .int x, .int y]).length) Slot.unset).toArray = ls at hl ⊢
  have hl : lv_has ls 4 [(0, .ref u0), (1, .int x), (2, .int y)] := hl
  have L_m1 : ((-1) : Int32).toInt = (-1) := by decide
  have L_0 : (0 : Int32).toInt = 0 := by decide
  have L_1 : (1 : Int32).toInt = 1 := by decide
  have L_3 : (3 : Int32).toInt = 3 := by decide
  have L_8 : (8 : Int32).toInt = 8 := by decide
  refine lv_aload_n hx hb d_SystemUse_open_0 rfl (lv_at hl 0 rfl) ?_
  refine va_get (D := D) (ci := 8) (v := .ref pb) (C := "DiscMaker$SystemUse") (T := F_SystemUse) (N := 4) hx hb ht9 in_SystemUse hown hK hP 0 rfl rfl 0 (by decide) (ht9 _ k330) (fun _ h9 => h9) rfl d_SystemUse_open_1 ?_
  refine lv_iload_n hx hb d_SystemUse_open_4 rfl (lv_at hl 2 rfl) ?_
  have hPc := hP.sub (ws' := [(pb, .inr (1, [.ref pq, .int pL])), (pq, .inl (cB, 400, .inl pf))]) [1, 2] rfl
  have hDc := hD.sub (ws' := [(pb, .inr (1, [.ref pq, .int pL])), (pq, .inl (cB, 400, .inl pf))]) [1, 2] (by decide +kernel) rfl
  have hFc := va_free (wc := [(pb, .inr (1, [.ref pq, .int pL])), (pq, .inl (cB, 400, .inl pf))]) hD hS hA [1, 2] rfl
  have hkc : 0 ≤ 0 := by decide
  have hks : 0 ≤ 0 := by decide
  refine va_calli (va_runV (C := "DiscMaker$Bytes") (As := [.int y]) (rest := []) ⟨hx, hb, hml, hown, hts⟩ (c3_extend l D cB cI cJ cZ cN cF s.heap.size pb pq 400 pL pf y (by (try dsimp only); first | assumption | omega | trivial) (by (try dsimp only); first | assumption | omega | trivial) (by (try dsimp only); first | assumption | omega | trivial)) (cwV 1 hts (lg_goodV k907 k908 k909 k119 kc_Bytes_extend) rfl rfl rfl (by decide +kernel) ⟨Nat.le_of_ble_eq_true rfl, Nat.le_of_ble_eq_true rfl⟩) ⟨fun a U g mk q => by obtain ⟨q0, q1, qP, qK, qN, qD⟩ := q; exact ⟨q0, q1, qP, va_K.moved (u := U) (U := U.calling g mk a) (Vm.Alike.refl U.vm) qK, qN.calling, qD⟩, va_recv hK hP (ci := 1) (q0 := 1) rfl rfl, fun U hU hW => ⟨rfl, by rw [hU], by rw [hU]; exact hPc, va_K.moved hW.alike hK, NN.warm hW hN, hDc.weaken (fun _ _ _ _ => trivial)⟩⟩ rfl rfl hl.1 rfl (lv_room (Nat.le_of_ble_eq_true rfl)) d_SystemUse_open_5 ⟨hkc, hks⟩) hS (fun q _ h => hFc q h) hFc (fun r1 u t H1 locs ht hvm hp_r1 hB hz1 hk1 hS => ?_)
  obtain ⟨L2_2, g_3⟩ := u
  obtain ⟨hP1, hD1⟩ := hB
  rw [ht] at hP1
  obtain ⟨hP, hD⟩ := va_join (wr := [(u0, .inr (8, [.ref pb, .ref en, .int uc, .int uk]))]) (w1 := [(pb, .inr (1, [.ref pq, .int L2_2])), (pq, .inl (cB, 400, .inl g_3))]) hP hD [1, 2] [0] rfl rfl (by decide +kernel) (by decide +kernel) hk1 hFc hP1 hD1
  clear hPc hDc hFc hP1 hD1 hk1 hz1 hkc hks
  generalize H1 = H at hP hS ⊢
  have hP : va_P D CL [(u0, .inr (8, [.ref pb, .ref en, .int uc, .int uk])), (pb, .inr (1, [.ref pq, .int L2_2])), (pq, .inl (cB, 400, .inl g_3))] H := hP
  have hD : va_D A [(u0, .inr (8, [.ref pb, .ref en, .int uc, .int uk])), (pb, .inr (1, [.ref pq, .int L2_2])), (pq, .inl (cB, 400, .inl g_3))] := hD
  try dsimp only at hp_r1
  obtain ⟨hv_4, hE_5⟩ := hp_r1
  have q_r1 : r1.toInt = pL.toInt := (congrArg Int32.toInt hv_4)
  refine lv_istore_n hx hb d_SystemUse_open_8 rfl hl (by decide) rfl (fun ls hl => ?_)
  have hl : lv_has ls 4 [(3, .int r1), (0, .ref u0), (1, .int x), (2, .int y)] := hl
  refine lv_aload_n hx hb d_SystemUse_open_9 rfl (lv_at hl 1 rfl) ?_
  refine va_get (D := D) (ci := 8) (v := .ref pb) (C := "DiscMaker$SystemUse") (T := F_SystemUse) (N := 4) hx hb ht9 in_SystemUse hown hK hP 0 rfl rfl 0 (by decide) (ht9 _ k330) (fun _ h9 => h9) rfl d_SystemUse_open_10 ?_
  refine lv_iload_n hx hb d_SystemUse_open_13 rfl (lv_at hl 0 rfl) ?_
  refine lv_iload_n hx hb d_SystemUse_open_14 rfl (lv_at hl 2 rfl) ?_
  refine lv_bipush (v := 8) hx hb d_SystemUse_open_15 (by decide) ?_
  refine lv_ishr hx hb d_SystemUse_open_17 ?_
  refine lv_topi (fun v6 e_v6 => ?_)
  have t_v6 : v6.toInt = x.toInt / 256 := by rw [e_v6]; exact i_shr (k := 8) rfl (by decide) (by decide)
  have hPc := hP.sub (ws' := [(pb, .inr (1, [.ref pq, .int L2_2])), (pq, .inl (cB, 400, .inl g_3))]) [1, 2] rfl
  have hDc := hD.sub (ws' := [(pb, .inr (1, [.ref pq, .int L2_2])), (pq, .inl (cB, 400, .inl g_3))]) [1, 2] (by decide +kernel) rfl
  have hFc := va_free (wc := [(pb, .inr (1, [.ref pq, .int L2_2])), (pq, .inl (cB, 400, .inl g_3))]) hD hS hA [1, 2] rfl
  have hkc : 0 ≤ 0 := by decide
  have hks : 0 ≤ 0 := by decide
  refine va_callv (va_runV (C := "DiscMaker$Bytes") (As := [.int r1, .int v6]) (rest := []) ⟨hx, hb, hml, hown, hts⟩ (c3_put l D cB cI cJ cZ cN cF H.size pb pq 400 L2_2 g_3 r1 v6 (by (try dsimp only); first | assumption | omega | trivial) (by (try dsimp only); first | assumption | omega | trivial)) (cwV 2 hts (lg_goodV k911 k912 k913 k119 kc_Bytes_put) rfl rfl rfl (by decide +kernel) ⟨Nat.le_of_ble_eq_true rfl, Nat.le_of_ble_eq_true rfl⟩) ⟨fun a U g mk q => by obtain ⟨q0, q1, qP, qK, qN, qD⟩ := q; exact ⟨q0, q1, qP, va_K.moved (u := U) (U := U.calling g mk a) (Vm.Alike.refl U.vm) qK, qN.calling, qD⟩, va_recv hK hP (ci := 1) (q0 := 1) rfl rfl, fun U hU hW => ⟨rfl, by rw [hU], by rw [hU]; exact hPc, va_K.moved hW.alike hK, NN.warm hW hN, hDc.weaken (fun _ _ _ _ => trivial)⟩⟩ rfl rfl hl.1 rfl (lv_room (Nat.le_of_ble_eq_true rfl)) d_SystemUse_open_18 ⟨hkc, hks⟩) hS (fun q _ h => hFc q h) hFc (fun u t H1 locs ht hvm hp_r7 hB hz1 hk1 hS => ?_)
  obtain ⟨g_8, rfl⟩ : ∃ z, z = u := ⟨_, rfl⟩
  obtain ⟨hP1, hD1⟩ := hB
  rw [ht] at hP1
  obtain ⟨hP, hD⟩ := va_join (wr := [(u0, .inr (8, [.ref pb, .ref en, .int uc, .int uk]))]) (w1 := [(pb, .inr (1, [.ref pq, .int L2_2])), (pq, .inl (cB, 400, .inl g_8))]) hP hD [1, 2] [0] rfl rfl (by decide +kernel) (by decide +kernel) hk1 hFc hP1 hD1
  clear hPc hDc hFc hP1 hD1 hk1 hz1 hkc hks
  generalize H1 = H at hP hS ⊢
  have hP : va_P D CL [(u0, .inr (8, [.ref pb, .ref en, .int uc, .int uk])), (pb, .inr (1, [.ref pq, .int L2_2])), (pq, .inl (cB, 400, .inl g_8))] H := hP
  have hD : va_D A [(u0, .inr (8, [.ref pb, .ref en, .int uc, .int uk])), (pb, .inr (1, [.ref pq, .int L2_2])), (pq, .inl (cB, 400, .inl g_8))] := hD
  refine lv_aload_n hx hb d_SystemUse_open_21 rfl (lv_at hl 1 rfl) ?_
  refine va_get (D := D) (ci := 8) (v := .ref pb) (C := "DiscMaker$SystemUse") (T := F_SystemUse) (N := 4) hx hb ht9 in_SystemUse hown hK hP 0 rfl rfl 0 (by decide) (ht9 _ k330) (fun _ h9 => h9) rfl d_SystemUse_open_22 ?_
  refine lv_iload_n hx hb d_SystemUse_open_25 rfl (lv_at hl 0 rfl) ?_
  refine lv_iconst (v := 1) hx hb d_SystemUse_open_26 (by decide) ?_
  refine lv_iadd hx hb d_SystemUse_open_27 ?_
  refine lv_topi (fun v9 e_v9 => ?_)
  have t_v9 : v9.toInt = r1.toInt + 1 := by rw [e_v9]; exact i_add rfl (by decide) (by omega) (by omega)
  refine lv_iload_n hx hb d_SystemUse_open_28 rfl (lv_at hl 2 rfl) ?_
  have hPc := hP.sub (ws' := [(pb, .inr (1, [.ref pq, .int L2_2])), (pq, .inl (cB, 400, .inl g_8))]) [1, 2] rfl
  have hDc := hD.sub (ws' := [(pb, .inr (1, [.ref pq, .int L2_2])), (pq, .inl (cB, 400, .inl g_8))]) [1, 2] (by decide +kernel) rfl
  have hFc := va_free (wc := [(pb, .inr (1, [.ref pq, .int L2_2])), (pq, .inl (cB, 400, .inl g_8))]) hD hS hA [1, 2] rfl
  have hkc : 0 ≤ 0 := by decide
  have hks : 0 ≤ 0 := by decide
  refine va_callv (va_runV (C := "DiscMaker$Bytes") (As := [.int v9, .int x]) (rest := []) ⟨hx, hb, hml, hown, hts⟩ (c3_put l D cB cI cJ cZ cN cF H.size pb pq 400 L2_2 g_8 v9 x (by (try dsimp only); first | assumption | omega | trivial) (by (try dsimp only); first | assumption | omega | trivial)) (cwV 2 hts (lg_goodV k911 k912 k913 k119 kc_Bytes_put) rfl rfl rfl (by decide +kernel) ⟨Nat.le_of_ble_eq_true rfl, Nat.le_of_ble_eq_true rfl⟩) ⟨fun a U g mk q => by obtain ⟨q0, q1, qP, qK, qN, qD⟩ := q; exact ⟨q0, q1, qP, va_K.moved (u := U) (U := U.calling g mk a) (Vm.Alike.refl U.vm) qK, qN.calling, qD⟩, va_recv hK hP (ci := 1) (q0 := 1) rfl rfl, fun U hU hW => ⟨rfl, by rw [hU], by rw [hU]; exact hPc, va_K.moved hW.alike hK, NN.warm hW hN, hDc.weaken (fun _ _ _ _ => trivial)⟩⟩ rfl rfl hl.1 rfl (lv_room (Nat.le_of_ble_eq_true rfl)) d_SystemUse_open_29 ⟨hkc, hks⟩) hS (fun q _ h => hFc q h) hFc (fun u t H1 locs ht hvm hp_r10 hB hz1 hk1 hS => ?_)
  obtain ⟨g_11, rfl⟩ : ∃ z, z = u := ⟨_, rfl⟩
  obtain ⟨hP1, hD1⟩ := hB
  rw [ht] at hP1
  obtain ⟨hP, hD⟩ := va_join (wr := [(u0, .inr (8, [.ref pb, .ref en, .int uc, .int uk]))]) (w1 := [(pb, .inr (1, [.ref pq, .int L2_2])), (pq, .inl (cB, 400, .inl g_11))]) hP hD [1, 2] [0] rfl rfl (by decide +kernel) (by decide +kernel) hk1 hFc hP1 hD1
  clear hPc hDc hFc hP1 hD1 hk1 hz1 hkc hks
  generalize H1 = H at hP hS ⊢
  have hP : va_P D CL [(u0, .inr (8, [.ref pb, .ref en, .int uc, .int uk])), (pb, .inr (1, [.ref pq, .int L2_2])), (pq, .inl (cB, 400, .inl g_11))] H := hP
  have hD : va_D A [(u0, .inr (8, [.ref pb, .ref en, .int uc, .int uk])), (pb, .inr (1, [.ref pq, .int L2_2])), (pq, .inl (cB, 400, .inl g_11))] := hD
  refine lv_aload_n hx hb d_SystemUse_open_32 rfl (lv_at hl 1 rfl) ?_
  refine va_get (D := D) (ci := 8) (v := .ref pb) (C := "DiscMaker$SystemUse") (T := F_SystemUse) (N := 4) hx hb ht9 in_SystemUse hown hK hP 0 rfl rfl 0 (by decide) (ht9 _ k330) (fun _ h9 => h9) rfl d_SystemUse_open_33 ?_
  refine lv_iload_n hx hb d_SystemUse_open_36 rfl (lv_at hl 0 rfl) ?_
  refine lv_iconst (v := 3) hx hb d_SystemUse_open_37 (by decide) ?_
  refine lv_iadd hx hb d_SystemUse_open_38 ?_
  refine lv_topi (fun v12 e_v12 => ?_)
  have t_v12 : v12.toInt = r1.toInt + 3 := by rw [e_v12]; exact i_add rfl (by decide) (by omega) (by omega)
  refine lv_iconst (v := 1) hx hb d_SystemUse_open_39 (by decide) ?_
  have hPc := hP.sub (ws' := [(pb, .inr (1, [.ref pq, .int L2_2])), (pq, .inl (cB, 400, .inl g_11))]) [1, 2] rfl
  have hDc := hD.sub (ws' := [(pb, .inr (1, [.ref pq, .int L2_2])), (pq, .inl (cB, 400, .inl g_11))]) [1, 2] (by decide +kernel) rfl
  have hFc := va_free (wc := [(pb, .inr (1, [.ref pq, .int L2_2])), (pq, .inl (cB, 400, .inl g_11))]) hD hS hA [1, 2] rfl
  have hkc : 0 ≤ 0 := by decide
  have hks : 0 ≤ 0 := by decide
  refine va_callv (va_runV (C := "DiscMaker$Bytes") (As := [.int v12, .int 1]) (rest := []) ⟨hx, hb, hml, hown, hts⟩ (c3_put l D cB cI cJ cZ cN cF H.size pb pq 400 L2_2 g_11 v12 1 (by (try dsimp only); first | assumption | omega | trivial) (by (try dsimp only); first | assumption | omega | trivial)) (cwV 2 hts (lg_goodV k911 k912 k913 k119 kc_Bytes_put) rfl rfl rfl (by decide +kernel) ⟨Nat.le_of_ble_eq_true rfl, Nat.le_of_ble_eq_true rfl⟩) ⟨fun a U g mk q => by obtain ⟨q0, q1, qP, qK, qN, qD⟩ := q; exact ⟨q0, q1, qP, va_K.moved (u := U) (U := U.calling g mk a) (Vm.Alike.refl U.vm) qK, qN.calling, qD⟩, va_recv hK hP (ci := 1) (q0 := 1) rfl rfl, fun U hU hW => ⟨rfl, by rw [hU], by rw [hU]; exact hPc, va_K.moved hW.alike hK, NN.warm hW hN, hDc.weaken (fun _ _ _ _ => trivial)⟩⟩ rfl rfl hl.1 rfl (lv_room (Nat.le_of_ble_eq_true rfl)) d_SystemUse_open_40 ⟨hkc, hks⟩) hS (fun q _ h => hFc q h) hFc (fun u t H1 locs ht hvm hp_r13 hB hz1 hk1 hS => ?_)
  obtain ⟨g_14, rfl⟩ : ∃ z, z = u := ⟨_, rfl⟩
  obtain ⟨hP1, hD1⟩ := hB
  rw [ht] at hP1
  obtain ⟨hP, hD⟩ := va_join (wr := [(u0, .inr (8, [.ref pb, .ref en, .int uc, .int uk]))]) (w1 := [(pb, .inr (1, [.ref pq, .int L2_2])), (pq, .inl (cB, 400, .inl g_14))]) hP hD [1, 2] [0] rfl rfl (by decide +kernel) (by decide +kernel) hk1 hFc hP1 hD1
  clear hPc hDc hFc hP1 hD1 hk1 hz1 hkc hks
  generalize H1 = H at hP hS ⊢
  have hP : va_P D CL [(u0, .inr (8, [.ref pb, .ref en, .int uc, .int uk])), (pb, .inr (1, [.ref pq, .int L2_2])), (pq, .inl (cB, 400, .inl g_14))] H := hP
  have hD : va_D A [(u0, .inr (8, [.ref pb, .ref en, .int uc, .int uk])), (pb, .inr (1, [.ref pq, .int L2_2])), (pq, .inl (cB, 400, .inl g_14))] := hD
  refine lv_iload_n hx hb d_SystemUse_open_43 rfl (lv_at hl 0 rfl) ?_
  have hP9 := hP.sub (ws' := [(u0, .inr (8, [.ref pb, .ref en, .int uc, .int uk])), (pb, .inr (1, [.ref pq, .int L2_2])), (pq, .inl (cB, 400, .inl g_14))]) [0, 1, 2] rfl
  have hD9 := hD.sub (ws' := [(u0, .inr (8, [.ref pb, .ref en, .int uc, .int uk])), (pb, .inr (1, [.ref pq, .int L2_2])), (pq, .inl (cB, 400, .inl g_14))]) [0, 1, 2] (by decide +kernel) rfl
  exact W.iret (v := r1) hx hb hr (fun t ht hW => ⟨⟨r1, (L2_2, g_14), rfl, ⟨(by (try dsimp only); first | assumption | omega | trivial), (by (try dsimp only); first | assumption | omega | trivial), (by (try dsimp only); unfold SatI; omega)⟩, by rw [ht]; exact hP9, hD9⟩, hS.F ht⟩) hS.2.2 d_SystemUse_open_44

theorem d_SystemUse_close_0 : decode b_SystemUse_close 0 = .ok (.aload_n 0, 1) := by decide +kernel
theorem d_SystemUse_close_1 : decode b_SystemUse_close 1 = .ok (.getfield 16, 3) := by decide +kernel
theorem d_SystemUse_close_4 : decode b_SystemUse_close 4 = .ok (.iload_n 1, 1) := by decide +kernel
theorem d_SystemUse_close_5 : decode b_SystemUse_close 5 = .ok (.iconst 2, 1) := by decide +kernel
theorem d_SystemUse_close_6 : decode b_SystemUse_close 6 = .ok (.iadd, 1) := by decide +kernel
theorem d_SystemUse_close_7 : decode b_SystemUse_close 7 = .ok (.aload_n 0, 1) := by decide +kernel
theorem d_SystemUse_close_8 : decode b_SystemUse_close 8 = .ok (.getfield 16, 3) := by decide +kernel
theorem d_SystemUse_close_11 : decode b_SystemUse_close 11 = .ok (.getfield 34, 3) := by decide +kernel
theorem d_SystemUse_close_14 : decode b_SystemUse_close 14 = .ok (.iload_n 1, 1) := by decide +kernel
theorem d_SystemUse_close_15 : decode b_SystemUse_close 15 = .ok (.isub, 1) := by decide +kernel
theorem d_SystemUse_close_16 : decode b_SystemUse_close 16 = .ok (.invokevirtual 41, 3) := by decide +kernel
theorem d_SystemUse_close_19 : decode b_SystemUse_close 19 = .ok (.aload_n 0, 1) := by decide +kernel
theorem d_SystemUse_close_20 : decode b_SystemUse_close 20 = .ok (.getfield 27, 3) := by decide +kernel
theorem d_SystemUse_close_23 : decode b_SystemUse_close 23 = .ok (.aload_n 0, 1) := by decide +kernel
theorem d_SystemUse_close_24 : decode b_SystemUse_close 24 = .ok (.getfield 20, 3) := by decide +kernel
theorem d_SystemUse_close_27 : decode b_SystemUse_close 27 = .ok (.arraylength, 1) := by decide +kernel
theorem d_SystemUse_close_28 : decode b_SystemUse_close 28 = .ok (.if_icmp .ge 29, 3) := by decide +kernel
theorem d_SystemUse_close_31 : decode b_SystemUse_close 31 = .ok (.aload_n 0, 1) := by decide +kernel
theorem d_SystemUse_close_32 : decode b_SystemUse_close 32 = .ok (.getfield 20, 3) := by decide +kernel
theorem d_SystemUse_close_35 : decode b_SystemUse_close 35 = .ok (.aload_n 0, 1) := by decide +kernel
theorem d_SystemUse_close_36 : decode b_SystemUse_close 36 = .ok (.getfield 27, 3) := by decide +kernel
theorem d_SystemUse_close_39 : decode b_SystemUse_close 39 = .ok (.aload_n 0, 1) := by decide +kernel
theorem d_SystemUse_close_40 : decode b_SystemUse_close 40 = .ok (.getfield 16, 3) := by decide +kernel
theorem d_SystemUse_close_43 : decode b_SystemUse_close 43 = .ok (.getfield 34, 3) := by decide +kernel
theorem d_SystemUse_close_46 : decode b_SystemUse_close 46 = .ok (.iastore, 1) := by decide +kernel
theorem d_SystemUse_close_47 : decode b_SystemUse_close 47 = .ok (.aload_n 0, 1) := by decide +kernel
theorem d_SystemUse_close_48 : decode b_SystemUse_close 48 = .ok (.dup, 1) := by decide +kernel
theorem d_SystemUse_close_49 : decode b_SystemUse_close 49 = .ok (.getfield 27, 3) := by decide +kernel
theorem d_SystemUse_close_52 : decode b_SystemUse_close 52 = .ok (.iconst 1, 1) := by decide +kernel
theorem d_SystemUse_close_53 : decode b_SystemUse_close 53 = .ok (.iadd, 1) := by decide +kernel
theorem d_SystemUse_close_54 : decode b_SystemUse_close 54 = .ok (.putfield 27, 3) := by decide +kernel
theorem d_SystemUse_close_57 : decode b_SystemUse_close 57 = .ok (.return_, 1) := by decide +kernel
set_option maxHeartbeats 4000000 in
set_option maxRecDepth 100000 in
theorem c3_close (l : Launch) (D : va_G) (cB cI cJ cZ cN cF : ClassId) (sz : Nat) (u0 : Nat) (pb : Nat) (pq : Nat) (en : Nat) (uc : Int32) (uk : Int32) (pL : Int32) (pf : Nat → Int32) (ef : Nat → Int32) (x : Int32) (hPL : 0 ≤ pL.toInt ∧ pL.toInt ≤ 400) (huc : 0 ≤ uc.toInt ∧ uc.toInt ≤ 4) (hen : EnOK uc.toInt pL.toInt ef) (hx : 0 ≤ x.toInt ∧ x.toInt ≤ 400) : Met l y_SystemUse_close w_SystemUse_close ({ frames := 1, cells := 0, slots := 0, locals := 28 }) (va_Pc [.ref u0, .int x] (fun U => U.heap.size = sz ∧ va_P D CL [(u0, .inr (8, [.ref pb, .ref en, .int uc, .int uk])), (pb, .inr (1, [.ref pq, .int pL])), (pq, .inl (cB, 400, .inl pf)), (en, .inl (cI, 4, .inl ef))] U.heap ∧ va_K D CL (TY cB cI cJ cZ cN cF) U ∧ NN U ∧ va_D (fun _ => True) [(u0, .inr (8, [.ref pb, .ref en, .int uc, .int uk])), (pb, .inr (1, [.ref pq, .int pL])), (pq, .inl (cB, 400, .inl pf)), (en, .inl (cI, 4, .inl ef))])) (va_Qv (fun (u : Int32 × (Nat → Int32) × (Nat → Int32)) => match u with | (uc2, g, ef2) => (0 ≤ uc2.toInt ∧ uc2.toInt ≤ 4) ∧ (EnOK uc2.toInt pL.toInt ef2)) (fun (u : Int32 × (Nat → Int32) × (Nat → Int32)) (t : State) => match u with | (uc2, g, ef2) => va_P D CL [(u0, .inr (8, [.ref pb, .ref en, .int uc2, .int uk])), (pb, .inr (1, [.ref pq, .int pL])), (pq, .inl (cB, 400, .inl g)), (en, .inl (cI, 4, .inl ef2))] t.heap ∧ va_D (va_A [(u0, .inr (8, [.ref pb, .ref en, .int uc, .int uk])), (pb, .inr (1, [.ref pq, .int pL])), (pq, .inl (cB, 400, .inl pf)), (en, .inl (cI, 4, .inl ef))] sz) [(u0, .inr (8, [.ref pb, .ref en, .int uc2, .int uk])), (pb, .inr (1, [.ref pq, .int pL])), (pq, .inl (cB, 400, .inl g)), (en, .inl (cI, 4, .inl ef2))]) (va_A [(u0, .inr (8, [.ref pb, .ref en, .int uc, .int uk])), (pb, .inr (1, [.ref pq, .int pL])), (pq, .inl (cB, 400, .inl pf)), (en, .inl (cI, 4, .inl ef))] sz)) 0 0 (va_A [(u0, .inr (8, [.ref pb, .ref en, .int uc, .int uk])), (pb, .inr (1, [.ref pq, .int pL])), (pq, .inl (cB, 400, .inl pf)), (en, .inl (cI, 4, .inl ef))] sz) := by
  refine Met.ofW (cc := b_SystemUse_close) (maxL := 2) (ret := none) (by decide +kernel) rfl ?_
  intro p e s m args below meth c s₁ B hml hv
  obtain ⟨rfl, hsz, hP, hK, hN, hD0⟩ := hv
  have hx := B.exec
  have hb := B.bytes
  have hr := B.returns
  have hts := atoms_spec (ws := w_SystemUse_close) B.pre
  have ht9 := fun (w : Cond) (h : w ∈ lw_g) => hts w (List.mem_cons_of_mem _ h)
  have hown : s.vm.findClass "DiscMaker$SystemUse" = some m.cls := findClass_of_methodNamed B.named
  have hlocks := B.notSynchronized
  subst hsz
  have hD := hD0.self (sz := s.heap.size)
  generalize hAe : va_A [(u0, .inr (8, [.ref pb, .ref en, .int uc, .int uk])), (pb, .inr (1, [.ref pq, .int pL])), (pq, .inl (cB, 400, .inl pf)), (en, .inl (cI, 4, .inl ef))] s.heap.size = A at hD ⊢
  have hA : ∀ q : Nat, s.heap.size ≤ q → A q := fun q h => by rw [← hAe]; exact Or.inr h
  have hS : va_S A s.heap s.heap [] := va_S.rf
  have hP : va_P D CL [(u0, .inr (8, [.ref pb, .ref en, .int uc, .int uk])), (pb, .inr (1, [.ref pq, .int pL])), (pq, .inl (cB, 400, .inl pf)), (en, .inl (cI, 4, .inl ef))] s.heap := hP
  have hl := lv_entry [.ref u0, .int x] (n := 2) (Nat.le_of_ble_eq_true rfl)
  rw [lg_entry_eq]
  generalize (lg_sl [.ref u0, .int x] ++ List.replicate (2 - (lg_sl [.ref u0, .int x]).length) Slot.unset).toArray = ls at hl ⊢
  have hl : lv_has ls 2 [(0, .ref u0), (1, .int x)] := hl
  have L_m1 : ((-1) : Int32).toInt = (-1) := by decide
  have L_0 : (0 : Int32).toInt = 0 := by decide
  have L_1 : (1 : Int32).toInt = 1 := by decide
  have L_2 : (2 : Int32).toInt = 2 := by decide
  refine lv_aload_n hx hb d_SystemUse_close_0 rfl (lv_at hl 0 rfl) ?_
  refine va_get (D := D) (ci := 8) (v := .ref pb) (C := "DiscMaker$SystemUse") (T := F_SystemUse) (N := 4) hx hb ht9 in_SystemUse hown hK hP 0 rfl rfl 0 (by decide) (ht9 _ k330) (fun _ h9 => h9) rfl d_SystemUse_close_1 ?_
  refine lv_iload_n hx hb d_SystemUse_close_4 rfl (lv_at hl 1 rfl) ?_
  refine lv_iconst (v := 2) hx hb d_SystemUse_close_5 (by decide) ?_
  refine lv_iadd hx hb d_SystemUse_close_6 ?_
  refine lv_topi (fun v1 e_v1 => ?_)
  have t_v1 : v1.toInt = x.toInt + 2 := by rw [e_v1]; exact i_add rfl (by decide) (by omega) (by omega)
  refine lv_aload_n hx hb d_SystemUse_close_7 rfl (lv_at hl 0 rfl) ?_
  refine va_get (D := D) (ci := 8) (v := .ref pb) (C := "DiscMaker$SystemUse") (T := F_SystemUse) (N := 4) hx hb ht9 in_SystemUse hown hK hP 0 rfl rfl 0 (by decide) (ht9 _ k330) (fun _ h9 => h9) rfl d_SystemUse_close_8 ?_
  refine va_getN (D := D) (ci := 1) (v := .int pL) (C := "DiscMaker$Bytes") (T := F_Bytes) (N := 2) hx hb ht9 in_Bytes hown hK hP 1 rfl rfl 1 (by decide) (va_Nw.use rfl (hN _ k259)) (fun _ h9 => h9) rfl d_SystemUse_close_11 ?_
  refine lv_iload_n hx hb d_SystemUse_close_14 rfl (lv_at hl 1 rfl) ?_
  refine lv_isub hx hb d_SystemUse_close_15 ?_
  refine lv_topi (fun v2 e_v2 => ?_)
  have t_v2 : v2.toInt = pL.toInt - x.toInt := by rw [e_v2]; exact i_sub rfl rfl (by omega) (by omega)
  have hPc := hP.sub (ws' := [(pb, .inr (1, [.ref pq, .int pL])), (pq, .inl (cB, 400, .inl pf))]) [1, 2] rfl
  have hDc := hD.sub (ws' := [(pb, .inr (1, [.ref pq, .int pL])), (pq, .inl (cB, 400, .inl pf))]) [1, 2] (by decide +kernel) rfl
  have hFc := va_free (wc := [(pb, .inr (1, [.ref pq, .int pL])), (pq, .inl (cB, 400, .inl pf))]) hD hS hA [1, 2] rfl
  have hkc : 0 ≤ 0 := by decide
  have hks : 0 ≤ 0 := by decide
  refine va_callv (va_runV (C := "DiscMaker$Bytes") (As := [.int v1, .int v2]) (rest := []) ⟨hx, hb, hml, hown, hts⟩ (c3_put l D cB cI cJ cZ cN cF s.heap.size pb pq 400 pL pf v1 v2 (by (try dsimp only); first | assumption | omega | trivial) (by (try dsimp only); first | assumption | omega | trivial)) (cwV 2 hts (lg_goodV k911 k912 k913 k119 kc_Bytes_put) rfl rfl rfl (by decide +kernel) ⟨Nat.le_of_ble_eq_true rfl, Nat.le_of_ble_eq_true rfl⟩) ⟨fun a U g mk q => by obtain ⟨q0, q1, qP, qK, qN, qD⟩ := q; exact ⟨q0, q1, qP, va_K.moved (u := U) (U := U.calling g mk a) (Vm.Alike.refl U.vm) qK, qN.calling, qD⟩, va_recv hK hP (ci := 1) (q0 := 1) rfl rfl, fun U hU hW => ⟨rfl, by rw [hU], by rw [hU]; exact hPc, va_K.moved hW.alike hK, NN.warm hW hN, hDc.weaken (fun _ _ _ _ => trivial)⟩⟩ rfl rfl hl.1 rfl (lv_room (Nat.le_of_ble_eq_true rfl)) d_SystemUse_close_16 ⟨hkc, hks⟩) hS (fun q _ h => hFc q h) hFc (fun u t H1 locs ht hvm hp_r3 hB hz1 hk1 hS => ?_)
  obtain ⟨g_4, rfl⟩ : ∃ z, z = u := ⟨_, rfl⟩
  obtain ⟨hP1, hD1⟩ := hB
  rw [ht] at hP1
  obtain ⟨hP, hD⟩ := va_join (wr := [(u0, .inr (8, [.ref pb, .ref en, .int uc, .int uk])), (en, .inl (cI, 4, .inl ef))]) (w1 := [(pb, .inr (1, [.ref pq, .int pL])), (pq, .inl (cB, 400, .inl g_4))]) hP hD [1, 2] [0, 3] rfl rfl (by decide +kernel) (by decide +kernel) hk1 hFc hP1 hD1
  clear hPc hDc hFc hP1 hD1 hk1 hz1 hkc hks
  generalize H1 = H at hP hS ⊢
  have hP : va_P D CL [(u0, .inr (8, [.ref pb, .ref en, .int uc, .int uk])), (en, .inl (cI, 4, .inl ef)), (pb, .inr (1, [.ref pq, .int pL])), (pq, .inl (cB, 400, .inl g_4))] H := hP
  have hD : va_D A [(u0, .inr (8, [.ref pb, .ref en, .int uc, .int uk])), (en, .inl (cI, 4, .inl ef)), (pb, .inr (1, [.ref pq, .int pL])), (pq, .inl (cB, 400, .inl g_4))] := hD
  refine lv_aload_n hx hb d_SystemUse_close_19 rfl (lv_at hl 0 rfl) ?_
  refine va_get (D := D) (ci := 8) (v := .int uc) (C := "DiscMaker$SystemUse") (T := F_SystemUse) (N := 4) hx hb ht9 in_SystemUse hown hK hP 0 rfl rfl 2 (by decide) (ht9 _ k333) (fun _ h9 => h9) rfl d_SystemUse_close_20 ?_
  refine lv_aload_n hx hb d_SystemUse_close_23 rfl (lv_at hl 0 rfl) ?_
  refine va_get (D := D) (ci := 8) (v := .ref en) (C := "DiscMaker$SystemUse") (T := F_SystemUse) (N := 4) hx hb ht9 in_SystemUse hown hK hP 0 rfl rfl 1 (by decide) (ht9 _ k332) (fun _ h9 => h9) rfl d_SystemUse_close_24 ?_
  refine va_alen (v := 4) hx hb hK hP 1 1 rfl rfl rfl d_SystemUse_close_27 ?_
  have L_4 : (4 : Int32).toInt = 4 := by decide
  refine lv_icmp_ge (tgt := 57) hx hb d_SystemUse_close_28 (by decide) (fun h_9 => ?_) (fun h_9 => ?_)
  · skip
    have g28_17 : 4 ≤ uc.toInt := (i_le (by decide) rfl).mp h_9
    have hP9 := hP.sub (ws' := [(u0, .inr (8, [.ref pb, .ref en, .int uc, .int uk])), (pb, .inr (1, [.ref pq, .int pL])), (pq, .inl (cB, 400, .inl g_4)), (en, .inl (cI, 4, .inl ef))]) [0, 2, 3, 1] rfl
    have hD9 := hD.sub (ws' := [(u0, .inr (8, [.ref pb, .ref en, .int uc, .int uk])), (pb, .inr (1, [.ref pq, .int pL])), (pq, .inl (cB, 400, .inl g_4)), (en, .inl (cI, 4, .inl ef))]) [0, 2, 3, 1] (by decide +kernel) rfl
    exact W.vret hx hb hr (fun t ht hW => ⟨⟨(uc, g_4, ef), rfl, ⟨(by (try dsimp only); first | assumption | omega | trivial), hen⟩, by rw [ht]; exact hP9, hD9⟩, hS.F ht⟩) hS.2.2 d_SystemUse_close_57
  · skip
    have g28_17 : ¬ 4 ≤ uc.toInt := fun h8 => h_9 ((i_le (by decide) rfl).mpr h8)
    refine lv_aload_n hx hb d_SystemUse_close_31 rfl (lv_at hl 0 rfl) ?_
    refine va_get (D := D) (ci := 8) (v := .ref en) (C := "DiscMaker$SystemUse") (T := F_SystemUse) (N := 4) hx hb ht9 in_SystemUse hown hK hP 0 rfl rfl 1 (by decide) (ht9 _ k332) (fun _ h9 => h9) rfl d_SystemUse_close_32 ?_
    refine lv_aload_n hx hb d_SystemUse_close_35 rfl (lv_at hl 0 rfl) ?_
    refine va_get (D := D) (ci := 8) (v := .int uc) (C := "DiscMaker$SystemUse") (T := F_SystemUse) (N := 4) hx hb ht9 in_SystemUse hown hK hP 0 rfl rfl 2 (by decide) (ht9 _ k333) (fun _ h9 => h9) rfl d_SystemUse_close_36 ?_
    refine lv_aload_n hx hb d_SystemUse_close_39 rfl (lv_at hl 0 rfl) ?_
    refine va_get (D := D) (ci := 8) (v := .ref pb) (C := "DiscMaker$SystemUse") (T := F_SystemUse) (N := 4) hx hb ht9 in_SystemUse hown hK hP 0 rfl rfl 0 (by decide) (ht9 _ k330) (fun _ h9 => h9) rfl d_SystemUse_close_40 ?_
    refine va_getN (D := D) (ci := 1) (v := .int pL) (C := "DiscMaker$Bytes") (T := F_Bytes) (N := 2) hx hb ht9 in_Bytes hown hK hP 2 rfl rfl 1 (by decide) (va_Nw.use rfl (hN _ k259)) (fun _ h9 => h9) rfl d_SystemUse_close_43 ?_
    refine zq_iast hx hb hK hP hD hS 1 1 rfl rfl (vp_in_iff.mpr ⟨by omega, by omega⟩) d_SystemUse_close_46 (fun fz5 e_fz5 H locs hP hD hS => ?_)
    have hP : va_P D CL [(u0, .inr (8, [.ref pb, .ref en, .int uc, .int uk])), (en, .inl (cI, 4, .inl fz5)), (pb, .inr (1, [.ref pq, .int pL])), (pq, .inl (cB, 400, .inl g_4))] H := hP
    have hD : va_D A [(u0, .inr (8, [.ref pb, .ref en, .int uc, .int uk])), (en, .inl (cI, 4, .inl fz5)), (pb, .inr (1, [.ref pq, .int pL])), (pq, .inl (cB, 400, .inl g_4))] := hD
    have s_fz5 : fz5 uc.toNatClampNeg = pL := by rw [e_fz5]; unfold upd; rw [if_pos (by first | rfl | decide)]
    refine lv_aload_n hx hb d_SystemUse_close_47 rfl (lv_at hl 0 rfl) ?_
    refine lv_dup hx hb d_SystemUse_close_48 rfl ?_
    refine va_get (D := D) (ci := 8) (v := .int uc) (C := "DiscMaker$SystemUse") (T := F_SystemUse) (N := 4) hx hb ht9 in_SystemUse hown hK hP 0 rfl rfl 2 (by decide) (ht9 _ k333) (fun _ h9 => h9) rfl d_SystemUse_close_49 ?_
    refine lv_iconst (v := 1) hx hb d_SystemUse_close_52 (by decide) ?_
    refine lv_iadd hx hb d_SystemUse_close_53 ?_
    refine lv_topi (fun v6 e_v6 => ?_)
    have t_v6 : v6.toInt = uc.toInt + 1 := by rw [e_v6]; exact i_add rfl (by decide) (by omega) (by omega)
    refine va_put (D := D) (ci := 8) (v := .int v6) (ty := .int) (C := "DiscMaker$SystemUse") (T := F_SystemUse) (N := 4) hx hb ht9 in_SystemUse t_SystemUse t_SystemUse_ok n_SystemUse hown hK hP hD hS 0 rfl rfl 2 (by decide) (ht9 _ k333) (fun _ h9 => h9) rfl (by decide +kernel) rfl rfl (Nat.le_of_ble_eq_true rfl) d_SystemUse_close_54 (fun H locs hP hD hS => ?_)
    have hP : va_P D CL [(u0, .inr (8, [.ref pb, .ref en, .int v6, .int uk])), (en, .inl (cI, 4, .inl fz5)), (pb, .inr (1, [.ref pq, .int pL])), (pq, .inl (cB, 400, .inl g_4))] H := hP
    have hD : va_D A [(u0, .inr (8, [.ref pb, .ref en, .int v6, .int uk])), (en, .inl (cI, 4, .inl fz5)), (pb, .inr (1, [.ref pq, .int pL])), (pq, .inl (cB, 400, .inl g_4))] := hD
    have hP9 := hP.sub (ws' := [(u0, .inr (8, [.ref pb, .ref en, .int v6, .int uk])), (pb, .inr (1, [.ref pq, .int pL])), (pq, .inl (cB, 400, .inl g_4)), (en, .inl (cI, 4, .inl fz5))]) [0, 2, 3, 1] rfl
    have hD9 := hD.sub (ws' := [(u0, .inr (8, [.ref pb, .ref en, .int v6, .int uk])), (pb, .inr (1, [.ref pq, .int pL])), (pq, .inl (cB, 400, .inl g_4)), (en, .inl (cI, 4, .inl fz5))]) [0, 2, 3, 1] (by decide +kernel) rfl
    exact W.vret hx hb hr (fun t ht hW => ⟨⟨(v6, g_4, fz5), rfl, ⟨(by (try dsimp only); first | assumption | omega | trivial), (EnOK_push hen e_fz5 (i_cl (a := uc) (by omega)) (by omega) (by omega))⟩, by rw [ht]; exact hP9, hD9⟩, hS.F ht⟩) hS.2.2 d_SystemUse_close_57

theorem d_SystemUse_addRootsMark_0 : decode b_SystemUse_addRootsMark 0 = .ok (.aload_n 0, 1) := by decide +kernel
theorem d_SystemUse_addRootsMark_1 : decode b_SystemUse_addRootsMark 1 = .ok (.sipush 21328, 3) := by decide +kernel
theorem d_SystemUse_addRootsMark_4 : decode b_SystemUse_addRootsMark 4 = .ok (.bipush 7, 2) := by decide +kernel
theorem d_SystemUse_addRootsMark_6 : decode b_SystemUse_addRootsMark 6 = .ok (.invokevirtual 37, 3) := by decide +kernel
theorem d_SystemUse_addRootsMark_9 : decode b_SystemUse_addRootsMark 9 = .ok (.istore_n 1, 1) := by decide +kernel
theorem d_SystemUse_addRootsMark_10 : decode b_SystemUse_addRootsMark 10 = .ok (.aload_n 0, 1) := by decide +kernel
theorem d_SystemUse_addRootsMark_11 : decode b_SystemUse_addRootsMark 11 = .ok (.getfield 16, 3) := by decide +kernel
theorem d_SystemUse_addRootsMark_14 : decode b_SystemUse_addRootsMark 14 = .ok (.iload_n 1, 1) := by decide +kernel
theorem d_SystemUse_addRootsMark_15 : decode b_SystemUse_addRootsMark 15 = .ok (.iconst 4, 1) := by decide +kernel
theorem d_SystemUse_addRootsMark_16 : decode b_SystemUse_addRootsMark 16 = .ok (.iadd, 1) := by decide +kernel
theorem d_SystemUse_addRootsMark_17 : decode b_SystemUse_addRootsMark 17 = .ok (.sipush 190, 3) := by decide +kernel
theorem d_SystemUse_addRootsMark_20 : decode b_SystemUse_addRootsMark 20 = .ok (.invokevirtual 41, 3) := by decide +kernel
theorem d_SystemUse_addRootsMark_23 : decode b_SystemUse_addRootsMark 23 = .ok (.aload_n 0, 1) := by decide +kernel
theorem d_SystemUse_addRootsMark_24 : decode b_SystemUse_addRootsMark 24 = .ok (.getfield 16, 3) := by decide +kernel
theorem d_SystemUse_addRootsMark_27 : decode b_SystemUse_addRootsMark 27 = .ok (.iload_n 1, 1) := by decide +kernel
theorem d_SystemUse_addRootsMark_28 : decode b_SystemUse_addRootsMark 28 = .ok (.iconst 5, 1) := by decide +kernel
theorem d_SystemUse_addRootsMark_29 : decode b_SystemUse_addRootsMark 29 = .ok (.iadd, 1) := by decide +kernel
theorem d_SystemUse_addRootsMark_30 : decode b_SystemUse_addRootsMark 30 = .ok (.sipush 239, 3) := by decide +kernel
theorem d_SystemUse_addRootsMark_33 : decode b_SystemUse_addRootsMark 33 = .ok (.invokevirtual 41, 3) := by decide +kernel
theorem d_SystemUse_addRootsMark_36 : decode b_SystemUse_addRootsMark 36 = .ok (.aload_n 0, 1) := by decide +kernel
theorem d_SystemUse_addRootsMark_37 : decode b_SystemUse_addRootsMark 37 = .ok (.iload_n 1, 1) := by decide +kernel
theorem d_SystemUse_addRootsMark_38 : decode b_SystemUse_addRootsMark 38 = .ok (.invokevirtual 45, 3) := by decide +kernel
theorem d_SystemUse_addRootsMark_41 : decode b_SystemUse_addRootsMark 41 = .ok (.return_, 1) := by decide +kernel
set_option maxHeartbeats 4000000 in
set_option maxRecDepth 100000 in
theorem c3_addRootsMark (l : Launch) (D : va_G) (cB cI cJ cZ cN cF : ClassId) (sz : Nat) (u0 : Nat) (pb : Nat) (pq : Nat) (en : Nat) (uc : Int32) (uk : Int32) (pL : Int32) (pf : Nat → Int32) (ef : Nat → Int32) (hPL : 0 ≤ pL.toInt ∧ pL.toInt ≤ 400) (huc : 0 ≤ uc.toInt ∧ uc.toInt ≤ 4) (hen : EnOK uc.toInt pL.toInt ef) : Met l y_SystemUse_addRootsMark w_SystemUse_addRootsMark ({ frames := 2, cells := 0, slots := 0, locals := 58 }) (va_Pc [.ref u0] (fun U => U.heap.size = sz ∧ va_P D CL [(u0, .inr (8, [.ref pb, .ref en, .int uc, .int uk])), (pb, .inr (1, [.ref pq, .int pL])), (pq, .inl (cB, 400, .inl pf)), (en, .inl (cI, 4, .inl ef))] U.heap ∧ va_K D CL (TY cB cI cJ cZ cN cF) U ∧ NN U ∧ va_D (fun _ => True) [(u0, .inr (8, [.ref pb, .ref en, .int uc, .int uk])), (pb, .inr (1, [.ref pq, .int pL])), (pq, .inl (cB, 400, .inl pf)), (en, .inl (cI, 4, .inl ef))])) (va_Qv (fun (u : Int32 × Int32 × (Nat → Int32) × (Nat → Int32)) => match u with | (uc2, L2, g, ef2) => (pL.toInt ≤ L2.toInt ∧ L2.toInt ≤ 400) ∧ (0 ≤ uc2.toInt ∧ uc2.toInt ≤ 4) ∧ (EnOK uc2.toInt L2.toInt ef2)) (fun (u : Int32 × Int32 × (Nat → Int32) × (Nat → Int32)) (t : State) => match u with | (uc2, L2, g, ef2) => va_P D CL [(u0, .inr (8, [.ref pb, .ref en, .int uc2, .int uk])), (pb, .inr (1, [.ref pq, .int L2])), (pq, .inl (cB, 400, .inl g)), (en, .inl (cI, 4, .inl ef2))] t.heap ∧ va_D (va_A [(u0, .inr (8, [.ref pb, .ref en, .int uc, .int uk])), (pb, .inr (1, [.ref pq, .int pL])), (pq, .inl (cB, 400, .inl pf)), (en, .inl (cI, 4, .inl ef))] sz) [(u0, .inr (8, [.ref pb, .ref en, .int uc2, .int uk])), (pb, .inr (1, [.ref pq, .int L2])), (pq, .inl (cB, 400, .inl g)), (en, .inl (cI, 4, .inl ef2))]) (va_A [(u0, .inr (8, [.ref pb, .ref en, .int uc, .int uk])), (pb, .inr (1, [.ref pq, .int pL])), (pq, .inl (cB, 400, .inl pf)), (en, .inl (cI, 4, .inl ef))] sz)) 0 0 (va_A [(u0, .inr (8, [.ref pb, .ref en, .int uc, .int uk])), (pb, .inr (1, [.ref pq, .int pL])), (pq, .inl (cB, 400, .inl pf)), (en, .inl (cI, 4, .inl ef))] sz) := by
  refine Met.ofW (cc := b_SystemUse_addRootsMark) (maxL := 2) (ret := none) (by decide +kernel) rfl ?_
  intro p e s m args below meth c s₁ B hml hv
  obtain ⟨rfl, hsz, hP, hK, hN, hD0⟩ := hv
  have hx := B.exec
  have hb := B.bytes
  have hr := B.returns
  have hts := atoms_spec (ws := w_SystemUse_addRootsMark) B.pre
  have ht9 := fun (w : Cond) (h : w ∈ lw_g) => hts w (List.mem_cons_of_mem _ h)
  have hown : s.vm.findClass "DiscMaker$SystemUse" = some m.cls := findClass_of_methodNamed B.named
  have hlocks := B.notSynchronized
  subst hsz
  have hD := hD0.self (sz := s.heap.size)
  generalize hAe : va_A [(u0, .inr (8, [.ref pb, .ref en, .int uc, .int uk])), (pb, .inr (1, [.ref pq, .int pL])), (pq, .inl (cB, 400, .inl pf)), (en, .inl (cI, 4, .inl ef))] s.heap.size = A at hD ⊢
  have hA : ∀ q : Nat, s.heap.size ≤ q → A q := fun q h => by rw [← hAe]; exact Or.inr h
  have hS : va_S A s.heap s.heap [] := va_S.rf
  have hP : va_P D CL [(u0, .inr (8, [.ref pb, .ref en, .int uc, .int uk])), (pb, .inr (1, [.ref pq, .int pL])), (pq, .inl (cB, 400, .inl pf)), (en, .inl (cI, 4, .inl ef))] s.heap := hP
  have hl := lv_entry [.ref u0] (n := 2) (Nat.le_of_ble_eq_true rfl)
  rw [lg_entry_eq]
  generalize (lg_sl [.ref u0] ++ List.replicate (2 - (lg_sl [.ref u0]).length) Slot.unset).toArray = ls at hl ⊢
  have hl : lv_has ls 2 [(0, .ref u0)] := hl
  have L_m1 : ((-1) : Int32).toInt = (-1) := by decide
  have L_0 : (0 : Int32).toInt = 0 := by decide
  have L_1 : (1 : Int32).toInt = 1 := by decide
  have L_4 : (4 : Int32).toInt = 4 := by decide
  have L_5 : (5 : Int32).toInt = 5 := by decide
  have L_7 : (7 : Int32).toInt = 7 := by decide
  have L_190 : (190 : Int32).toInt = 190 := by decide
  have L_239 : (239 : Int32).toInt = 239 := by decide
  have L_21328 : (21328 : Int32).toInt = 21328 := by decide
  refine lv_aload_n hx hb d_SystemUse_addRootsMark_0 rfl (lv_at hl 0 rfl) ?_
  refine lv_sipush (v := 21328) hx hb d_SystemUse_addRootsMark_1 (by decide) ?_
  refine lv_bipush (v := 7) hx hb d_SystemUse_addRootsMark_4 (by decide) ?_
  have hPc := hP.sub (ws' := [(u0, .inr (8, [.ref pb, .ref en, .int uc, .int uk])), (pb, .inr (1, [.ref pq, .int pL])), (pq, .inl (cB, 400, .inl pf))]) [0, 1, 2] rfl
  have hDc := hD.sub (ws' := [(u0, .inr (8, [.ref pb, .ref en, .int uc, .int uk])), (pb, .inr (1, [.ref pq, .int pL])), (pq, .inl (cB, 400, .inl pf))]) [0, 1, 2] (by decide +kernel) rfl
  have hFc := va_free (wc := [(u0, .inr (8, [.ref pb, .ref en, .int uc, .int uk])), (pb, .inr (1, [.ref pq, .int pL])), (pq, .inl (cB, 400, .inl pf))]) hD hS hA [0, 1, 2] rfl
  have hkc : 0 ≤ 0 := by decide
  have hks : 0 ≤ 0 := by decide
  refine va_calli (va_runV (C := "DiscMaker$SystemUse") (As := [.int 21328, .int 7]) (rest := []) ⟨hx, hb, hml, hown, hts⟩ (c3_use_open l D cB cI cJ cZ cN cF s.heap.size u0 pb pq en uc uk pL pf 21328 7 (by (try dsimp only); first | assumption | omega | trivial) (by (try dsimp only); first | assumption | omega | trivial)) (cwV 2 hts (lg_goodV k903 k905 k9 k122 kc_SystemUse_open) rfl rfl rfl (by decide +kernel) ⟨Nat.le_of_ble_eq_true rfl, Nat.le_of_ble_eq_true rfl⟩) ⟨fun a U g mk q => by obtain ⟨q0, q1, qP, qK, qN, qD⟩ := q; exact ⟨q0, q1, qP, va_K.moved (u := U) (U := U.calling g mk a) (Vm.Alike.refl U.vm) qK, qN.calling, qD⟩, va_recv hK hP (ci := 8) (q0 := 0) rfl rfl, fun U hU hW => ⟨rfl, by rw [hU], by rw [hU]; exact hPc, va_K.moved hW.alike hK, NN.warm hW hN, hDc.weaken (fun _ _ _ _ => trivial)⟩⟩ rfl rfl hl.1 rfl (lv_room (Nat.le_of_ble_eq_true rfl)) d_SystemUse_addRootsMark_6 ⟨hkc, hks⟩) hS (fun q _ h => hFc q h) hFc (fun r1 u t H1 locs ht hvm hp_r1 hB hz1 hk1 hS => ?_)
  obtain ⟨L2_2, g_3⟩ := u
  obtain ⟨hP1, hD1⟩ := hB
  rw [ht] at hP1
  obtain ⟨hP, hD⟩ := va_join (wr := [(en, .inl (cI, 4, .inl ef))]) (w1 := [(u0, .inr (8, [.ref pb, .ref en, .int uc, .int uk])), (pb, .inr (1, [.ref pq, .int L2_2])), (pq, .inl (cB, 400, .inl g_3))]) hP hD [0, 1, 2] [3] rfl rfl (by decide +kernel) (by decide +kernel) hk1 hFc hP1 hD1
  clear hPc hDc hFc hP1 hD1 hk1 hz1 hkc hks
  generalize H1 = H at hP hS ⊢
  have hP : va_P D CL [(en, .inl (cI, 4, .inl ef)), (u0, .inr (8, [.ref pb, .ref en, .int uc, .int uk])), (pb, .inr (1, [.ref pq, .int L2_2])), (pq, .inl (cB, 400, .inl g_3))] H := hP
  have hD : va_D A [(en, .inl (cI, 4, .inl ef)), (u0, .inr (8, [.ref pb, .ref en, .int uc, .int uk])), (pb, .inr (1, [.ref pq, .int L2_2])), (pq, .inl (cB, 400, .inl g_3))] := hD
  try dsimp only at hp_r1
  obtain ⟨hL2_4, hr_5, hS9_6⟩ := hp_r1
  try rw [L_7] at hS9_6
  refine lv_istore_n hx hb d_SystemUse_addRootsMark_9 rfl hl (by decide) rfl (fun ls hl => ?_)
  have hl : lv_has ls 2 [(1, .int r1), (0, .ref u0)] := hl
  refine lv_aload_n hx hb d_SystemUse_addRootsMark_10 rfl (lv_at hl 1 rfl) ?_
  refine va_get (D := D) (ci := 8) (v := .ref pb) (C := "DiscMaker$SystemUse") (T := F_SystemUse) (N := 4) hx hb ht9 in_SystemUse hown hK hP 1 rfl rfl 0 (by decide) (ht9 _ k330) (fun _ h9 => h9) rfl d_SystemUse_addRootsMark_11 ?_
  refine lv_iload_n hx hb d_SystemUse_addRootsMark_14 rfl (lv_at hl 0 rfl) ?_
  refine lv_iconst (v := 4) hx hb d_SystemUse_addRootsMark_15 (by decide) ?_
  refine lv_iadd hx hb d_SystemUse_addRootsMark_16 ?_
  refine lv_topi (fun v7 e_v7 => ?_)
  have t_v7 : v7.toInt = r1.toInt + 4 := by rw [e_v7]; exact i_add rfl (by decide) (by omega) (by omega)
  refine lv_sipush (v := 190) hx hb d_SystemUse_addRootsMark_17 (by decide) ?_
  have hPc := hP.sub (ws' := [(pb, .inr (1, [.ref pq, .int L2_2])), (pq, .inl (cB, 400, .inl g_3))]) [2, 3] rfl
  have hDc := hD.sub (ws' := [(pb, .inr (1, [.ref pq, .int L2_2])), (pq, .inl (cB, 400, .inl g_3))]) [2, 3] (by decide +kernel) rfl
  have hFc := va_free (wc := [(pb, .inr (1, [.ref pq, .int L2_2])), (pq, .inl (cB, 400, .inl g_3))]) hD hS hA [2, 3] rfl
  have hkc : 0 ≤ 0 := by decide
  have hks : 0 ≤ 0 := by decide
  refine va_callv (va_runV (C := "DiscMaker$Bytes") (As := [.int v7, .int 190]) (rest := []) ⟨hx, hb, hml, hown, hts⟩ (c3_put l D cB cI cJ cZ cN cF H.size pb pq 400 L2_2 g_3 v7 190 (by (try dsimp only); first | assumption | omega | trivial) (by (try dsimp only); first | assumption | omega | trivial)) (cwV 2 hts (lg_goodV k911 k912 k913 k119 kc_Bytes_put) rfl rfl rfl (by decide +kernel) ⟨Nat.le_of_ble_eq_true rfl, Nat.le_of_ble_eq_true rfl⟩) ⟨fun a U g mk q => by obtain ⟨q0, q1, qP, qK, qN, qD⟩ := q; exact ⟨q0, q1, qP, va_K.moved (u := U) (U := U.calling g mk a) (Vm.Alike.refl U.vm) qK, qN.calling, qD⟩, va_recv hK hP (ci := 1) (q0 := 2) rfl rfl, fun U hU hW => ⟨rfl, by rw [hU], by rw [hU]; exact hPc, va_K.moved hW.alike hK, NN.warm hW hN, hDc.weaken (fun _ _ _ _ => trivial)⟩⟩ rfl rfl hl.1 rfl (lv_room (Nat.le_of_ble_eq_true rfl)) d_SystemUse_addRootsMark_20 ⟨hkc, hks⟩) hS (fun q _ h => hFc q h) hFc (fun u t H1 locs ht hvm hp_r8 hB hz1 hk1 hS => ?_)
  obtain ⟨g_9, rfl⟩ : ∃ z, z = u := ⟨_, rfl⟩
  obtain ⟨hP1, hD1⟩ := hB
  rw [ht] at hP1
  obtain ⟨hP, hD⟩ := va_join (wr := [(en, .inl (cI, 4, .inl ef)), (u0, .inr (8, [.ref pb, .ref en, .int uc, .int uk]))]) (w1 := [(pb, .inr (1, [.ref pq, .int L2_2])), (pq, .inl (cB, 400, .inl g_9))]) hP hD [2, 3] [0, 1] rfl rfl (by decide +kernel) (by decide +kernel) hk1 hFc hP1 hD1
  clear hPc hDc hFc hP1 hD1 hk1 hz1 hkc hks
  generalize H1 = H at hP hS ⊢
  have hP : va_P D CL [(en, .inl (cI, 4, .inl ef)), (u0, .inr (8, [.ref pb, .ref en, .int uc, .int uk])), (pb, .inr (1, [.ref pq, .int L2_2])), (pq, .inl (cB, 400, .inl g_9))] H := hP
  have hD : va_D A [(en, .inl (cI, 4, .inl ef)), (u0, .inr (8, [.ref pb, .ref en, .int uc, .int uk])), (pb, .inr (1, [.ref pq, .int L2_2])), (pq, .inl (cB, 400, .inl g_9))] := hD
  refine lv_aload_n hx hb d_SystemUse_addRootsMark_23 rfl (lv_at hl 1 rfl) ?_
  refine va_get (D := D) (ci := 8) (v := .ref pb) (C := "DiscMaker$SystemUse") (T := F_SystemUse) (N := 4) hx hb ht9 in_SystemUse hown hK hP 1 rfl rfl 0 (by decide) (ht9 _ k330) (fun _ h9 => h9) rfl d_SystemUse_addRootsMark_24 ?_
  refine lv_iload_n hx hb d_SystemUse_addRootsMark_27 rfl (lv_at hl 0 rfl) ?_
  refine lv_iconst (v := 5) hx hb d_SystemUse_addRootsMark_28 (by decide) ?_
  refine lv_iadd hx hb d_SystemUse_addRootsMark_29 ?_
  refine lv_topi (fun v10 e_v10 => ?_)
  have t_v10 : v10.toInt = r1.toInt + 5 := by rw [e_v10]; exact i_add rfl (by decide) (by omega) (by omega)
  refine lv_sipush (v := 239) hx hb d_SystemUse_addRootsMark_30 (by decide) ?_
  have hPc := hP.sub (ws' := [(pb, .inr (1, [.ref pq, .int L2_2])), (pq, .inl (cB, 400, .inl g_9))]) [2, 3] rfl
  have hDc := hD.sub (ws' := [(pb, .inr (1, [.ref pq, .int L2_2])), (pq, .inl (cB, 400, .inl g_9))]) [2, 3] (by decide +kernel) rfl
  have hFc := va_free (wc := [(pb, .inr (1, [.ref pq, .int L2_2])), (pq, .inl (cB, 400, .inl g_9))]) hD hS hA [2, 3] rfl
  have hkc : 0 ≤ 0 := by decide
  have hks : 0 ≤ 0 := by decide
  refine va_callv (va_runV (C := "DiscMaker$Bytes") (As := [.int v10, .int 239]) (rest := []) ⟨hx, hb, hml, hown, hts⟩ (c3_put l D cB cI cJ cZ cN cF H.size pb pq 400 L2_2 g_9 v10 239 (by (try dsimp only); first | assumption | omega | trivial) (by (try dsimp only); first | assumption | omega | trivial)) (cwV 2 hts (lg_goodV k911 k912 k913 k119 kc_Bytes_put) rfl rfl rfl (by decide +kernel) ⟨Nat.le_of_ble_eq_true rfl, Nat.le_of_ble_eq_true rfl⟩) ⟨fun a U g mk q => by obtain ⟨q0, q1, qP, qK, qN, qD⟩ := q; exact ⟨q0, q1, qP, va_K.moved (u := U) (U := U.calling g mk a) (Vm.Alike.refl U.vm) qK, qN.calling, qD⟩, va_recv hK hP (ci := 1) (q0 := 2) rfl rfl, fun U hU hW => ⟨rfl, by rw [hU], by rw [hU]; exact hPc, va_K.moved hW.alike hK, NN.warm hW hN, hDc.weaken (fun _ _ _ _ => trivial)⟩⟩ rfl rfl hl.1 rfl (lv_room (Nat.le_of_ble_eq_true rfl)) d_SystemUse_addRootsMark_33 ⟨hkc, hks⟩) hS (fun q _ h => hFc q h) hFc (fun u t H1 locs ht hvm hp_r11 hB hz1 hk1 hS => ?_)
  obtain ⟨g_12, rfl⟩ : ∃ z, z = u := ⟨_, rfl⟩
  obtain ⟨hP1, hD1⟩ := hB
  rw [ht] at hP1
  obtain ⟨hP, hD⟩ := va_join (wr := [(en, .inl (cI, 4, .inl ef)), (u0, .inr (8, [.ref pb, .ref en, .int uc, .int uk]))]) (w1 := [(pb, .inr (1, [.ref pq, .int L2_2])), (pq, .inl (cB, 400, .inl g_12))]) hP hD [2, 3] [0, 1] rfl rfl (by decide +kernel) (by decide +kernel) hk1 hFc hP1 hD1
  clear hPc hDc hFc hP1 hD1 hk1 hz1 hkc hks
  generalize H1 = H at hP hS ⊢
  have hP : va_P D CL [(en, .inl (cI, 4, .inl ef)), (u0, .inr (8, [.ref pb, .ref en, .int uc, .int uk])), (pb, .inr (1, [.ref pq, .int L2_2])), (pq, .inl (cB, 400, .inl g_12))] H := hP
  have hD : va_D A [(en, .inl (cI, 4, .inl ef)), (u0, .inr (8, [.ref pb, .ref en, .int uc, .int uk])), (pb, .inr (1, [.ref pq, .int L2_2])), (pq, .inl (cB, 400, .inl g_12))] := hD
  refine lv_aload_n hx hb d_SystemUse_addRootsMark_36 rfl (lv_at hl 1 rfl) ?_
  refine lv_iload_n hx hb d_SystemUse_addRootsMark_37 rfl (lv_at hl 0 rfl) ?_
  have hPc := hP.sub (ws' := [(u0, .inr (8, [.ref pb, .ref en, .int uc, .int uk])), (pb, .inr (1, [.ref pq, .int L2_2])), (pq, .inl (cB, 400, .inl g_12)), (en, .inl (cI, 4, .inl ef))]) [1, 2, 3, 0] rfl
  have hDc := hD.sub (ws' := [(u0, .inr (8, [.ref pb, .ref en, .int uc, .int uk])), (pb, .inr (1, [.ref pq, .int L2_2])), (pq, .inl (cB, 400, .inl g_12)), (en, .inl (cI, 4, .inl ef))]) [1, 2, 3, 0] (by decide +kernel) rfl
  have hFc := va_free (wc := [(u0, .inr (8, [.ref pb, .ref en, .int uc, .int uk])), (pb, .inr (1, [.ref pq, .int L2_2])), (pq, .inl (cB, 400, .inl g_12)), (en, .inl (cI, 4, .inl ef))]) hD hS hA [1, 2, 3, 0] rfl
  have hkc : 0 ≤ 0 := by decide
  have hks : 0 ≤ 0 := by decide
  refine va_callv (va_runV (C := "DiscMaker$SystemUse") (As := [.int r1]) (rest := []) ⟨hx, hb, hml, hown, hts⟩ (c3_close l D cB cI cJ cZ cN cF H.size u0 pb pq en uc uk L2_2 g_12 ef r1 (by (try dsimp only); first | assumption | omega | trivial) (by (try dsimp only); first | assumption | omega | trivial) (EnOK_mono hen (by omega)) (by (try dsimp only); first | assumption | omega | trivial)) (cwV 1 hts (lg_goodV k922 k924 k11 k122 kc_SystemUse_close) rfl rfl rfl (by decide +kernel) ⟨Nat.le_of_ble_eq_true rfl, Nat.le_of_ble_eq_true rfl⟩) ⟨fun a U g mk q => by obtain ⟨q0, q1, qP, qK, qN, qD⟩ := q; exact ⟨q0, q1, qP, va_K.moved (u := U) (U := U.calling g mk a) (Vm.Alike.refl U.vm) qK, qN.calling, qD⟩, va_recv hK hP (ci := 8) (q0 := 1) rfl rfl, fun U hU hW => ⟨rfl, by rw [hU], by rw [hU]; exact hPc, va_K.moved hW.alike hK, NN.warm hW hN, hDc.weaken (fun _ _ _ _ => trivial)⟩⟩ rfl rfl hl.1 rfl (lv_room (Nat.le_of_ble_eq_true rfl)) d_SystemUse_addRootsMark_38 ⟨hkc, hks⟩) hS (fun q _ h => hFc q h) hFc (fun u t H1 locs ht hvm hp_r13 hB hz1 hk1 hS => ?_)
  obtain ⟨uc2_14, g_15, ef2_16⟩ := u
  obtain ⟨hP1, hD1⟩ := hB
  rw [ht] at hP1
  obtain ⟨hP, hD⟩ := va_join (wr := []) (w1 := [(u0, .inr (8, [.ref pb, .ref en, .int uc2_14, .int uk])), (pb, .inr (1, [.ref pq, .int L2_2])), (pq, .inl (cB, 400, .inl g_15)), (en, .inl (cI, 4, .inl ef2_16))]) hP hD [1, 2, 3, 0] [] rfl rfl (by decide +kernel) (by decide +kernel) hk1 hFc hP1 hD1
  clear hPc hDc hFc hP1 hD1 hk1 hz1 hkc hks
  generalize H1 = H at hP hS ⊢
  have hP : va_P D CL [(u0, .inr (8, [.ref pb, .ref en, .int uc2_14, .int uk])), (pb, .inr (1, [.ref pq, .int L2_2])), (pq, .inl (cB, 400, .inl g_15)), (en, .inl (cI, 4, .inl ef2_16))] H := hP
  have hD : va_D A [(u0, .inr (8, [.ref pb, .ref en, .int uc2_14, .int uk])), (pb, .inr (1, [.ref pq, .int L2_2])), (pq, .inl (cB, 400, .inl g_15)), (en, .inl (cI, 4, .inl ef2_16))] := hD
  try dsimp only at hp_r13
  obtain ⟨huc2_17, hen2_18⟩ := hp_r13
  have hP9 := hP.sub (ws' := [(u0, .inr (8, [.ref pb, .ref en, .int uc2_14, .int uk])), (pb, .inr (1, [.ref pq, .int L2_2])), (pq, .inl (cB, 400, .inl g_15)), (en, .inl (cI, 4, .inl ef2_16))]) [0, 1, 2, 3] rfl
  have hD9 := hD.sub (ws' := [(u0, .inr (8, [.ref pb, .ref en, .int uc2_14, .int uk])), (pb, .inr (1, [.ref pq, .int L2_2])), (pq, .inl (cB, 400, .inl g_15)), (en, .inl (cI, 4, .inl ef2_16))]) [0, 1, 2, 3] (by decide +kernel) rfl
  exact W.vret hx hb hr (fun t ht hW => ⟨⟨(uc2_14, L2_2, g_15, ef2_16), rfl, ⟨(by (try dsimp only); first | assumption | omega | trivial), (by (try dsimp only); first | assumption | omega | trivial), hen2_18⟩, by rw [ht]; exact hP9, hD9⟩, hS.F ht⟩) hS.2.2 d_SystemUse_addRootsMark_41

theorem d_SystemUse_modeBits_0 : decode b_SystemUse_modeBits 0 = .ok (.iload_n 0, 1) := by decide +kernel
theorem d_SystemUse_modeBits_1 : decode b_SystemUse_modeBits 1 = .ok (.ifCond .ne 9, 3) := by decide +kernel
theorem d_SystemUse_modeBits_4 : decode b_SystemUse_modeBits 4 = .ok (.sipush 16384, 3) := by decide +kernel
theorem d_SystemUse_modeBits_7 : decode b_SystemUse_modeBits 7 = .ok (.goto 15, 3) := by decide +kernel
theorem d_SystemUse_modeBits_10 : decode b_SystemUse_modeBits 10 = .ok (.iload_n 0, 1) := by decide +kernel
theorem d_SystemUse_modeBits_11 : decode b_SystemUse_modeBits 11 = .ok (.iconst 1, 1) := by decide +kernel
theorem d_SystemUse_modeBits_12 : decode b_SystemUse_modeBits 12 = .ok (.if_icmp .ne 8, 3) := by decide +kernel
theorem d_SystemUse_modeBits_15 : decode b_SystemUse_modeBits 15 = .ok (.ldc 85, 2) := by decide +kernel
theorem d_SystemUse_modeBits_17 : decode b_SystemUse_modeBits 17 = .ok (.goto 5, 3) := by decide +kernel
theorem d_SystemUse_modeBits_20 : decode b_SystemUse_modeBits 20 = .ok (.ldc 86, 2) := by decide +kernel
theorem d_SystemUse_modeBits_22 : decode b_SystemUse_modeBits 22 = .ok (.ireturn, 1) := by decide +kernel
set_option maxHeartbeats 4000000 in
set_option maxRecDepth 100000 in
theorem c3_modeBits (l : Launch) (D : va_G) (cB cI cJ cZ cN cF : ClassId) (sz : Nat) (x : Int32) : Met l y_SystemUse_modeBits w_SystemUse_modeBits ({ frames := 0, cells := 0, slots := 0, locals := 0 }) (va_Pc [.int x] (fun U => U.heap.size = sz ∧ va_P D CL [] U.heap ∧ va_K D CL (TY cB cI cJ cZ cN cF) U ∧ NN U ∧ va_D (fun _ => True) [])) (va_Qi (fun (r : Int32) (u : Unit) => True) (fun (u : Unit) (t : State) => match u with | () => va_P D CL [] t.heap ∧ va_D (va_A [] sz) []) (va_A [] sz)) 0 0 (va_A [] sz) := by
  refine Met.ofW (cc := b_SystemUse_modeBits) (maxL := 1) (ret := some .int) (by decide +kernel) rfl ?_
  intro p e s m args below meth c s₁ B hml hv
  obtain ⟨rfl, hsz, hP, hK, hN, hD0⟩ := hv
  have hx := B.exec
  have hb := B.bytes
  have hr := B.returns
  have hts := atoms_spec (ws := w_SystemUse_modeBits) B.pre
  have ht9 := fun (w : Cond) (h : w ∈ lw_g) => hts w (List.mem_cons_of_mem _ h)
  have hown : s.vm.findClass "DiscMaker$SystemUse" = some m.cls := findClass_of_methodNamed B.named
  have hlocks := B.notSynchronized
  subst hsz
  have hD := hD0.self (sz := s.heap.size)
  generalize hAe : va_A [] s.heap.size = A at hD ⊢
  have hA : ∀ q : Nat, s.heap.size ≤ q → A q := fun q h => by rw [← hAe]; exact Or.inr h
  have hS : va_S A s.heap s.heap [] := va_S.rf
  have hP : va_P D CL [] s.heap := hP
  have hl := lv_entry [.int x] (n := 1) (Nat.le_of_ble_eq_true rfl)
  rw [lg_entry_eq]
  generalize (lg_sl [.int x] ++ List.replicate (1 - (lg_sl [.int x]).length) Slot.unset).toArray = ls at hl ⊢
  have hl : lv_has ls 1 [(0, .int x)] := hl
  have L_m1 : ((-1) : Int32).toInt = (-1) := by decide
  have L_0 : (0 : Int32).toInt = 0 := by decide
  have L_1 : (1 : Int32).toInt = 1 := by decide
  have L_16384 : (16384 : Int32).toInt = 16384 := by decide
  have L_32768 : (32768 : Int32).toInt = 32768 := by decide
  have L_40960 : (40960 : Int32).toInt = 40960 := by decide
  refine lv_iload_n hx hb d_SystemUse_modeBits_0 rfl (lv_at hl 0 rfl) ?_
  refine lv_if_ne (tgt := 10) hx hb d_SystemUse_modeBits_1 (by decide) (fun h_9 => ?_) (fun h_9 => ?_)
  · skip
    have g1_2 : ¬ x.toInt = 0 := fun h8 => h_9 ((i_eq rfl (by decide)).mpr h8)
    refine lv_iload_n hx hb d_SystemUse_modeBits_10 rfl (lv_at hl 0 rfl) ?_
    refine lv_iconst (v := 1) hx hb d_SystemUse_modeBits_11 (by decide) ?_
    refine lv_icmp_ne (tgt := 20) hx hb d_SystemUse_modeBits_12 (by decide) (fun h_9 => ?_) (fun h_9 => ?_)
    · skip
      have g12_5 : ¬ x.toInt = 1 := fun h8 => h_9 ((i_eq rfl (by decide)).mpr h8)
      refine lv_ldc (v := 40960) hx hb hown (ht9 _ k1021) d_SystemUse_modeBits_20 ?_
      have hP9 := hP.sub (ws' := []) [] rfl
      have hD9 := hD.sub (ws' := []) [] (by decide +kernel) rfl
      exact W.iret (v := 40960) hx hb hr (fun t ht hW => ⟨⟨40960, (), rfl, trivial, by rw [ht]; exact hP9, hD9⟩, hS.F ht⟩) hS.2.2 d_SystemUse_modeBits_22
    · skip
      have g12_5 : x.toInt = 1 := (i_eq rfl (by decide)).mp h_9
      refine lv_ldc (v := 32768) hx hb hown (ht9 _ k1020) d_SystemUse_modeBits_15 ?_
      refine lv_goto (tgt := 22) hx hb d_SystemUse_modeBits_17 (by decide) ?_
      have hP9 := hP.sub (ws' := []) [] rfl
      have hD9 := hD.sub (ws' := []) [] (by decide +kernel) rfl
      exact W.iret (v := 32768) hx hb hr (fun t ht hW => ⟨⟨32768, (), rfl, trivial, by rw [ht]; exact hP9, hD9⟩, hS.F ht⟩) hS.2.2 d_SystemUse_modeBits_22
  · skip
    have g1_2 : x.toInt = 0 := (i_eq rfl (by decide)).mp h_9
    refine lv_sipush (v := 16384) hx hb d_SystemUse_modeBits_4 (by decide) ?_
    refine lv_goto (tgt := 22) hx hb d_SystemUse_modeBits_7 (by decide) ?_
    have hP9 := hP.sub (ws' := []) [] rfl
    have hD9 := hD.sub (ws' := []) [] (by decide +kernel) rfl
    exact W.iret (v := 16384) hx hb hr (fun t ht hW => ⟨⟨16384, (), rfl, trivial, by rw [ht]; exact hP9, hD9⟩, hS.F ht⟩) hS.2.2 d_SystemUse_modeBits_22

theorem d_SystemUse_addOwnership_0 : decode b_SystemUse_addOwnership 0 = .ok (.aload_n 0, 1) := by decide +kernel
theorem d_SystemUse_addOwnership_1 : decode b_SystemUse_addOwnership 1 = .ok (.sipush 20568, 3) := by decide +kernel
theorem d_SystemUse_addOwnership_4 : decode b_SystemUse_addOwnership 4 = .ok (.bipush 36, 2) := by decide +kernel
theorem d_SystemUse_addOwnership_6 : decode b_SystemUse_addOwnership 6 = .ok (.invokevirtual 37, 3) := by decide +kernel
theorem d_SystemUse_addOwnership_9 : decode b_SystemUse_addOwnership 9 = .ok (.istore_n 3, 1) := by decide +kernel
theorem d_SystemUse_addOwnership_10 : decode b_SystemUse_addOwnership 10 = .ok (.aload_n 0, 1) := by decide +kernel
theorem d_SystemUse_addOwnership_11 : decode b_SystemUse_addOwnership 11 = .ok (.getfield 16, 3) := by decide +kernel
theorem d_SystemUse_addOwnership_14 : decode b_SystemUse_addOwnership 14 = .ok (.iload_n 3, 1) := by decide +kernel
theorem d_SystemUse_addOwnership_15 : decode b_SystemUse_addOwnership 15 = .ok (.iconst 4, 1) := by decide +kernel
theorem d_SystemUse_addOwnership_16 : decode b_SystemUse_addOwnership 16 = .ok (.iadd, 1) := by decide +kernel
theorem d_SystemUse_addOwnership_17 : decode b_SystemUse_addOwnership 17 = .ok (.aload_n 1, 1) := by decide +kernel
theorem d_SystemUse_addOwnership_18 : decode b_SystemUse_addOwnership 18 = .ok (.getfield 48, 3) := by decide +kernel
theorem d_SystemUse_addOwnership_21 : decode b_SystemUse_addOwnership 21 = .ok (.invokestatic 53, 3) := by decide +kernel
theorem d_SystemUse_addOwnership_24 : decode b_SystemUse_addOwnership 24 = .ok (.aload_n 1, 1) := by decide +kernel
theorem d_SystemUse_addOwnership_25 : decode b_SystemUse_addOwnership 25 = .ok (.getfield 57, 3) := by decide +kernel
theorem d_SystemUse_addOwnership_28 : decode b_SystemUse_addOwnership 28 = .ok (.sipush 4096, 3) := by decide +kernel
theorem d_SystemUse_addOwnership_31 : decode b_SystemUse_addOwnership 31 = .ok (.irem, 1) := by decide +kernel
theorem d_SystemUse_addOwnership_32 : decode b_SystemUse_addOwnership 32 = .ok (.iadd, 1) := by decide +kernel
theorem d_SystemUse_addOwnership_33 : decode b_SystemUse_addOwnership 33 = .ok (.iconst 4, 1) := by decide +kernel
theorem d_SystemUse_addOwnership_34 : decode b_SystemUse_addOwnership 34 = .ok (.invokevirtual 60, 3) := by decide +kernel
theorem d_SystemUse_addOwnership_37 : decode b_SystemUse_addOwnership 37 = .ok (.aload_n 0, 1) := by decide +kernel
theorem d_SystemUse_addOwnership_38 : decode b_SystemUse_addOwnership 38 = .ok (.getfield 16, 3) := by decide +kernel
theorem d_SystemUse_addOwnership_41 : decode b_SystemUse_addOwnership 41 = .ok (.iload_n 3, 1) := by decide +kernel
theorem d_SystemUse_addOwnership_42 : decode b_SystemUse_addOwnership 42 = .ok (.bipush 12, 2) := by decide +kernel
theorem d_SystemUse_addOwnership_44 : decode b_SystemUse_addOwnership 44 = .ok (.iadd, 1) := by decide +kernel
theorem d_SystemUse_addOwnership_45 : decode b_SystemUse_addOwnership 45 = .ok (.iload_n 2, 1) := by decide +kernel
theorem d_SystemUse_addOwnership_46 : decode b_SystemUse_addOwnership 46 = .ok (.iconst 4, 1) := by decide +kernel
theorem d_SystemUse_addOwnership_47 : decode b_SystemUse_addOwnership 47 = .ok (.invokevirtual 60, 3) := by decide +kernel
theorem d_SystemUse_addOwnership_50 : decode b_SystemUse_addOwnership 50 = .ok (.aload_n 0, 1) := by decide +kernel
theorem d_SystemUse_addOwnership_51 : decode b_SystemUse_addOwnership 51 = .ok (.getfield 16, 3) := by decide +kernel
theorem d_SystemUse_addOwnership_54 : decode b_SystemUse_addOwnership 54 = .ok (.iload_n 3, 1) := by decide +kernel
theorem d_SystemUse_addOwnership_55 : decode b_SystemUse_addOwnership 55 = .ok (.bipush 20, 2) := by decide +kernel
theorem d_SystemUse_addOwnership_57 : decode b_SystemUse_addOwnership 57 = .ok (.iadd, 1) := by decide +kernel
theorem d_SystemUse_addOwnership_58 : decode b_SystemUse_addOwnership 58 = .ok (.aload_n 1, 1) := by decide +kernel
theorem d_SystemUse_addOwnership_59 : decode b_SystemUse_addOwnership 59 = .ok (.getfield 64, 3) := by decide +kernel
theorem d_SystemUse_addOwnership_62 : decode b_SystemUse_addOwnership 62 = .ok (.iconst 4, 1) := by decide +kernel
theorem d_SystemUse_addOwnership_63 : decode b_SystemUse_addOwnership 63 = .ok (.invokevirtual 60, 3) := by decide +kernel
theorem d_SystemUse_addOwnership_66 : decode b_SystemUse_addOwnership 66 = .ok (.aload_n 0, 1) := by decide +kernel
theorem d_SystemUse_addOwnership_67 : decode b_SystemUse_addOwnership 67 = .ok (.getfield 16, 3) := by decide +kernel
theorem d_SystemUse_addOwnership_70 : decode b_SystemUse_addOwnership 70 = .ok (.iload_n 3, 1) := by decide +kernel
theorem d_SystemUse_addOwnership_71 : decode b_SystemUse_addOwnership 71 = .ok (.bipush 28, 2) := by decide +kernel
theorem d_SystemUse_addOwnership_73 : decode b_SystemUse_addOwnership 73 = .ok (.iadd, 1) := by decide +kernel
theorem d_SystemUse_addOwnership_74 : decode b_SystemUse_addOwnership 74 = .ok (.aload_n 1, 1) := by decide +kernel
theorem d_SystemUse_addOwnership_75 : decode b_SystemUse_addOwnership 75 = .ok (.getfield 67, 3) := by decide +kernel
theorem d_SystemUse_addOwnership_78 : decode b_SystemUse_addOwnership 78 = .ok (.iconst 4, 1) := by decide +kernel
theorem d_SystemUse_addOwnership_79 : decode b_SystemUse_addOwnership 79 = .ok (.invokevirtual 60, 3) := by decide +kernel
theorem d_SystemUse_addOwnership_82 : decode b_SystemUse_addOwnership 82 = .ok (.aload_n 0, 1) := by decide +kernel
theorem d_SystemUse_addOwnership_83 : decode b_SystemUse_addOwnership 83 = .ok (.iload_n 3, 1) := by decide +kernel
theorem d_SystemUse_addOwnership_84 : decode b_SystemUse_addOwnership 84 = .ok (.invokevirtual 45, 3) := by decide +kernel
theorem d_SystemUse_addOwnership_87 : decode b_SystemUse_addOwnership 87 = .ok (.return_, 1) := by decide +kernel
set_option maxHeartbeats 4000000 in
set_option maxRecDepth 100000 in
theorem c3_addOwnership (l : Launch) (D : va_G) (cB cI cJ cZ cN cF : ClassId) (sz : Nat) (u0 : Nat) (pb : Nat) (pq : Nat) (en : Nat) (uc : Int32) (uk : Int32) (pL : Int32) (pf : Nat → Int32) (ef : Nat → Int32) (h0 : Nat) (kna : Nat) (kke : Nat) (kta : Nat) (so : Int32) (nu : Int32) (pa : Int32) (ab : Int32) (mo : Int32) (ow : Int32) (gr : Int32) (si : Int32) (sd : Int32) (x : Int32) (hPL : 0 ≤ pL.toInt ∧ pL.toInt ≤ 400) (huc : 0 ≤ uc.toInt ∧ uc.toInt ≤ 4) (hen : EnOK uc.toInt pL.toInt ef) : Met l y_SystemUse_addOwnership w_SystemUse_addOwnership ({ frames := 2, cells := 0, slots := 0, locals := 58 }) (va_Pc [.ref u0, .ref h0, .int x] (fun U => U.heap.size = sz ∧ va_P D CL [(u0, .inr (8, [.ref pb, .ref en, .int uc, .int uk])), (pb, .inr (1, [.ref pq, .int pL])), (pq, .inl (cB, 400, .inl pf)), (en, .inl (cI, 4, .inl ef))] U.heap ∧ va_K D CL (TY cB cI cJ cZ cN cF) U ∧ NN U ∧ va_D (fun _ => True) [(u0, .inr (8, [.ref pb, .ref en, .int uc, .int uk])), (pb, .inr (1, [.ref pq, .int pL])), (pq, .inl (cB, 400, .inl pf)), (en, .inl (cI, 4, .inl ef))] ∧ RO D [(h0, .inr (5, [.int so, .ref kna, .ref kke, .ref kta, .int nu, .int pa, .int ab, .int mo, .int ow, .int gr, .int si, .int sd]))] (va_A [(u0, .inr (8, [.ref pb, .ref en, .int uc, .int uk])), (pb, .inr (1, [.ref pq, .int pL])), (pq, .inl (cB, 400, .inl pf)), (en, .inl (cI, 4, .inl ef))] sz) U U.heap)) (va_Qv (fun (u : Int32 × Int32 × (Nat → Int32) × (Nat → Int32)) => match u with | (uc2, L2, g, ef2) => (pL.toInt ≤ L2.toInt ∧ L2.toInt ≤ 400) ∧ (0 ≤ uc2.toInt ∧ uc2.toInt ≤ 4) ∧ (EnOK uc2.toInt L2.toInt ef2)) (fun (u : Int32 × Int32 × (Nat → Int32) × (Nat → Int32)) (t : State) => match u with | (uc2, L2, g, ef2) => va_P D CL [(u0, .inr (8, [.ref pb, .ref en, .int uc2, .int uk])), (pb, .inr (1, [.ref pq, .int L2])), (pq, .inl (cB, 400, .inl g)), (en, .inl (cI, 4, .inl ef2))] t.heap ∧ va_D (va_A [(u0, .inr (8, [.ref pb, .ref en, .int uc, .int uk])), (pb, .inr (1, [.ref pq, .int pL])), (pq, .inl (cB, 400, .inl pf)), (en, .inl (cI, 4, .inl ef))] sz) [(u0, .inr (8, [.ref pb, .ref en, .int uc2, .int uk])), (pb, .inr (1, [.ref pq, .int L2])), (pq, .inl (cB, 400, .inl g)), (en, .inl (cI, 4, .inl ef2))]) (va_A [(u0, .inr (8, [.ref pb, .ref en, .int uc, .int uk])), (pb, .inr (1, [.ref pq, .int pL])), (pq, .inl (cB, 400, .inl pf)), (en, .inl (cI, 4, .inl ef))] sz)) 0 0 (va_A [(u0, .inr (8, [.ref pb, .ref en, .int uc, .int uk])), (pb, .inr (1, [.ref pq, .int pL])), (pq, .inl (cB, 400, .inl pf)), (en, .inl (cI, 4, .inl ef))] sz) := by
  refine Met.ofW (cc := b_SystemUse_addOwnership) (maxL := 4) (ret := none) (by decide +kernel) rfl ?_
  intro p e s m args below meth c s₁ B hml hv
  obtain ⟨rfl, hsz, hP, hK, hN, hD0, hZr⟩ := hv
  have hx := B.exec
  have hb := B.bytes
  have hr := B.returns
  have hts := atoms_spec (ws := w_SystemUse_addOwnership) B.pre
  have ht9 := fun (w : Cond) (h : w ∈ lw_g) => hts w (List.mem_cons_of_mem _ h)
  have hown : s.vm.findClass "DiscMaker$SystemUse" = some m.cls := findClass_of_methodNamed B.named
  have hlocks := B.notSynchronized
  subst hsz
  have hD := hD0.self (sz := s.heap.size)
  generalize hAe : va_A [(u0, .inr (8, [.ref pb, .ref en, .int uc, .int uk])), (pb, .inr (1, [.ref pq, .int pL])), (pq, .inl (cB, 400, .inl pf)), (en, .inl (cI, 4, .inl ef))] s.heap.size = A at hD hZr ⊢
  have hA : ∀ q : Nat, s.heap.size ≤ q → A q := fun q h => by rw [← hAe]; exact Or.inr h
  have hS : va_S A s.heap s.heap [] := va_S.rf
  have hP : va_P D CL [(u0, .inr (8, [.ref pb, .ref en, .int uc, .int uk])), (pb, .inr (1, [.ref pq, .int pL])), (pq, .inl (cB, 400, .inl pf)), (en, .inl (cI, 4, .inl ef))] s.heap := hP
  have hl := lv_entry [.ref u0, .ref h0, .int x] (n := 4) (Nat.le_of_ble_eq_true rfl)
  rw [lg_entry_eq]
  generalize (lg_sl [.ref u0, .ref h0, .int x] ++ List.replicate (4 - (lg_sl [.ref u0, .ref h0, .int x]).length) Slot.unset).toArray = ls at hl ⊢
  have hl : lv_has ls 4 [(0, .ref u0), (1, .ref h0), (2, .int x)] := hl
  have L_m1 : ((-1) : Int32).toInt = (-1) := by decide
  have L_0 : (0 : Int32).toInt = 0 := by decide
  have L_1 : (1 : Int32).toInt = 1 := by decide
  have L_4 : (4 : Int32).toInt = 4 := by decide
  have L_12 : (12 : Int32).toInt = 12 := by decide
  have L_20 : (20 : Int32).toInt = 20 := by decide
  have L_28 : (28 : Int32).toInt = 28 := by decide
  have L_36 : (36 : Int32).toInt = 36 := by decide
  have L_4096 : (4096 : Int32).toInt = 4096 := by decide
  have L_20568 : (20568 : Int32).toInt = 20568 := by decide
  refine lv_aload_n hx hb d_SystemUse_addOwnership_0 rfl (lv_at hl 0 rfl) ?_
  refine lv_sipush (v := 20568) hx hb d_SystemUse_addOwnership_1 (by decide) ?_
  refine lv_bipush (v := 36) hx hb d_SystemUse_addOwnership_4 (by decide) ?_
  have hPc := hP.sub (ws' := [(u0, .inr (8, [.ref pb, .ref en, .int uc, .int uk])), (pb, .inr (1, [.ref pq, .int pL])), (pq, .inl (cB, 400, .inl pf))]) [0, 1, 2] rfl
  have hDc := hD.sub (ws' := [(u0, .inr (8, [.ref pb, .ref en, .int uc, .int uk])), (pb, .inr (1, [.ref pq, .int pL])), (pq, .inl (cB, 400, .inl pf))]) [0, 1, 2] (by decide +kernel) rfl
  have hFc := va_free (wc := [(u0, .inr (8, [.ref pb, .ref en, .int uc, .int uk])), (pb, .inr (1, [.ref pq, .int pL])), (pq, .inl (cB, 400, .inl pf))]) hD hS hA [0, 1, 2] rfl
  have hkc : 0 ≤ 0 := by decide
  have hks : 0 ≤ 0 := by decide
  refine va_calli (va_runV (C := "DiscMaker$SystemUse") (As := [.int 20568, .int 36]) (rest := []) ⟨hx, hb, hml, hown, hts⟩ (c3_use_open l D cB cI cJ cZ cN cF s.heap.size u0 pb pq en uc uk pL pf 20568 36 (by (try dsimp only); first | assumption | omega | trivial) (by (try dsimp only); first | assumption | omega | trivial)) (cwV 2 hts (lg_goodV k903 k905 k9 k122 kc_SystemUse_open) rfl rfl rfl (by decide +kernel) ⟨Nat.le_of_ble_eq_true rfl, Nat.le_of_ble_eq_true rfl⟩) ⟨fun a U g mk q => by obtain ⟨q0, q1, qP, qK, qN, qD⟩ := q; exact ⟨q0, q1, qP, va_K.moved (u := U) (U := U.calling g mk a) (Vm.Alike.refl U.vm) qK, qN.calling, qD⟩, va_recv hK hP (ci := 8) (q0 := 0) rfl rfl, fun U hU hW => ⟨rfl, by rw [hU], by rw [hU]; exact hPc, va_K.moved hW.alike hK, NN.warm hW hN, hDc.weaken (fun _ _ _ _ => trivial)⟩⟩ rfl rfl hl.1 rfl (lv_room (Nat.le_of_ble_eq_true rfl)) d_SystemUse_addOwnership_6 ⟨hkc, hks⟩) hS (fun q _ h => hFc q h) hFc (fun r1 u t H1 locs ht hvm hp_r1 hB hz1 hk1 hS => ?_)
  obtain ⟨L2_2, g_3⟩ := u
  obtain ⟨hP1, hD1⟩ := hB
  rw [ht] at hP1
  obtain ⟨hP, hD⟩ := va_join (wr := [(en, .inl (cI, 4, .inl ef))]) (w1 := [(u0, .inr (8, [.ref pb, .ref en, .int uc, .int uk])), (pb, .inr (1, [.ref pq, .int L2_2])), (pq, .inl (cB, 400, .inl g_3))]) hP hD [0, 1, 2] [3] rfl rfl (by decide +kernel) (by decide +kernel) hk1 hFc hP1 hD1
  clear hPc hDc hFc hP1 hD1 hk1 hz1 hkc hks
  generalize H1 = H at hP hS ⊢
  have hP : va_P D CL [(en, .inl (cI, 4, .inl ef)), (u0, .inr (8, [.ref pb, .ref en, .int uc, .int uk])), (pb, .inr (1, [.ref pq, .int L2_2])), (pq, .inl (cB, 400, .inl g_3))] H := hP
  have hD : va_D A [(en, .inl (cI, 4, .inl ef)), (u0, .inr (8, [.ref pb, .ref en, .int uc, .int uk])), (pb, .inr (1, [.ref pq, .int L2_2])), (pq, .inl (cB, 400, .inl g_3))] := hD
  try dsimp only at hp_r1
  obtain ⟨hL2_4, hr_5, hS9_6⟩ := hp_r1
  try rw [L_36] at hS9_6
  refine lv_istore_n hx hb d_SystemUse_addOwnership_9 rfl hl (by decide) rfl (fun ls hl => ?_)
  have hl : lv_has ls 4 [(3, .int r1), (0, .ref u0), (1, .ref h0), (2, .int x)] := hl
  refine lv_aload_n hx hb d_SystemUse_addOwnership_10 rfl (lv_at hl 1 rfl) ?_
  refine va_get (D := D) (ci := 8) (v := .ref pb) (C := "DiscMaker$SystemUse") (T := F_SystemUse) (N := 4) hx hb ht9 in_SystemUse hown hK hP 1 rfl rfl 0 (by decide) (ht9 _ k330) (fun _ h9 => h9) rfl d_SystemUse_addOwnership_11 ?_
  refine lv_iload_n hx hb d_SystemUse_addOwnership_14 rfl (lv_at hl 0 rfl) ?_
  refine lv_iconst (v := 4) hx hb d_SystemUse_addOwnership_15 (by decide) ?_
  refine lv_iadd hx hb d_SystemUse_addOwnership_16 ?_
  refine lv_topi (fun v7 e_v7 => ?_)
  have t_v7 : v7.toInt = r1.toInt + 4 := by rw [e_v7]; exact i_add rfl (by decide) (by omega) (by omega)
  refine lv_aload_n hx hb d_SystemUse_addOwnership_17 rfl (lv_at hl 2 rfl) ?_
  have hPR := RO_at hZr hS
  refine va_getN (D := D) (ci := 5) (v := .int so) (C := "DiscMaker$Node") (T := F_Node) (N := 12) hx hb ht9 in_Node hown hK hPR 0 rfl rfl 0 (by decide) (va_Nw.use rfl (hN _ k182)) (fun _ h9 => h9) rfl d_SystemUse_addOwnership_18 ?_
  have hPc := hP.sub (ws' := []) [] rfl
  have hDc := hD.sub (ws' := []) [] (by decide +kernel) rfl
  have hFc := va_free (wc := []) hD hS hA [] rfl
  have hkc : 0 ≤ 0 := by decide
  have hks : 0 ≤ 0 := by decide
  refine va_calli (va_runS (As := [.int so]) (rest := [.int v7, .ref pb]) ⟨hx, hb, hml, hown, hts⟩ (c3_modeBits l D cB cI cJ cZ cN cF H.size so) (cwS 1 hts (lg_goodS k1017 k1018 k122 kc_SystemUse_modeBits) rfl rfl rfl (by decide +kernel) ⟨Nat.le_of_ble_eq_true rfl, Nat.le_of_ble_eq_true rfl⟩) ⟨fun a U g mk q => by obtain ⟨q0, q1, qP, qK, qN, qD⟩ := q; exact ⟨q0, q1, qP, va_K.moved (u := U) (U := U.calling g mk a) (Vm.Alike.refl U.vm) qK, qN.calling, qD⟩, fun U hU hW => ⟨rfl, by rw [hU], by rw [hU]; exact hPc, va_K.moved hW.alike hK, NN.warm hW hN, hDc.weaken (fun _ _ _ _ => trivial)⟩⟩ rfl rfl hl.1 rfl (lv_room (Nat.le_of_ble_eq_true rfl)) d_SystemUse_addOwnership_21 ⟨hkc, hks⟩) hS (fun q _ h => hFc q h) hFc (fun r8 u t H1 locs ht hvm hp_r8 hB hz1 hk1 hS => ?_)
  obtain ⟨hP1, hD1⟩ := hB
  rw [ht] at hP1
  obtain ⟨hP, hD⟩ := va_join (wr := [(en, .inl (cI, 4, .inl ef)), (u0, .inr (8, [.ref pb, .ref en, .int uc, .int uk])), (pb, .inr (1, [.ref pq, .int L2_2])), (pq, .inl (cB, 400, .inl g_3))]) (w1 := []) hP hD [] [0, 1, 2, 3] rfl rfl (by decide +kernel) (by decide +kernel) hk1 hFc hP1 hD1
  clear hPc hDc hFc hP1 hD1 hk1 hz1 hkc hks
  generalize H1 = H at hP hS ⊢
  have hP : va_P D CL [(en, .inl (cI, 4, .inl ef)), (u0, .inr (8, [.ref pb, .ref en, .int uc, .int uk])), (pb, .inr (1, [.ref pq, .int L2_2])), (pq, .inl (cB, 400, .inl g_3))] H := hP
  have hD : va_D A [(en, .inl (cI, 4, .inl ef)), (u0, .inr (8, [.ref pb, .ref en, .int uc, .int uk])), (pb, .inr (1, [.ref pq, .int L2_2])), (pq, .inl (cB, 400, .inl g_3))] := hD
  refine lv_aload_n hx hb d_SystemUse_addOwnership_24 rfl (lv_at hl 2 rfl) ?_
  have hPR := RO_at hZr hS
  refine va_getN (D := D) (ci := 5) (v := .int mo) (C := "DiscMaker$Node") (T := F_Node) (N := 12) hx hb ht9 in_Node hown hK hPR 0 rfl rfl 7 (by decide) (va_Nw.use rfl (hN _ k201)) (fun _ h9 => h9) rfl d_SystemUse_addOwnership_25 ?_
  refine lv_sipush (v := 4096) hx hb d_SystemUse_addOwnership_28 (by decide) ?_
  refine lv_irem hx hb d_SystemUse_addOwnership_31 (by decide) ?_
  refine lv_topi (fun v9 e_v9 => ?_)
  refine lv_iadd hx hb d_SystemUse_addOwnership_32 ?_
  refine lv_topi (fun v10 e_v10 => ?_)
  refine lv_iconst (v := 4) hx hb d_SystemUse_addOwnership_33 (by decide) ?_
  have hPc := hP.sub (ws' := [(pb, .inr (1, [.ref pq, .int L2_2])), (pq, .inl (cB, 400, .inl g_3))]) [2, 3] rfl
  have hDc := hD.sub (ws' := [(pb, .inr (1, [.ref pq, .int L2_2])), (pq, .inl (cB, 400, .inl g_3))]) [2, 3] (by decide +kernel) rfl
  have hFc := va_free (wc := [(pb, .inr (1, [.ref pq, .int L2_2])), (pq, .inl (cB, 400, .inl g_3))]) hD hS hA [2, 3] rfl
  have hkc : 0 ≤ 0 := by decide
  have hks : 0 ≤ 0 := by decide
  refine va_callv (va_runV (C := "DiscMaker$Bytes") (As := [.int v7, .int v10, .int 4]) (rest := []) ⟨hx, hb, hml, hown, hts⟩ (c3_putBoth l D cB cI cJ cZ cN cF H.size pb pq 400 L2_2 g_3 v7 v10 4 (by (try dsimp only); first | assumption | omega | trivial) (by (try dsimp only); first | assumption | omega | trivial) (by (try dsimp only); first | assumption | omega | trivial)) (cwV 3 hts (lg_goodV k1022 k1023 k1024 k119 kc_Bytes_putBoth) rfl rfl rfl (by decide +kernel) ⟨Nat.le_of_ble_eq_true rfl, Nat.le_of_ble_eq_true rfl⟩) ⟨fun a U g mk q => by obtain ⟨q0, q1, qP, qK, qN, qD⟩ := q; exact ⟨q0, q1, qP, va_K.moved (u := U) (U := U.calling g mk a) (Vm.Alike.refl U.vm) qK, qN.calling, qD⟩, va_recv hK hP (ci := 1) (q0 := 2) rfl rfl, fun U hU hW => ⟨rfl, by rw [hU], by rw [hU]; exact hPc, va_K.moved hW.alike hK, NN.warm hW hN, hDc.weaken (fun _ _ _ _ => trivial)⟩⟩ rfl rfl hl.1 rfl (lv_room (Nat.le_of_ble_eq_true rfl)) d_SystemUse_addOwnership_34 ⟨hkc, hks⟩) hS (fun q _ h => hFc q h) hFc (fun u t H1 locs ht hvm hp_r11 hB hz1 hk1 hS => ?_)
  obtain ⟨g_12, rfl⟩ : ∃ z, z = u := ⟨_, rfl⟩
  obtain ⟨hP1, hD1⟩ := hB
  rw [ht] at hP1
  obtain ⟨hP, hD⟩ := va_join (wr := [(en, .inl (cI, 4, .inl ef)), (u0, .inr (8, [.ref pb, .ref en, .int uc, .int uk]))]) (w1 := [(pb, .inr (1, [.ref pq, .int L2_2])), (pq, .inl (cB, 400, .inl g_12))]) hP hD [2, 3] [0, 1] rfl rfl (by decide +kernel) (by decide +kernel) hk1 hFc hP1 hD1
  clear hPc hDc hFc hP1 hD1 hk1 hz1 hkc hks
  generalize H1 = H at hP hS ⊢
  have hP : va_P D CL [(en, .inl (cI, 4, .inl ef)), (u0, .inr (8, [.ref pb, .ref en, .int uc, .int uk])), (pb, .inr (1, [.ref pq, .int L2_2])), (pq, .inl (cB, 400, .inl g_12))] H := hP
  have hD : va_D A [(en, .inl (cI, 4, .inl ef)), (u0, .inr (8, [.ref pb, .ref en, .int uc, .int uk])), (pb, .inr (1, [.ref pq, .int L2_2])), (pq, .inl (cB, 400, .inl g_12))] := hD
  refine lv_aload_n hx hb d_SystemUse_addOwnership_37 rfl (lv_at hl 1 rfl) ?_
  refine va_get (D := D) (ci := 8) (v := .ref pb) (C := "DiscMaker$SystemUse") (T := F_SystemUse) (N := 4) hx hb ht9 in_SystemUse hown hK hP 1 rfl rfl 0 (by decide) (ht9 _ k330) (fun _ h9 => h9) rfl d_SystemUse_addOwnership_38 ?_
  refine lv_iload_n hx hb d_SystemUse_addOwnership_41 rfl (lv_at hl 0 rfl) ?_
  refine lv_bipush (v := 12) hx hb d_SystemUse_addOwnership_42 (by decide) ?_
  refine lv_iadd hx hb d_SystemUse_addOwnership_44 ?_
  refine lv_topi (fun v13 e_v13 => ?_)
  have t_v13 : v13.toInt = r1.toInt + 12 := by rw [e_v13]; exact i_add rfl (by decide) (by omega) (by omega)
  refine lv_iload_n hx hb d_SystemUse_addOwnership_45 rfl (lv_at hl 3 rfl) ?_
  refine lv_iconst (v := 4) hx hb d_SystemUse_addOwnership_46 (by decide) ?_
  have hPc := hP.sub (ws' := [(pb, .inr (1, [.ref pq, .int L2_2])), (pq, .inl (cB, 400, .inl g_12))]) [2, 3] rfl
  have hDc := hD.sub (ws' := [(pb, .inr (1, [.ref pq, .int L2_2])), (pq, .inl (cB, 400, .inl g_12))]) [2, 3] (by decide +kernel) rfl
  have hFc := va_free (wc := [(pb, .inr (1, [.ref pq, .int L2_2])), (pq, .inl (cB, 400, .inl g_12))]) hD hS hA [2, 3] rfl
  have hkc : 0 ≤ 0 := by decide
  have hks : 0 ≤ 0 := by decide
  refine va_callv (va_runV (C := "DiscMaker$Bytes") (As := [.int v13, .int x, .int 4]) (rest := []) ⟨hx, hb, hml, hown, hts⟩ (c3_putBoth l D cB cI cJ cZ cN cF H.size pb pq 400 L2_2 g_12 v13 x 4 (by (try dsimp only); first | assumption | omega | trivial) (by (try dsimp only); first | assumption | omega | trivial) (by (try dsimp only); first | assumption | omega | trivial)) (cwV 3 hts (lg_goodV k1022 k1023 k1024 k119 kc_Bytes_putBoth) rfl rfl rfl (by decide +kernel) ⟨Nat.le_of_ble_eq_true rfl, Nat.le_of_ble_eq_true rfl⟩) ⟨fun a U g mk q => by obtain ⟨q0, q1, qP, qK, qN, qD⟩ := q; exact ⟨q0, q1, qP, va_K.moved (u := U) (U := U.calling g mk a) (Vm.Alike.refl U.vm) qK, qN.calling, qD⟩, va_recv hK hP (ci := 1) (q0 := 2) rfl rfl, fun U hU hW => ⟨rfl, by rw [hU], by rw [hU]; exact hPc, va_K.moved hW.alike hK, NN.warm hW hN, hDc.weaken (fun _ _ _ _ => trivial)⟩⟩ rfl rfl hl.1 rfl (lv_room (Nat.le_of_ble_eq_true rfl)) d_SystemUse_addOwnership_47 ⟨hkc, hks⟩) hS (fun q _ h => hFc q h) hFc (fun u t H1 locs ht hvm hp_r14 hB hz1 hk1 hS => ?_)
  obtain ⟨g_15, rfl⟩ : ∃ z, z = u := ⟨_, rfl⟩
  obtain ⟨hP1, hD1⟩ := hB
  rw [ht] at hP1
  obtain ⟨hP, hD⟩ := va_join (wr := [(en, .inl (cI, 4, .inl ef)), (u0, .inr (8, [.ref pb, .ref en, .int uc, .int uk]))]) (w1 := [(pb, .inr (1, [.ref pq, .int L2_2])), (pq, .inl (cB, 400, .inl g_15))]) hP hD [2, 3] [0, 1] rfl rfl (by decide +kernel) (by decide +kernel) hk1 hFc hP1 hD1
  clear hPc hDc hFc hP1 hD1 hk1 hz1 hkc hks
  generalize H1 = H at hP hS ⊢
  have hP : va_P D CL [(en, .inl (cI, 4, .inl ef)), (u0, .inr (8, [.ref pb, .ref en, .int uc, .int uk])), (pb, .inr (1, [.ref pq, .int L2_2])), (pq, .inl (cB, 400, .inl g_15))] H := hP
  have hD : va_D A [(en, .inl (cI, 4, .inl ef)), (u0, .inr (8, [.ref pb, .ref en, .int uc, .int uk])), (pb, .inr (1, [.ref pq, .int L2_2])), (pq, .inl (cB, 400, .inl g_15))] := hD
  refine lv_aload_n hx hb d_SystemUse_addOwnership_50 rfl (lv_at hl 1 rfl) ?_
  refine va_get (D := D) (ci := 8) (v := .ref pb) (C := "DiscMaker$SystemUse") (T := F_SystemUse) (N := 4) hx hb ht9 in_SystemUse hown hK hP 1 rfl rfl 0 (by decide) (ht9 _ k330) (fun _ h9 => h9) rfl d_SystemUse_addOwnership_51 ?_
  refine lv_iload_n hx hb d_SystemUse_addOwnership_54 rfl (lv_at hl 0 rfl) ?_
  refine lv_bipush (v := 20) hx hb d_SystemUse_addOwnership_55 (by decide) ?_
  refine lv_iadd hx hb d_SystemUse_addOwnership_57 ?_
  refine lv_topi (fun v16 e_v16 => ?_)
  have t_v16 : v16.toInt = r1.toInt + 20 := by rw [e_v16]; exact i_add rfl (by decide) (by omega) (by omega)
  refine lv_aload_n hx hb d_SystemUse_addOwnership_58 rfl (lv_at hl 2 rfl) ?_
  have hPR := RO_at hZr hS
  refine va_getN (D := D) (ci := 5) (v := .int ow) (C := "DiscMaker$Node") (T := F_Node) (N := 12) hx hb ht9 in_Node hown hK hPR 0 rfl rfl 8 (by decide) (va_Nw.use rfl (hN _ k203)) (fun _ h9 => h9) rfl d_SystemUse_addOwnership_59 ?_
  refine lv_iconst (v := 4) hx hb d_SystemUse_addOwnership_62 (by decide) ?_
  have hPc := hP.sub (ws' := [(pb, .inr (1, [.ref pq, .int L2_2])), (pq, .inl (cB, 400, .inl g_15))]) [2, 3] rfl
  have hDc := hD.sub (ws' := [(pb, .inr (1, [.ref pq, .int L2_2])), (pq, .inl (cB, 400, .inl g_15))]) [2, 3] (by decide +kernel) rfl
  have hFc := va_free (wc := [(pb, .inr (1, [.ref pq, .int L2_2])), (pq, .inl (cB, 400, .inl g_15))]) hD hS hA [2, 3] rfl
  have hkc : 0 ≤ 0 := by decide
  have hks : 0 ≤ 0 := by decide
  refine va_callv (va_runV (C := "DiscMaker$Bytes") (As := [.int v16, .int ow, .int 4]) (rest := []) ⟨hx, hb, hml, hown, hts⟩ (c3_putBoth l D cB cI cJ cZ cN cF H.size pb pq 400 L2_2 g_15 v16 ow 4 (by (try dsimp only); first | assumption | omega | trivial) (by (try dsimp only); first | assumption | omega | trivial) (by (try dsimp only); first | assumption | omega | trivial)) (cwV 3 hts (lg_goodV k1022 k1023 k1024 k119 kc_Bytes_putBoth) rfl rfl rfl (by decide +kernel) ⟨Nat.le_of_ble_eq_true rfl, Nat.le_of_ble_eq_true rfl⟩) ⟨fun a U g mk q => by obtain ⟨q0, q1, qP, qK, qN, qD⟩ := q; exact ⟨q0, q1, qP, va_K.moved (u := U) (U := U.calling g mk a) (Vm.Alike.refl U.vm) qK, qN.calling, qD⟩, va_recv hK hP (ci := 1) (q0 := 2) rfl rfl, fun U hU hW => ⟨rfl, by rw [hU], by rw [hU]; exact hPc, va_K.moved hW.alike hK, NN.warm hW hN, hDc.weaken (fun _ _ _ _ => trivial)⟩⟩ rfl rfl hl.1 rfl (lv_room (Nat.le_of_ble_eq_true rfl)) d_SystemUse_addOwnership_63 ⟨hkc, hks⟩) hS (fun q _ h => hFc q h) hFc (fun u t H1 locs ht hvm hp_r17 hB hz1 hk1 hS => ?_)
  obtain ⟨g_18, rfl⟩ : ∃ z, z = u := ⟨_, rfl⟩
  obtain ⟨hP1, hD1⟩ := hB
  rw [ht] at hP1
  obtain ⟨hP, hD⟩ := va_join (wr := [(en, .inl (cI, 4, .inl ef)), (u0, .inr (8, [.ref pb, .ref en, .int uc, .int uk]))]) (w1 := [(pb, .inr (1, [.ref pq, .int L2_2])), (pq, .inl (cB, 400, .inl g_18))]) hP hD [2, 3] [0, 1] rfl rfl (by decide +kernel) (by decide +kernel) hk1 hFc hP1 hD1
  clear hPc hDc hFc hP1 hD1 hk1 hz1 hkc hks
  generalize H1 = H at hP hS ⊢
  have hP : va_P D CL [(en, .inl (cI, 4, .inl ef)), (u0, .inr (8, [.ref pb, .ref en, .int uc, .int uk])), (pb, .inr (1, [.ref pq, .int L2_2])), (pq, .inl (cB, 400, .inl g_18))] H := hP
  have hD : va_D A [(en, .inl (cI, 4, .inl ef)), (u0, .inr (8, [.ref pb, .ref en, .int uc, .int uk])), (pb, .inr (1, [.ref pq, .int L2_2])), (pq, .inl (cB, 400, .inl g_18))] := hD
  refine lv_aload_n hx hb d_SystemUse_addOwnership_66 rfl (lv_at hl 1 rfl) ?_
  refine va_get (D := D) (ci := 8) (v := .ref pb) (C := "DiscMaker$SystemUse") (T := F_SystemUse) (N := 4) hx hb ht9 in_SystemUse hown hK hP 1 rfl rfl 0 (by decide) (ht9 _ k330) (fun _ h9 => h9) rfl d_SystemUse_addOwnership_67 ?_
  refine lv_iload_n hx hb d_SystemUse_addOwnership_70 rfl (lv_at hl 0 rfl) ?_
  refine lv_bipush (v := 28) hx hb d_SystemUse_addOwnership_71 (by decide) ?_
  refine lv_iadd hx hb d_SystemUse_addOwnership_73 ?_
  refine lv_topi (fun v19 e_v19 => ?_)
  have t_v19 : v19.toInt = r1.toInt + 28 := by rw [e_v19]; exact i_add rfl (by decide) (by omega) (by omega)
  refine lv_aload_n hx hb d_SystemUse_addOwnership_74 rfl (lv_at hl 2 rfl) ?_
  have hPR := RO_at hZr hS
  refine va_getN (D := D) (ci := 5) (v := .int gr) (C := "DiscMaker$Node") (T := F_Node) (N := 12) hx hb ht9 in_Node hown hK hPR 0 rfl rfl 9 (by decide) (va_Nw.use rfl (hN _ k205)) (fun _ h9 => h9) rfl d_SystemUse_addOwnership_75 ?_
  refine lv_iconst (v := 4) hx hb d_SystemUse_addOwnership_78 (by decide) ?_
  have hPc := hP.sub (ws' := [(pb, .inr (1, [.ref pq, .int L2_2])), (pq, .inl (cB, 400, .inl g_18))]) [2, 3] rfl
  have hDc := hD.sub (ws' := [(pb, .inr (1, [.ref pq, .int L2_2])), (pq, .inl (cB, 400, .inl g_18))]) [2, 3] (by decide +kernel) rfl
  have hFc := va_free (wc := [(pb, .inr (1, [.ref pq, .int L2_2])), (pq, .inl (cB, 400, .inl g_18))]) hD hS hA [2, 3] rfl
  have hkc : 0 ≤ 0 := by decide
  have hks : 0 ≤ 0 := by decide
  refine va_callv (va_runV (C := "DiscMaker$Bytes") (As := [.int v19, .int gr, .int 4]) (rest := []) ⟨hx, hb, hml, hown, hts⟩ (c3_putBoth l D cB cI cJ cZ cN cF H.size pb pq 400 L2_2 g_18 v19 gr 4 (by (try dsimp only); first | assumption | omega | trivial) (by (try dsimp only); first | assumption | omega | trivial) (by (try dsimp only); first | assumption | omega | trivial)) (cwV 3 hts (lg_goodV k1022 k1023 k1024 k119 kc_Bytes_putBoth) rfl rfl rfl (by decide +kernel) ⟨Nat.le_of_ble_eq_true rfl, Nat.le_of_ble_eq_true rfl⟩) ⟨fun a U g mk q => by obtain ⟨q0, q1, qP, qK, qN, qD⟩ := q; exact ⟨q0, q1, qP, va_K.moved (u := U) (U := U.calling g mk a) (Vm.Alike.refl U.vm) qK, qN.calling, qD⟩, va_recv hK hP (ci := 1) (q0 := 2) rfl rfl, fun U hU hW => ⟨rfl, by rw [hU], by rw [hU]; exact hPc, va_K.moved hW.alike hK, NN.warm hW hN, hDc.weaken (fun _ _ _ _ => trivial)⟩⟩ rfl rfl hl.1 rfl (lv_room (Nat.le_of_ble_eq_true rfl)) d_SystemUse_addOwnership_79 ⟨hkc, hks⟩) hS (fun q _ h => hFc q h) hFc (fun u t H1 locs ht hvm hp_r20 hB hz1 hk1 hS => ?_)
  obtain ⟨g_21, rfl⟩ : ∃ z, z = u := ⟨_, rfl⟩
  obtain ⟨hP1, hD1⟩ := hB
  rw [ht] at hP1
  obtain ⟨hP, hD⟩ := va_join (wr := [(en, .inl (cI, 4, .inl ef)), (u0, .inr (8, [.ref pb, .ref en, .int uc, .int uk]))]) (w1 := [(pb, .inr (1, [.ref pq, .int L2_2])), (pq, .inl (cB, 400, .inl g_21))]) hP hD [2, 3] [0, 1] rfl rfl (by decide +kernel) (by decide +kernel) hk1 hFc hP1 hD1
  clear hPc hDc hFc hP1 hD1 hk1 hz1 hkc hks
  generalize H1 = H at hP hS ⊢
  have hP : va_P D CL [(en, .inl (cI, 4, .inl ef)), (u0, .inr (8, [.ref pb, .ref en, .int uc, .int uk])), (pb, .inr (1, [.ref pq, .int L2_2])), (pq, .inl (cB, 400, .inl g_21))] H := hP
  have hD : va_D A [(en, .inl (cI, 4, .inl ef)), (u0, .inr (8, [.ref pb, .ref en, .int uc, .int uk])), (pb, .inr (1, [.ref pq, .int L2_2])), (pq, .inl (cB, 400, .inl g_21))] := hD
  refine lv_aload_n hx hb d_SystemUse_addOwnership_82 rfl (lv_at hl 1 rfl) ?_
  refine lv_iload_n hx hb d_SystemUse_addOwnership_83 rfl (lv_at hl 0 rfl) ?_
  have hPc := hP.sub (ws' := [(u0, .inr (8, [.ref pb, .ref en, .int uc, .int uk])), (pb, .inr (1, [.ref pq, .int L2_2])), (pq, .inl (cB, 400, .inl g_21)), (en, .inl (cI, 4, .inl ef))]) [1, 2, 3, 0] rfl
  have hDc := hD.sub (ws' := [(u0, .inr (8, [.ref pb, .ref en, .int uc, .int uk])), (pb, .inr (1, [.ref pq, .int L2_2])), (pq, .inl (cB, 400, .inl g_21)), (en, .inl (cI, 4, .inl ef))]) [1, 2, 3, 0] (by decide +kernel) rfl
  have hFc := va_free (wc := [(u0, .inr (8, [.ref pb, .ref en, .int uc, .int uk])), (pb, .inr (1, [.ref pq, .int L2_2])), (pq, .inl (cB, 400, .inl g_21)), (en, .inl (cI, 4, .inl ef))]) hD hS hA [1, 2, 3, 0] rfl
  have hkc : 0 ≤ 0 := by decide
  have hks : 0 ≤ 0 := by decide
  refine va_callv (va_runV (C := "DiscMaker$SystemUse") (As := [.int r1]) (rest := []) ⟨hx, hb, hml, hown, hts⟩ (c3_close l D cB cI cJ cZ cN cF H.size u0 pb pq en uc uk L2_2 g_21 ef r1 (by (try dsimp only); first | assumption | omega | trivial) (by (try dsimp only); first | assumption | omega | trivial) (EnOK_mono hen (by omega)) (by (try dsimp only); first | assumption | omega | trivial)) (cwV 1 hts (lg_goodV k922 k924 k11 k122 kc_SystemUse_close) rfl rfl rfl (by decide +kernel) ⟨Nat.le_of_ble_eq_true rfl, Nat.le_of_ble_eq_true rfl⟩) ⟨fun a U g mk q => by obtain ⟨q0, q1, qP, qK, qN, qD⟩ := q; exact ⟨q0, q1, qP, va_K.moved (u := U) (U := U.calling g mk a) (Vm.Alike.refl U.vm) qK, qN.calling, qD⟩, va_recv hK hP (ci := 8) (q0 := 1) rfl rfl, fun U hU hW => ⟨rfl, by rw [hU], by rw [hU]; exact hPc, va_K.moved hW.alike hK, NN.warm hW hN, hDc.weaken (fun _ _ _ _ => trivial)⟩⟩ rfl rfl hl.1 rfl (lv_room (Nat.le_of_ble_eq_true rfl)) d_SystemUse_addOwnership_84 ⟨hkc, hks⟩) hS (fun q _ h => hFc q h) hFc (fun u t H1 locs ht hvm hp_r22 hB hz1 hk1 hS => ?_)
  obtain ⟨uc2_23, g_24, ef2_25⟩ := u
  obtain ⟨hP1, hD1⟩ := hB
  rw [ht] at hP1
  obtain ⟨hP, hD⟩ := va_join (wr := []) (w1 := [(u0, .inr (8, [.ref pb, .ref en, .int uc2_23, .int uk])), (pb, .inr (1, [.ref pq, .int L2_2])), (pq, .inl (cB, 400, .inl g_24)), (en, .inl (cI, 4, .inl ef2_25))]) hP hD [1, 2, 3, 0] [] rfl rfl (by decide +kernel) (by decide +kernel) hk1 hFc hP1 hD1
  clear hPc hDc hFc hP1 hD1 hk1 hz1 hkc hks
  generalize H1 = H at hP hS ⊢
  have hP : va_P D CL [(u0, .inr (8, [.ref pb, .ref en, .int uc2_23, .int uk])), (pb, .inr (1, [.ref pq, .int L2_2])), (pq, .inl (cB, 400, .inl g_24)), (en, .inl (cI, 4, .inl ef2_25))] H := hP
  have hD : va_D A [(u0, .inr (8, [.ref pb, .ref en, .int uc2_23, .int uk])), (pb, .inr (1, [.ref pq, .int L2_2])), (pq, .inl (cB, 400, .inl g_24)), (en, .inl (cI, 4, .inl ef2_25))] := hD
  try dsimp only at hp_r22
  obtain ⟨huc2_26, hen2_27⟩ := hp_r22
  have hP9 := hP.sub (ws' := [(u0, .inr (8, [.ref pb, .ref en, .int uc2_23, .int uk])), (pb, .inr (1, [.ref pq, .int L2_2])), (pq, .inl (cB, 400, .inl g_24)), (en, .inl (cI, 4, .inl ef2_25))]) [0, 1, 2, 3] rfl
  have hD9 := hD.sub (ws' := [(u0, .inr (8, [.ref pb, .ref en, .int uc2_23, .int uk])), (pb, .inr (1, [.ref pq, .int L2_2])), (pq, .inl (cB, 400, .inl g_24)), (en, .inl (cI, 4, .inl ef2_25))]) [0, 1, 2, 3] (by decide +kernel) rfl
  exact W.vret hx hb hr (fun t ht hW => ⟨⟨(uc2_23, L2_2, g_24, ef2_25), rfl, ⟨(by (try dsimp only); first | assumption | omega | trivial), (by (try dsimp only); first | assumption | omega | trivial), hen2_27⟩, by rw [ht]; exact hP9, hD9⟩, hS.F ht⟩) hS.2.2 d_SystemUse_addOwnership_87

theorem d_SystemUse_addName_0 : decode b_SystemUse_addName 0 = .ok (.aload_n 0, 1) := by decide +kernel
theorem d_SystemUse_addName_1 : decode b_SystemUse_addName 1 = .ok (.sipush 20045, 3) := by decide +kernel
theorem d_SystemUse_addName_4 : decode b_SystemUse_addName 4 = .ok (.iconst 5, 1) := by decide +kernel
theorem d_SystemUse_addName_5 : decode b_SystemUse_addName 5 = .ok (.aload_n 1, 1) := by decide +kernel
theorem d_SystemUse_addName_6 : decode b_SystemUse_addName 6 = .ok (.arraylength, 1) := by decide +kernel
theorem d_SystemUse_addName_7 : decode b_SystemUse_addName 7 = .ok (.iadd, 1) := by decide +kernel
theorem d_SystemUse_addName_8 : decode b_SystemUse_addName 8 = .ok (.invokevirtual 37, 3) := by decide +kernel
theorem d_SystemUse_addName_11 : decode b_SystemUse_addName 11 = .ok (.istore_n 2, 1) := by decide +kernel
theorem d_SystemUse_addName_12 : decode b_SystemUse_addName 12 = .ok (.aload_n 0, 1) := by decide +kernel
theorem d_SystemUse_addName_13 : decode b_SystemUse_addName 13 = .ok (.getfield 16, 3) := by decide +kernel
theorem d_SystemUse_addName_16 : decode b_SystemUse_addName 16 = .ok (.iload_n 2, 1) := by decide +kernel
theorem d_SystemUse_addName_17 : decode b_SystemUse_addName 17 = .ok (.iconst 5, 1) := by decide +kernel
theorem d_SystemUse_addName_18 : decode b_SystemUse_addName 18 = .ok (.iadd, 1) := by decide +kernel
theorem d_SystemUse_addName_19 : decode b_SystemUse_addName 19 = .ok (.aload_n 1, 1) := by decide +kernel
theorem d_SystemUse_addName_20 : decode b_SystemUse_addName 20 = .ok (.invokevirtual 70, 3) := by decide +kernel
theorem d_SystemUse_addName_23 : decode b_SystemUse_addName 23 = .ok (.aload_n 0, 1) := by decide +kernel
theorem d_SystemUse_addName_24 : decode b_SystemUse_addName 24 = .ok (.iload_n 2, 1) := by decide +kernel
theorem d_SystemUse_addName_25 : decode b_SystemUse_addName 25 = .ok (.invokevirtual 45, 3) := by decide +kernel
theorem d_SystemUse_addName_28 : decode b_SystemUse_addName 28 = .ok (.return_, 1) := by decide +kernel
set_option maxHeartbeats 4000000 in
set_option maxRecDepth 100000 in
theorem c3_addName (l : Launch) (D : va_G) (cB cI cJ cZ cN cF : ClassId) (sz : Nat) (u0 : Nat) (pb : Nat) (pq : Nat) (en : Nat) (uc : Int32) (uk : Int32) (pL : Int32) (pf : Nat → Int32) (ef : Nat → Int32) (tt : Nat) (nt : Nat) (gv : Nat → Int32) (hPL : 0 ≤ pL.toInt ∧ pL.toInt ≤ 400) (huc : 0 ≤ uc.toInt ∧ uc.toInt ≤ 4) (hen : EnOK uc.toInt pL.toInt ef) (hnt : nt ≤ 400) : Met l y_SystemUse_addName w_SystemUse_addName ({ frames := 2, cells := 0, slots := 0, locals := 58 }) (va_Pc [.ref u0, .ref tt] (fun U => U.heap.size = sz ∧ va_P D CL [(u0, .inr (8, [.ref pb, .ref en, .int uc, .int uk])), (pb, .inr (1, [.ref pq, .int pL])), (pq, .inl (cB, 400, .inl pf)), (en, .inl (cI, 4, .inl ef))] U.heap ∧ va_K D CL (TY cB cI cJ cZ cN cF) U ∧ NN U ∧ va_D (fun _ => True) [(u0, .inr (8, [.ref pb, .ref en, .int uc, .int uk])), (pb, .inr (1, [.ref pq, .int pL])), (pq, .inl (cB, 400, .inl pf)), (en, .inl (cI, 4, .inl ef))] ∧ RO D [(tt, .inl (cB, nt, .inl gv))] (va_A [(u0, .inr (8, [.ref pb, .ref en, .int uc, .int uk])), (pb, .inr (1, [.ref pq, .int pL])), (pq, .inl (cB, 400, .inl pf)), (en, .inl (cI, 4, .inl ef))] sz) U U.heap)) (va_Qv (fun (u : Int32 × Int32 × (Nat → Int32) × (Nat → Int32)) => match u with | (uc2, L2, g, ef2) => (pL.toInt ≤ L2.toInt ∧ L2.toInt ≤ 400) ∧ (0 ≤ uc2.toInt ∧ uc2.toInt ≤ 4) ∧ (EnOK uc2.toInt L2.toInt ef2)) (fun (u : Int32 × Int32 × (Nat → Int32) × (Nat → Int32)) (t : State) => match u with | (uc2, L2, g, ef2) => va_P D CL [(u0, .inr (8, [.ref pb, .ref en, .int uc2, .int uk])), (pb, .inr (1, [.ref pq, .int L2])), (pq, .inl (cB, 400, .inl g)), (en, .inl (cI, 4, .inl ef2))] t.heap ∧ va_D (va_A [(u0, .inr (8, [.ref pb, .ref en, .int uc, .int uk])), (pb, .inr (1, [.ref pq, .int pL])), (pq, .inl (cB, 400, .inl pf)), (en, .inl (cI, 4, .inl ef))] sz) [(u0, .inr (8, [.ref pb, .ref en, .int uc2, .int uk])), (pb, .inr (1, [.ref pq, .int L2])), (pq, .inl (cB, 400, .inl g)), (en, .inl (cI, 4, .inl ef2))]) (va_A [(u0, .inr (8, [.ref pb, .ref en, .int uc, .int uk])), (pb, .inr (1, [.ref pq, .int pL])), (pq, .inl (cB, 400, .inl pf)), (en, .inl (cI, 4, .inl ef))] sz)) 0 0 (va_A [(u0, .inr (8, [.ref pb, .ref en, .int uc, .int uk])), (pb, .inr (1, [.ref pq, .int pL])), (pq, .inl (cB, 400, .inl pf)), (en, .inl (cI, 4, .inl ef))] sz) := by
  refine Met.ofW (cc := b_SystemUse_addName) (maxL := 3) (ret := none) (by decide +kernel) rfl ?_
  intro p e s m args below meth c s₁ B hml hv
  obtain ⟨rfl, hsz, hP, hK, hN, hD0, hZr⟩ := hv
  have hx := B.exec
  have hb := B.bytes
  have hr := B.returns
  have hts := atoms_spec (ws := w_SystemUse_addName) B.pre
  have ht9 := fun (w : Cond) (h : w ∈ lw_g) => hts w (List.mem_cons_of_mem _ h)
  have hown : s.vm.findClass "DiscMaker$SystemUse" = some m.cls := findClass_of_methodNamed B.named
  have hlocks := B.notSynchronized
  subst hsz
  have hD := hD0.self (sz := s.heap.size)
  generalize hAe : va_A [(u0, .inr (8, [.ref pb, .ref en, .int uc, .int uk])), (pb, .inr (1, [.ref pq, .int pL])), (pq, .inl (cB, 400, .inl pf)), (en, .inl (cI, 4, .inl ef))] s.heap.size = A at hD hZr ⊢
  have hA : ∀ q : Nat, s.heap.size ≤ q → A q := fun q h => by rw [← hAe]; exact Or.inr h
  have hS : va_S A s.heap s.heap [] := va_S.rf
  have hP : va_P D CL [(u0, .inr (8, [.ref pb, .ref en, .int uc, .int uk])), (pb, .inr (1, [.ref pq, .int pL])), (pq, .inl (cB, 400, .inl pf)), (en, .inl (cI, 4, .inl ef))] s.heap := hP
  have hl := lv_entry [.ref u0, .ref tt] (n := 3) (Nat.le_of_ble_eq_true rfl)
  rw [lg_entry_eq]
  generalize (lg_sl [.ref u0, .ref tt] ++ List.replicate (3 - (lg_sl [.ref u0, .ref tt]).length) Slot.unset).toArray = ls at hl ⊢
  have hl : lv_has ls 3 [(0, .ref u0), (1, .ref tt)] := hl
  have L_m1 : ((-1) : Int32).toInt = (-1) := by decide
  have L_0 : (0 : Int32).toInt = 0 := by decide
  have L_1 : (1 : Int32).toInt = 1 := by decide
  have L_5 : (5 : Int32).toInt = 5 := by decide
  have L_20045 : (20045 : Int32).toInt = 20045 := by decide
  refine lv_aload_n hx hb d_SystemUse_addName_0 rfl (lv_at hl 0 rfl) ?_
  refine lv_sipush (v := 20045) hx hb d_SystemUse_addName_1 (by decide) ?_
  refine lv_iconst (v := 5) hx hb d_SystemUse_addName_4 (by decide) ?_
  refine lv_aload_n hx hb d_SystemUse_addName_5 rfl (lv_at hl 1 rfl) ?_
  have hPR := RO_at hZr hS
  refine va_alen (v := nI nt) hx hb hK hPR 0 0 rfl rfl rfl d_SystemUse_addName_6 ?_
  refine lv_topi (fun v1 e_v1 => ?_)
  have t_v1 : v1.toInt = nt := by rw [e_v1]; exact nI_toInt (by omega)
  refine lv_iadd hx hb d_SystemUse_addName_7 ?_
  refine lv_topi (fun v2 e_v2 => ?_)
  have t_v2 : v2.toInt = 5 + v1.toInt := by rw [e_v2]; exact i_add (by decide) rfl (by omega) (by omega)
  have hPc := hP.sub (ws' := [(u0, .inr (8, [.ref pb, .ref en, .int uc, .int uk])), (pb, .inr (1, [.ref pq, .int pL])), (pq, .inl (cB, 400, .inl pf))]) [0, 1, 2] rfl
  have hDc := hD.sub (ws' := [(u0, .inr (8, [.ref pb, .ref en, .int uc, .int uk])), (pb, .inr (1, [.ref pq, .int pL])), (pq, .inl (cB, 400, .inl pf))]) [0, 1, 2] (by decide +kernel) rfl
  have hFc := va_free (wc := [(u0, .inr (8, [.ref pb, .ref en, .int uc, .int uk])), (pb, .inr (1, [.ref pq, .int pL])), (pq, .inl (cB, 400, .inl pf))]) hD hS hA [0, 1, 2] rfl
  have hkc : 0 ≤ 0 := by decide
  have hks : 0 ≤ 0 := by decide
  refine va_calli (va_runV (C := "DiscMaker$SystemUse") (As := [.int 20045, .int v2]) (rest := []) ⟨hx, hb, hml, hown, hts⟩ (c3_use_open l D cB cI cJ cZ cN cF s.heap.size u0 pb pq en uc uk pL pf 20045 v2 (by (try dsimp only); first | assumption | omega | trivial) (by (try dsimp only); first | assumption | omega | trivial)) (cwV 2 hts (lg_goodV k903 k905 k9 k122 kc_SystemUse_open) rfl rfl rfl (by decide +kernel) ⟨Nat.le_of_ble_eq_true rfl, Nat.le_of_ble_eq_true rfl⟩) ⟨fun a U g mk q => by obtain ⟨q0, q1, qP, qK, qN, qD⟩ := q; exact ⟨q0, q1, qP, va_K.moved (u := U) (U := U.calling g mk a) (Vm.Alike.refl U.vm) qK, qN.calling, qD⟩, va_recv hK hP (ci := 8) (q0 := 0) rfl rfl, fun U hU hW => ⟨rfl, by rw [hU], by rw [hU]; exact hPc, va_K.moved hW.alike hK, NN.warm hW hN, hDc.weaken (fun _ _ _ _ => trivial)⟩⟩ rfl rfl hl.1 rfl (lv_room (Nat.le_of_ble_eq_true rfl)) d_SystemUse_addName_8 ⟨hkc, hks⟩) hS (fun q _ h => hFc q h) hFc (fun r3 u t H1 locs ht hvm hp_r3 hB hz1 hk1 hS => ?_)
  obtain ⟨L2_4, g_5⟩ := u
  obtain ⟨hP1, hD1⟩ := hB
  rw [ht] at hP1
  obtain ⟨hP, hD⟩ := va_join (wr := [(en, .inl (cI, 4, .inl ef))]) (w1 := [(u0, .inr (8, [.ref pb, .ref en, .int uc, .int uk])), (pb, .inr (1, [.ref pq, .int L2_4])), (pq, .inl (cB, 400, .inl g_5))]) hP hD [0, 1, 2] [3] rfl rfl (by decide +kernel) (by decide +kernel) hk1 hFc hP1 hD1
  clear hPc hDc hFc hP1 hD1 hk1 hz1 hkc hks
  generalize H1 = H at hP hS ⊢
  have hP : va_P D CL [(en, .inl (cI, 4, .inl ef)), (u0, .inr (8, [.ref pb, .ref en, .int uc, .int uk])), (pb, .inr (1, [.ref pq, .int L2_4])), (pq, .inl (cB, 400, .inl g_5))] H := hP
  have hD : va_D A [(en, .inl (cI, 4, .inl ef)), (u0, .inr (8, [.ref pb, .ref en, .int uc, .int uk])), (pb, .inr (1, [.ref pq, .int L2_4])), (pq, .inl (cB, 400, .inl g_5))] := hD
  try dsimp only at hp_r3
  obtain ⟨hL2_6, hr_7, hS9_8⟩ := hp_r3
  refine lv_istore_n hx hb d_SystemUse_addName_11 rfl hl (by decide) rfl (fun ls hl => ?_)
  have hl : lv_has ls 3 [(2, .int r3), (0, .ref u0), (1, .ref tt)] := hl
  refine lv_aload_n hx hb d_SystemUse_addName_12 rfl (lv_at hl 1 rfl) ?_
  refine va_get (D := D) (ci := 8) (v := .ref pb) (C := "DiscMaker$SystemUse") (T := F_SystemUse) (N := 4) hx hb ht9 in_SystemUse hown hK hP 1 rfl rfl 0 (by decide) (ht9 _ k330) (fun _ h9 => h9) rfl d_SystemUse_addName_13 ?_
  refine lv_iload_n hx hb d_SystemUse_addName_16 rfl (lv_at hl 0 rfl) ?_
  refine lv_iconst (v := 5) hx hb d_SystemUse_addName_17 (by decide) ?_
  refine lv_iadd hx hb d_SystemUse_addName_18 ?_
  refine lv_topi (fun v9 e_v9 => ?_)
  have t_v9 : v9.toInt = r3.toInt + 5 := by rw [e_v9]; exact i_add rfl (by decide) (by omega) (by omega)
  refine lv_aload_n hx hb d_SystemUse_addName_19 rfl (lv_at hl 2 rfl) ?_
  have hPc := hP.sub (ws' := [(pb, .inr (1, [.ref pq, .int L2_4])), (pq, .inl (cB, 400, .inl g_5))]) [2, 3] rfl
  have hDc := hD.sub (ws' := [(pb, .inr (1, [.ref pq, .int L2_4])), (pq, .inl (cB, 400, .inl g_5))]) [2, 3] (by decide +kernel) rfl
  have hFc := va_free (wc := [(pb, .inr (1, [.ref pq, .int L2_4])), (pq, .inl (cB, 400, .inl g_5))]) hD hS hA [2, 3] rfl
  have hkc : 0 ≤ 0 := by decide
  have hks : 0 ≤ 0 := by decide
  refine va_callv (va_runV (C := "DiscMaker$Bytes") (As := [.int v9, .ref tt]) (rest := []) ⟨hx, hb, hml, hown, hts⟩ (c3_putRow l D cB cI cJ cZ cN cF H.size pb pq 400 L2_4 g_5 tt nt gv v9 (by (try dsimp only); first | assumption | omega | trivial) (by (try dsimp only); first | assumption | omega | trivial) (by (try dsimp only); first | assumption | omega | trivial)) (cwV 2 hts (lg_goodV k1030 k1031 k1032 k119 kc_Bytes_putRow) rfl rfl rfl (by decide +kernel) ⟨Nat.le_of_ble_eq_true rfl, Nat.le_of_ble_eq_true rfl⟩) ⟨fun a U g mk q => by obtain ⟨q0, q1, qP, qK, qN, qD, qZ0⟩ := q; exact ⟨q0, q1, qP, va_K.moved (u := U) (U := U.calling g mk a) (Vm.Alike.refl U.vm) qK, qN.calling, qD, RO_blind qZ0⟩, va_recv hK hP (ci := 1) (q0 := 2) rfl rfl, fun U hU hW => ⟨rfl, by rw [hU], by rw [hU]; exact hPc, va_K.moved hW.alike hK, NN.warm hW hN, hDc.weaken (fun _ _ _ _ => trivial), (RO_pass (RO_one hZr 0 rfl) hS hFc hU)⟩⟩ rfl rfl hl.1 rfl (lv_room (Nat.le_of_ble_eq_true rfl)) d_SystemUse_addName_20 ⟨hkc, hks⟩) hS (fun q _ h => hFc q h) hFc (fun u t H1 locs ht hvm hp_r10 hB hz1 hk1 hS => ?_)
  obtain ⟨g_11, rfl⟩ : ∃ z, z = u := ⟨_, rfl⟩
  obtain ⟨hP1, hD1⟩ := hB
  rw [ht] at hP1
  obtain ⟨hP, hD⟩ := va_join (wr := [(en, .inl (cI, 4, .inl ef)), (u0, .inr (8, [.ref pb, .ref en, .int uc, .int uk]))]) (w1 := [(pb, .inr (1, [.ref pq, .int L2_4])), (pq, .inl (cB, 400, .inl g_11))]) hP hD [2, 3] [0, 1] rfl rfl (by decide +kernel) (by decide +kernel) hk1 hFc hP1 hD1
  clear hPc hDc hFc hP1 hD1 hk1 hz1 hkc hks
  generalize H1 = H at hP hS ⊢
  have hP : va_P D CL [(en, .inl (cI, 4, .inl ef)), (u0, .inr (8, [.ref pb, .ref en, .int uc, .int uk])), (pb, .inr (1, [.ref pq, .int L2_4])), (pq, .inl (cB, 400, .inl g_11))] H := hP
  have hD : va_D A [(en, .inl (cI, 4, .inl ef)), (u0, .inr (8, [.ref pb, .ref en, .int uc, .int uk])), (pb, .inr (1, [.ref pq, .int L2_4])), (pq, .inl (cB, 400, .inl g_11))] := hD
  refine lv_aload_n hx hb d_SystemUse_addName_23 rfl (lv_at hl 1 rfl) ?_
  refine lv_iload_n hx hb d_SystemUse_addName_24 rfl (lv_at hl 0 rfl) ?_
  have hPc := hP.sub (ws' := [(u0, .inr (8, [.ref pb, .ref en, .int uc, .int uk])), (pb, .inr (1, [.ref pq, .int L2_4])), (pq, .inl (cB, 400, .inl g_11)), (en, .inl (cI, 4, .inl ef))]) [1, 2, 3, 0] rfl
  have hDc := hD.sub (ws' := [(u0, .inr (8, [.ref pb, .ref en, .int uc, .int uk])), (pb, .inr (1, [.ref pq, .int L2_4])), (pq, .inl (cB, 400, .inl g_11)), (en, .inl (cI, 4, .inl ef))]) [1, 2, 3, 0] (by decide +kernel) rfl
  have hFc := va_free (wc := [(u0, .inr (8, [.ref pb, .ref en, .int uc, .int uk])), (pb, .inr (1, [.ref pq, .int L2_4])), (pq, .inl (cB, 400, .inl g_11)), (en, .inl (cI, 4, .inl ef))]) hD hS hA [1, 2, 3, 0] rfl
  have hkc : 0 ≤ 0 := by decide
  have hks : 0 ≤ 0 := by decide
  refine va_callv (va_runV (C := "DiscMaker$SystemUse") (As := [.int r3]) (rest := []) ⟨hx, hb, hml, hown, hts⟩ (c3_close l D cB cI cJ cZ cN cF H.size u0 pb pq en uc uk L2_4 g_11 ef r3 (by (try dsimp only); first | assumption | omega | trivial) (by (try dsimp only); first | assumption | omega | trivial) (EnOK_mono hen (by omega)) (by (try dsimp only); first | assumption | omega | trivial)) (cwV 1 hts (lg_goodV k922 k924 k11 k122 kc_SystemUse_close) rfl rfl rfl (by decide +kernel) ⟨Nat.le_of_ble_eq_true rfl, Nat.le_of_ble_eq_true rfl⟩) ⟨fun a U g mk q => by obtain ⟨q0, q1, qP, qK, qN, qD⟩ := q; exact ⟨q0, q1, qP, va_K.moved (u := U) (U := U.calling g mk a) (Vm.Alike.refl U.vm) qK, qN.calling, qD⟩, va_recv hK hP (ci := 8) (q0 := 1) rfl rfl, fun U hU hW => ⟨rfl, by rw [hU], by rw [hU]; exact hPc, va_K.moved hW.alike hK, NN.warm hW hN, hDc.weaken (fun _ _ _ _ => trivial)⟩⟩ rfl rfl hl.1 rfl (lv_room (Nat.le_of_ble_eq_true rfl)) d_SystemUse_addName_25 ⟨hkc, hks⟩) hS (fun q _ h => hFc q h) hFc (fun u t H1 locs ht hvm hp_r12 hB hz1 hk1 hS => ?_)
  obtain ⟨uc2_13, g_14, ef2_15⟩ := u
  obtain ⟨hP1, hD1⟩ := hB
  rw [ht] at hP1
  obtain ⟨hP, hD⟩ := va_join (wr := []) (w1 := [(u0, .inr (8, [.ref pb, .ref en, .int uc2_13, .int uk])), (pb, .inr (1, [.ref pq, .int L2_4])), (pq, .inl (cB, 400, .inl g_14)), (en, .inl (cI, 4, .inl ef2_15))]) hP hD [1, 2, 3, 0] [] rfl rfl (by decide +kernel) (by decide +kernel) hk1 hFc hP1 hD1
  clear hPc hDc hFc hP1 hD1 hk1 hz1 hkc hks
  generalize H1 = H at hP hS ⊢
  have hP : va_P D CL [(u0, .inr (8, [.ref pb, .ref en, .int uc2_13, .int uk])), (pb, .inr (1, [.ref pq, .int L2_4])), (pq, .inl (cB, 400, .inl g_14)), (en, .inl (cI, 4, .inl ef2_15))] H := hP
  have hD : va_D A [(u0, .inr (8, [.ref pb, .ref en, .int uc2_13, .int uk])), (pb, .inr (1, [.ref pq, .int L2_4])), (pq, .inl (cB, 400, .inl g_14)), (en, .inl (cI, 4, .inl ef2_15))] := hD
  try dsimp only at hp_r12
  obtain ⟨huc2_16, hen2_17⟩ := hp_r12
  have hP9 := hP.sub (ws' := [(u0, .inr (8, [.ref pb, .ref en, .int uc2_13, .int uk])), (pb, .inr (1, [.ref pq, .int L2_4])), (pq, .inl (cB, 400, .inl g_14)), (en, .inl (cI, 4, .inl ef2_15))]) [0, 1, 2, 3] rfl
  have hD9 := hD.sub (ws' := [(u0, .inr (8, [.ref pb, .ref en, .int uc2_13, .int uk])), (pb, .inr (1, [.ref pq, .int L2_4])), (pq, .inl (cB, 400, .inl g_14)), (en, .inl (cI, 4, .inl ef2_15))]) [0, 1, 2, 3] (by decide +kernel) rfl
  exact W.vret hx hb hr (fun t ht hW => ⟨⟨(uc2_13, L2_4, g_14, ef2_15), rfl, ⟨(by (try dsimp only); first | assumption | omega | trivial), (by (try dsimp only); first | assumption | omega | trivial), hen2_17⟩, by rw [ht]; exact hP9, hD9⟩, hS.F ht⟩) hS.2.2 d_SystemUse_addName_28

theorem d_SystemUse_marksOf_0 : decode b_SystemUse_marksOf 0 = .ok (.aload_n 0, 1) := by decide +kernel
theorem d_SystemUse_marksOf_1 : decode b_SystemUse_marksOf 1 = .ok (.iload_n 1, 1) := by decide +kernel
theorem d_SystemUse_marksOf_2 : decode b_SystemUse_marksOf 2 = .ok (.baload, 1) := by decide +kernel
theorem d_SystemUse_marksOf_3 : decode b_SystemUse_marksOf 3 = .ok (.bipush 46, 2) := by decide +kernel
theorem d_SystemUse_marksOf_5 : decode b_SystemUse_marksOf 5 = .ok (.if_icmp .ne 10, 3) := by decide +kernel
theorem d_SystemUse_marksOf_8 : decode b_SystemUse_marksOf 8 = .ok (.iload_n 2, 1) := by decide +kernel
theorem d_SystemUse_marksOf_9 : decode b_SystemUse_marksOf 9 = .ok (.iload_n 1, 1) := by decide +kernel
theorem d_SystemUse_marksOf_10 : decode b_SystemUse_marksOf 10 = .ok (.isub, 1) := by decide +kernel
theorem d_SystemUse_marksOf_11 : decode b_SystemUse_marksOf 11 = .ok (.iconst 2, 1) := by decide +kernel
theorem d_SystemUse_marksOf_12 : decode b_SystemUse_marksOf 12 = .ok (.if_icmp .le 5, 3) := by decide +kernel
theorem d_SystemUse_marksOf_15 : decode b_SystemUse_marksOf 15 = .ok (.iconst 0, 1) := by decide +kernel
theorem d_SystemUse_marksOf_16 : decode b_SystemUse_marksOf 16 = .ok (.ireturn, 1) := by decide +kernel
theorem d_SystemUse_marksOf_17 : decode b_SystemUse_marksOf 17 = .ok (.iload_n 2, 1) := by decide +kernel
theorem d_SystemUse_marksOf_18 : decode b_SystemUse_marksOf 18 = .ok (.iload_n 1, 1) := by decide +kernel
theorem d_SystemUse_marksOf_19 : decode b_SystemUse_marksOf 19 = .ok (.isub, 1) := by decide +kernel
theorem d_SystemUse_marksOf_20 : decode b_SystemUse_marksOf 20 = .ok (.iconst 1, 1) := by decide +kernel
theorem d_SystemUse_marksOf_21 : decode b_SystemUse_marksOf 21 = .ok (.if_icmp .ne 5, 3) := by decide +kernel
theorem d_SystemUse_marksOf_24 : decode b_SystemUse_marksOf 24 = .ok (.iconst 2, 1) := by decide +kernel
theorem d_SystemUse_marksOf_25 : decode b_SystemUse_marksOf 25 = .ok (.ireturn, 1) := by decide +kernel
theorem d_SystemUse_marksOf_26 : decode b_SystemUse_marksOf 26 = .ok (.aload_n 0, 1) := by decide +kernel
theorem d_SystemUse_marksOf_27 : decode b_SystemUse_marksOf 27 = .ok (.iload_n 1, 1) := by decide +kernel
theorem d_SystemUse_marksOf_28 : decode b_SystemUse_marksOf 28 = .ok (.iconst 1, 1) := by decide +kernel
theorem d_SystemUse_marksOf_29 : decode b_SystemUse_marksOf 29 = .ok (.iadd, 1) := by decide +kernel
theorem d_SystemUse_marksOf_30 : decode b_SystemUse_marksOf 30 = .ok (.baload, 1) := by decide +kernel
theorem d_SystemUse_marksOf_31 : decode b_SystemUse_marksOf 31 = .ok (.bipush 46, 2) := by decide +kernel
theorem d_SystemUse_marksOf_33 : decode b_SystemUse_marksOf 33 = .ok (.if_icmp .ne 7, 3) := by decide +kernel
theorem d_SystemUse_marksOf_36 : decode b_SystemUse_marksOf 36 = .ok (.iconst 4, 1) := by decide +kernel
theorem d_SystemUse_marksOf_37 : decode b_SystemUse_marksOf 37 = .ok (.goto 4, 3) := by decide +kernel
theorem d_SystemUse_marksOf_40 : decode b_SystemUse_marksOf 40 = .ok (.iconst 0, 1) := by decide +kernel
theorem d_SystemUse_marksOf_41 : decode b_SystemUse_marksOf 41 = .ok (.ireturn, 1) := by decide +kernel
set_option maxHeartbeats 4000000 in
set_option maxRecDepth 100000 in
theorem c3_marksOf (l : Launch) (D : va_G) (cB cI cJ cZ cN cF : ClassId) (sz : Nat) (tt : Nat) (nt : Nat) (gv : Nat → Int32) (x : Int32) (y : Int32) (hnt : nt ≤ 400) (hx : 0 ≤ x.toInt ∧ x.toInt < y.toInt ∧ y.toInt ≤ nt) : Met l y_SystemUse_marksOf w_SystemUse_marksOf ({ frames := 0, cells := 0, slots := 0, locals := 0 }) (va_Pc [.ref tt, .int x, .int y] (fun U => U.heap.size = sz ∧ va_P D CL [] U.heap ∧ va_K D CL (TY cB cI cJ cZ cN cF) U ∧ NN U ∧ va_D (fun _ => True) [] ∧ RO D [(tt, .inl (cB, nt, .inl gv))] (va_A [] sz) U U.heap)) (va_Qi (fun (r : Int32) (u : Unit) => (r.toInt = mrk gv x.toNatClampNeg y.toNatClampNeg)) (fun (u : Unit) (t : State) => match u with | () => va_P D CL [] t.heap ∧ va_D (va_A [] sz) []) (va_A [] sz)) 0 0 (va_A [] sz) := by
  refine Met.ofW (cc := b_SystemUse_marksOf) (maxL := 3) (ret := some .int) (by decide +kernel) rfl ?_
  intro p e s m args below meth c s₁ B hml hv
  obtain ⟨rfl, hsz, hP, hK, hN, hD0, hZr⟩ := hv
  have hx := B.exec
  have hb := B.bytes
  have hr := B.returns
  have hts := atoms_spec (ws := w_SystemUse_marksOf) B.pre
  have ht9 := fun (w : Cond) (h : w ∈ lw_g) => hts w (List.mem_cons_of_mem _ h)
  have hown : s.vm.findClass "DiscMaker$SystemUse" = some m.cls := findClass_of_methodNamed B.named
  have hlocks := B.notSynchronized
  subst hsz
  have hD := hD0.self (sz := s.heap.size)
  generalize hAe : va_A [] s.heap.size = A at hD hZr ⊢
  have hA : ∀ q : Nat, s.heap.size ≤ q → A q := fun q h => by rw [← hAe]; exact Or.inr h
  have hS : va_S A s.heap s.heap [] := va_S.rf
  have hP : va_P D CL [] s.heap := hP
  have hl := lv_entry [.ref tt, .int x, .int y] (n := 3) (Nat.le_of_ble_eq_true rfl)
  rw [lg_entry_eq]
  generalize (lg_sl [.ref tt, .int x, .int y] ++ List.replicate (3 - (lg_sl [.ref tt, .int x, .int y]).length) Slot.unset).toArray = ls at hl ⊢
  have hl : lv_has ls 3 [(0, .ref tt), (1, .int x), (2, .int y)] := hl
  have L_m1 : ((-1) : Int32).toInt = (-1) := by decide
  have L_0 : (0 : Int32).toInt = 0 := by decide
  have L_1 : (1 : Int32).toInt = 1 := by decide
  have L_2 : (2 : Int32).toInt = 2 := by decide
  have L_4 : (4 : Int32).toInt = 4 := by decide
  have L_46 : (46 : Int32).toInt = 46 := by decide
  refine lv_aload_n hx hb d_SystemUse_marksOf_0 rfl (lv_at hl 0 rfl) ?_
  refine lv_iload_n hx hb d_SystemUse_marksOf_1 rfl (lv_at hl 1 rfl) ?_
  have hPR := RO_at hZr hS
  refine va_bald hx hb hK hPR 0 0 rfl rfl (vp_in_iff.mpr ⟨by omega, by omega⟩) d_SystemUse_marksOf_2 ?_
  refine lv_topi (fun v1 e_v1 => ?_)
  have w_v1 : v1.toInt = (gv x.toNatClampNeg).toInt := congrArg Int32.toInt e_v1
  refine lv_bipush (v := 46) hx hb d_SystemUse_marksOf_3 (by decide) ?_
  refine lv_icmp_ne (tgt := 15) hx hb d_SystemUse_marksOf_5 (by decide) (fun h_9 => ?_) (fun h_9 => ?_)
  · skip
    have g5_5 : ¬ v1.toInt = 46 := fun h8 => h_9 ((i_eq rfl (by decide)).mpr h8)
    refine lv_iconst (v := 0) hx hb d_SystemUse_marksOf_15 (by decide) ?_
    have hP9 := hP.sub (ws' := []) [] rfl
    have hD9 := hD.sub (ws' := []) [] (by decide +kernel) rfl
    exact W.iret (v := 0) hx hb hr (fun t ht hW => ⟨⟨0, (), rfl, (by (try dsimp only); have h7 := i_cl (a := x) (by omega); have h6 := i_cl (a := y) (by omega); unfold mrk; first | (rw [if_neg (by omega)]; omega) | (rw [if_pos (by omega), if_pos (by omega)]; omega) | (rw [if_pos (by omega), if_neg (by omega), if_pos ⟨by omega, by omega⟩]; omega) | (rw [if_pos (by omega), if_neg (by omega), if_neg (fun h8 => by have h9 := h8.2; omega)]; omega) | (rw [if_pos (by omega), if_neg (by omega), if_neg (fun h8 => by have h9 := h8.1; omega)]; omega) | (by_cases hq : (gv x.toNatClampNeg).toInt = 46 <;> first | (rw [if_pos hq, if_neg (by omega), if_neg (fun h8 => by have h9 := h8.1; omega)]; omega) | (rw [if_neg hq]; omega))), by rw [ht]; exact hP9, hD9⟩, hS.F ht⟩) hS.2.2 d_SystemUse_marksOf_16
  · skip
    have g5_5 : v1.toInt = 46 := (i_eq rfl (by decide)).mp h_9
    refine lv_iload_n hx hb d_SystemUse_marksOf_8 rfl (lv_at hl 2 rfl) ?_
    refine lv_iload_n hx hb d_SystemUse_marksOf_9 rfl (lv_at hl 1 rfl) ?_
    refine lv_isub hx hb d_SystemUse_marksOf_10 ?_
    refine lv_topi (fun v2 e_v2 => ?_)
    have t_v2 : v2.toInt = y.toInt - x.toInt := by rw [e_v2]; exact i_sub rfl rfl (by omega) (by omega)
    refine lv_iconst (v := 2) hx hb d_SystemUse_marksOf_11 (by decide) ?_
    refine lv_icmp_le (tgt := 17) hx hb d_SystemUse_marksOf_12 (by decide) (fun h_9 => ?_) (fun h_9 => ?_)
    · skip
      have g12_12 : v2.toInt ≤ 2 := (i_le rfl (by decide)).mp h_9
      refine lv_iload_n hx hb d_SystemUse_marksOf_17 rfl (lv_at hl 2 rfl) ?_
      refine lv_iload_n hx hb d_SystemUse_marksOf_18 rfl (lv_at hl 1 rfl) ?_
      refine lv_isub hx hb d_SystemUse_marksOf_19 ?_
      refine lv_topi (fun v3 e_v3 => ?_)
      have t_v3 : v3.toInt = y.toInt - x.toInt := by rw [e_v3]; exact i_sub rfl rfl (by omega) (by omega)
      refine lv_iconst (v := 1) hx hb d_SystemUse_marksOf_20 (by decide) ?_
      refine lv_icmp_ne (tgt := 26) hx hb d_SystemUse_marksOf_21 (by decide) (fun h_9 => ?_) (fun h_9 => ?_)
      · skip
        have g21_17 : ¬ v3.toInt = 1 := fun h8 => h_9 ((i_eq rfl (by decide)).mpr h8)
        refine lv_aload_n hx hb d_SystemUse_marksOf_26 rfl (lv_at hl 0 rfl) ?_
        refine lv_iload_n hx hb d_SystemUse_marksOf_27 rfl (lv_at hl 1 rfl) ?_
        refine lv_iconst (v := 1) hx hb d_SystemUse_marksOf_28 (by decide) ?_
        refine lv_iadd hx hb d_SystemUse_marksOf_29 ?_
        refine lv_topi (fun v4 e_v4 => ?_)
        have t_v4 : v4.toInt = x.toInt + 1 := by rw [e_v4]; exact i_add rfl (by decide) (by omega) (by omega)
        have hPR := RO_at hZr hS
        refine va_bald hx hb hK hPR 0 0 rfl rfl (vp_in_iff.mpr ⟨by omega, by omega⟩) d_SystemUse_marksOf_30 ?_
        refine lv_topi (fun v5 e_v5 => ?_)
        have w_v5 : v5.toInt = (gv (x.toNatClampNeg + 1)).toInt := by have h7 := i_cl (a := v4) (by omega); have h6 := i_cl (a := x) (by omega); rw [e_v5, show v4.toNatClampNeg = x.toNatClampNeg + 1 by omega]
        refine lv_bipush (v := 46) hx hb d_SystemUse_marksOf_31 (by decide) ?_
        refine lv_icmp_ne (tgt := 40) hx hb d_SystemUse_marksOf_33 (by decide) (fun h_9 => ?_) (fun h_9 => ?_)
        · skip
          have g33_24 : ¬ v5.toInt = 46 := fun h8 => h_9 ((i_eq rfl (by decide)).mpr h8)
          refine lv_iconst (v := 0) hx hb d_SystemUse_marksOf_40 (by decide) ?_
          have hP9 := hP.sub (ws' := []) [] rfl
          have hD9 := hD.sub (ws' := []) [] (by decide +kernel) rfl
          exact W.iret (v := 0) hx hb hr (fun t ht hW => ⟨⟨0, (), rfl, (by (try dsimp only); have h7 := i_cl (a := x) (by omega); have h6 := i_cl (a := y) (by omega); unfold mrk; first | (rw [if_neg (by omega)]; omega) | (rw [if_pos (by omega), if_pos (by omega)]; omega) | (rw [if_pos (by omega), if_neg (by omega), if_pos ⟨by omega, by omega⟩]; omega) | (rw [if_pos (by omega), if_neg (by omega), if_neg (fun h8 => by have h9 := h8.2; omega)]; omega) | (rw [if_pos (by omega), if_neg (by omega), if_neg (fun h8 => by have h9 := h8.1; omega)]; omega) | (by_cases hq : (gv x.toNatClampNeg).toInt = 46 <;> first | (rw [if_pos hq, if_neg (by omega), if_neg (fun h8 => by have h9 := h8.1; omega)]; omega) | (rw [if_neg hq]; omega))), by rw [ht]; exact hP9, hD9⟩, hS.F ht⟩) hS.2.2 d_SystemUse_marksOf_41
        · skip
          have g33_24 : v5.toInt = 46 := (i_eq rfl (by decide)).mp h_9
          refine lv_iconst (v := 4) hx hb d_SystemUse_marksOf_36 (by decide) ?_
          refine lv_goto (tgt := 41) hx hb d_SystemUse_marksOf_37 (by decide) ?_
          have hP9 := hP.sub (ws' := []) [] rfl
          have hD9 := hD.sub (ws' := []) [] (by decide +kernel) rfl
          exact W.iret (v := 4) hx hb hr (fun t ht hW => ⟨⟨4, (), rfl, (by (try dsimp only); have h7 := i_cl (a := x) (by omega); have h6 := i_cl (a := y) (by omega); unfold mrk; first | (rw [if_neg (by omega)]; omega) | (rw [if_pos (by omega), if_pos (by omega)]; omega) | (rw [if_pos (by omega), if_neg (by omega), if_pos ⟨by omega, by omega⟩]; omega) | (rw [if_pos (by omega), if_neg (by omega), if_neg (fun h8 => by have h9 := h8.2; omega)]; omega) | (rw [if_pos (by omega), if_neg (by omega), if_neg (fun h8 => by have h9 := h8.1; omega)]; omega) | (by_cases hq : (gv x.toNatClampNeg).toInt = 46 <;> first | (rw [if_pos hq, if_neg (by omega), if_neg (fun h8 => by have h9 := h8.1; omega)]; omega) | (rw [if_neg hq]; omega))), by rw [ht]; exact hP9, hD9⟩, hS.F ht⟩) hS.2.2 d_SystemUse_marksOf_41
      · skip
        have g21_17 : v3.toInt = 1 := (i_eq rfl (by decide)).mp h_9
        refine lv_iconst (v := 2) hx hb d_SystemUse_marksOf_24 (by decide) ?_
        have hP9 := hP.sub (ws' := []) [] rfl
        have hD9 := hD.sub (ws' := []) [] (by decide +kernel) rfl
        exact W.iret (v := 2) hx hb hr (fun t ht hW => ⟨⟨2, (), rfl, (by (try dsimp only); have h7 := i_cl (a := x) (by omega); have h6 := i_cl (a := y) (by omega); unfold mrk; first | (rw [if_neg (by omega)]; omega) | (rw [if_pos (by omega), if_pos (by omega)]; omega) | (rw [if_pos (by omega), if_neg (by omega), if_pos ⟨by omega, by omega⟩]; omega) | (rw [if_pos (by omega), if_neg (by omega), if_neg (fun h8 => by have h9 := h8.2; omega)]; omega) | (rw [if_pos (by omega), if_neg (by omega), if_neg (fun h8 => by have h9 := h8.1; omega)]; omega) | (by_cases hq : (gv x.toNatClampNeg).toInt = 46 <;> first | (rw [if_pos hq, if_neg (by omega), if_neg (fun h8 => by have h9 := h8.1; omega)]; omega) | (rw [if_neg hq]; omega))), by rw [ht]; exact hP9, hD9⟩, hS.F ht⟩) hS.2.2 d_SystemUse_marksOf_25
    · skip
      have g12_12 : ¬ v2.toInt ≤ 2 := fun h8 => h_9 ((i_le rfl (by decide)).mpr h8)
      refine lv_iconst (v := 0) hx hb d_SystemUse_marksOf_15 (by decide) ?_
      have hP9 := hP.sub (ws' := []) [] rfl
      have hD9 := hD.sub (ws' := []) [] (by decide +kernel) rfl
      exact W.iret (v := 0) hx hb hr (fun t ht hW => ⟨⟨0, (), rfl, (by (try dsimp only); have h7 := i_cl (a := x) (by omega); have h6 := i_cl (a := y) (by omega); unfold mrk; first | (rw [if_neg (by omega)]; omega) | (rw [if_pos (by omega), if_pos (by omega)]; omega) | (rw [if_pos (by omega), if_neg (by omega), if_pos ⟨by omega, by omega⟩]; omega) | (rw [if_pos (by omega), if_neg (by omega), if_neg (fun h8 => by have h9 := h8.2; omega)]; omega) | (rw [if_pos (by omega), if_neg (by omega), if_neg (fun h8 => by have h9 := h8.1; omega)]; omega) | (by_cases hq : (gv x.toNatClampNeg).toInt = 46 <;> first | (rw [if_pos hq, if_neg (by omega), if_neg (fun h8 => by have h9 := h8.1; omega)]; omega) | (rw [if_neg hq]; omega))), by rw [ht]; exact hP9, hD9⟩, hS.F ht⟩) hS.2.2 d_SystemUse_marksOf_16

theorem d_SystemUse_addComponent_0 : decode b_SystemUse_addComponent 0 = .ok (.iload_n 2, 1) := by decide +kernel
theorem d_SystemUse_addComponent_1 : decode b_SystemUse_addComponent 1 = .ok (.ifCond .ne 10, 3) := by decide +kernel
theorem d_SystemUse_addComponent_4 : decode b_SystemUse_addComponent 4 = .ok (.iload 4, 2) := by decide +kernel
theorem d_SystemUse_addComponent_6 : decode b_SystemUse_addComponent 6 = .ok (.iload_n 3, 1) := by decide +kernel
theorem d_SystemUse_addComponent_7 : decode b_SystemUse_addComponent 7 = .ok (.isub, 1) := by decide +kernel
theorem d_SystemUse_addComponent_8 : decode b_SystemUse_addComponent 8 = .ok (.goto 4, 3) := by decide +kernel
theorem d_SystemUse_addComponent_11 : decode b_SystemUse_addComponent 11 = .ok (.iconst 0, 1) := by decide +kernel
theorem d_SystemUse_addComponent_12 : decode b_SystemUse_addComponent 12 = .ok (.istore 5, 2) := by decide +kernel
theorem d_SystemUse_addComponent_14 : decode b_SystemUse_addComponent 14 = .ok (.aload_n 0, 1) := by decide +kernel
theorem d_SystemUse_addComponent_15 : decode b_SystemUse_addComponent 15 = .ok (.getfield 16, 3) := by decide +kernel
theorem d_SystemUse_addComponent_18 : decode b_SystemUse_addComponent 18 = .ok (.iconst 2, 1) := by decide +kernel
theorem d_SystemUse_addComponent_19 : decode b_SystemUse_addComponent 19 = .ok (.iload 5, 2) := by decide +kernel
theorem d_SystemUse_addComponent_21 : decode b_SystemUse_addComponent 21 = .ok (.iadd, 1) := by decide +kernel
theorem d_SystemUse_addComponent_22 : decode b_SystemUse_addComponent 22 = .ok (.invokevirtual 82, 3) := by decide +kernel
theorem d_SystemUse_addComponent_25 : decode b_SystemUse_addComponent 25 = .ok (.istore 6, 2) := by decide +kernel
theorem d_SystemUse_addComponent_27 : decode b_SystemUse_addComponent 27 = .ok (.aload_n 0, 1) := by decide +kernel
theorem d_SystemUse_addComponent_28 : decode b_SystemUse_addComponent 28 = .ok (.getfield 16, 3) := by decide +kernel
theorem d_SystemUse_addComponent_31 : decode b_SystemUse_addComponent 31 = .ok (.iload 6, 2) := by decide +kernel
theorem d_SystemUse_addComponent_33 : decode b_SystemUse_addComponent 33 = .ok (.iload_n 2, 1) := by decide +kernel
theorem d_SystemUse_addComponent_34 : decode b_SystemUse_addComponent 34 = .ok (.invokevirtual 41, 3) := by decide +kernel
theorem d_SystemUse_addComponent_37 : decode b_SystemUse_addComponent 37 = .ok (.aload_n 0, 1) := by decide +kernel
theorem d_SystemUse_addComponent_38 : decode b_SystemUse_addComponent 38 = .ok (.getfield 16, 3) := by decide +kernel
theorem d_SystemUse_addComponent_41 : decode b_SystemUse_addComponent 41 = .ok (.iload 6, 2) := by decide +kernel
theorem d_SystemUse_addComponent_43 : decode b_SystemUse_addComponent 43 = .ok (.iconst 1, 1) := by decide +kernel
theorem d_SystemUse_addComponent_44 : decode b_SystemUse_addComponent 44 = .ok (.iadd, 1) := by decide +kernel
theorem d_SystemUse_addComponent_45 : decode b_SystemUse_addComponent 45 = .ok (.iload 5, 2) := by decide +kernel
theorem d_SystemUse_addComponent_47 : decode b_SystemUse_addComponent 47 = .ok (.invokevirtual 41, 3) := by decide +kernel
theorem d_SystemUse_addComponent_50 : decode b_SystemUse_addComponent 50 = .ok (.iconst 0, 1) := by decide +kernel
theorem d_SystemUse_addComponent_51 : decode b_SystemUse_addComponent 51 = .ok (.istore 7, 2) := by decide +kernel
theorem d_SystemUse_addComponent_53 : decode b_SystemUse_addComponent 53 = .ok (.iload 7, 2) := by decide +kernel
theorem d_SystemUse_addComponent_55 : decode b_SystemUse_addComponent 55 = .ok (.iload 5, 2) := by decide +kernel
theorem d_SystemUse_addComponent_57 : decode b_SystemUse_addComponent 57 = .ok (.if_icmp .ge 29, 3) := by decide +kernel
theorem d_SystemUse_addComponent_60 : decode b_SystemUse_addComponent 60 = .ok (.aload_n 0, 1) := by decide +kernel
theorem d_SystemUse_addComponent_61 : decode b_SystemUse_addComponent 61 = .ok (.getfield 16, 3) := by decide +kernel
theorem d_SystemUse_addComponent_64 : decode b_SystemUse_addComponent 64 = .ok (.iload 6, 2) := by decide +kernel
theorem d_SystemUse_addComponent_66 : decode b_SystemUse_addComponent 66 = .ok (.iconst 2, 1) := by decide +kernel
theorem d_SystemUse_addComponent_67 : decode b_SystemUse_addComponent 67 = .ok (.iadd, 1) := by decide +kernel
theorem d_SystemUse_addComponent_68 : decode b_SystemUse_addComponent 68 = .ok (.iload 7, 2) := by decide +kernel
theorem d_SystemUse_addComponent_70 : decode b_SystemUse_addComponent 70 = .ok (.iadd, 1) := by decide +kernel
theorem d_SystemUse_addComponent_71 : decode b_SystemUse_addComponent 71 = .ok (.aload_n 1, 1) := by decide +kernel
theorem d_SystemUse_addComponent_72 : decode b_SystemUse_addComponent 72 = .ok (.iload_n 3, 1) := by decide +kernel
theorem d_SystemUse_addComponent_73 : decode b_SystemUse_addComponent 73 = .ok (.iload 7, 2) := by decide +kernel
theorem d_SystemUse_addComponent_75 : decode b_SystemUse_addComponent 75 = .ok (.iadd, 1) := by decide +kernel
theorem d_SystemUse_addComponent_76 : decode b_SystemUse_addComponent 76 = .ok (.baload, 1) := by decide +kernel
theorem d_SystemUse_addComponent_77 : decode b_SystemUse_addComponent 77 = .ok (.invokevirtual 41, 3) := by decide +kernel
theorem d_SystemUse_addComponent_80 : decode b_SystemUse_addComponent 80 = .ok (.iinc 7 1, 3) := by decide +kernel
theorem d_SystemUse_addComponent_83 : decode b_SystemUse_addComponent 83 = .ok (.goto (-30), 3) := by decide +kernel
theorem d_SystemUse_addComponent_86 : decode b_SystemUse_addComponent 86 = .ok (.return_, 1) := by decide +kernel
set_option maxHeartbeats 4000000 in
set_option maxRecDepth 100000 in
theorem c3_addComponent (l : Launch) (D : va_G) (cB cI cJ cZ cN cF : ClassId) (sz : Nat) (u0 : Nat) (pb : Nat) (pq : Nat) (en : Nat) (uc : Int32) (uk : Int32) (pL : Int32) (pf : Nat → Int32) (tt : Nat) (nt : Nat) (gv : Nat → Int32) (x : Int32) (y : Int32) (z : Int32) (hPL : 0 ≤ pL.toInt ∧ pL.toInt ≤ 400) (hnt : nt ≤ 400) (hy : 0 ≤ y.toInt ∧ y.toInt ≤ z.toInt ∧ z.toInt ≤ nt) : Met l y_SystemUse_addComponent w_SystemUse_addComponent ({ frames := 1, cells := 0, slots := 0, locals := 29 }) (va_Pc [.ref u0, .ref tt, .int x, .int y, .int z] (fun U => U.heap.size = sz ∧ va_P D CL [(u0, .inr (8, [.ref pb, .ref en, .int uc, .int uk])), (pb, .inr (1, [.ref pq, .int pL])), (pq, .inl (cB, 400, .inl pf))] U.heap ∧ va_K D CL (TY cB cI cJ cZ cN cF) U ∧ NN U ∧ va_D (fun _ => True) [(u0, .inr (8, [.ref pb, .ref en, .int uc, .int uk])), (pb, .inr (1, [.ref pq, .int pL])), (pq, .inl (cB, 400, .inl pf))] ∧ RO D [(tt, .inl (cB, nt, .inl gv))] (va_A [(u0, .inr (8, [.ref pb, .ref en, .int uc, .int uk])), (pb, .inr (1, [.ref pq, .int pL])), (pq, .inl (cB, 400, .inl pf))] sz) U U.heap)) (va_Qv (fun (u : Int32 × (Nat → Int32)) => match u with | (L2, g) => (pL.toInt ≤ L2.toInt ∧ L2.toInt ≤ 400) ∧ ((x.toInt = 0 ∧ SatI (pL.toInt + 2 + (z.toInt - y.toInt)) L2.toInt) ∨ (x.toInt ≠ 0 ∧ SatI (pL.toInt + 2) L2.toInt))) (fun (u : Int32 × (Nat → Int32)) (t : State) => match u with | (L2, g) => va_P D CL [(u0, .inr (8, [.ref pb, .ref en, .int uc, .int uk])), (pb, .inr (1, [.ref pq, .int L2])), (pq, .inl (cB, 400, .inl g))] t.heap ∧ va_D (va_A [(u0, .inr (8, [.ref pb, .ref en, .int uc, .int uk])), (pb, .inr (1, [.ref pq, .int pL])), (pq, .inl (cB, 400, .inl pf))] sz) [(u0, .inr (8, [.ref pb, .ref en, .int uc, .int uk])), (pb, .inr (1, [.ref pq, .int L2])), (pq, .inl (cB, 400, .inl g))]) (va_A [(u0, .inr (8, [.ref pb, .ref en, .int uc, .int uk])), (pb, .inr (1, [.ref pq, .int pL])), (pq, .inl (cB, 400, .inl pf))] sz)) 0 0 (va_A [(u0, .inr (8, [.ref pb, .ref en, .int uc, .int uk])), (pb, .inr (1, [.ref pq, .int pL])), (pq, .inl (cB, 400, .inl pf))] sz) := by
  refine Met.ofW (cc := b_SystemUse_addComponent) (maxL := 8) (ret := none) (by decide +kernel) rfl ?_
  intro p e s m args below meth c s₁ B hml hv
  obtain ⟨rfl, hsz, hP, hK, hN, hD0, hZr⟩ := hv
  have hx := B.exec
  have hb := B.bytes
  have hr := B.returns
  have hts := atoms_spec (ws := w_SystemUse_addComponent) B.pre
  have ht9 := fun (w : Cond) (h : w ∈ lw_g) => hts w (List.mem_cons_of_mem _ h)
  have hown : s.vm.findClass "DiscMaker$SystemUse" = some m.cls := findClass_of_methodNamed B.named
  have hlocks := B.notSynchronized
  subst hsz
  have hD := hD0.self (sz := s.heap.size)
  generalize hAe : va_A [(u0, .inr (8, [.ref pb, .ref en, .int uc, .int uk])), (pb, .inr (1, [.ref pq, .int pL])), (pq, .inl (cB, 400, .inl pf))] s.heap.size = A at hD hZr ⊢
  have hA : ∀ q : Nat, s.heap.size ≤ q → A q := fun q h => by rw [← hAe]; exact Or.inr h
  have hS : va_S A s.heap s.heap [] := va_S.rf
  have hP : va_P D CL [(u0, .inr (8, [.ref pb, .ref en, .int uc, .int uk])), (pb, .inr (1, [.ref pq, .int pL])), (pq, .inl (cB, 400, .inl pf))] s.heap := hP
  have hl := lv_entry [.ref u0, .ref tt, .int x, .int y, .int z] (n := 8) (Nat.le_of_ble_eq_true rfl)
  rw [lg_entry_eq]
  generalize (lg_sl [.ref u0, .ref tt, .int x, .int y, .int z] ++ List.replicate (8 - (lg_sl [.ref u0, .ref tt, .int x, .int y, .int z]).length) Slot.unset).toArray = ls at hl ⊢
  have hl : lv_has ls 8 [(0, .ref u0), (1, .ref tt), (2, .int x), (3, .int y), (4, .int z)] := hl
  have L_m1 : ((-1) : Int32).toInt = (-1) := by decide
  have L_0 : (0 : Int32).toInt = 0 := by decide
  have L_1 : (1 : Int32).toInt = 1 := by decide
  have L_2 : (2 : Int32).toInt = 2 := by decide
  refine zz_labM (B := fun (lk : Nat) (K : Heap → List Loc → Array Slot → List Value → Prop) => ∀ (by9 : Int32) (H : Heap) (locs : List Loc) (ls : Array Slot), lk = 0 → (0 ≤ by9.toInt ∧ by9.toInt ≤ z.toInt - y.toInt) → ((x.toInt = 0 ∧ by9.toInt = z.toInt - y.toInt) ∨ (x.toInt ≠ 0 ∧ by9.toInt = 0)) → va_P D CL [(u0, .inr (8, [.ref pb, .ref en, .int uc, .int uk])), (pb, .inr (1, [.ref pq, .int pL])), (pq, .inl (cB, 400, .inl pf))] H → va_D A [(u0, .inr (8, [.ref pb, .ref en, .int uc, .int uk])), (pb, .inr (1, [.ref pq, .int pL])), (pq, .inl (cB, 400, .inl pf))] → va_S A s.heap H locs → lv_has ls 8 [(0, .ref u0), (1, .ref tt), (2, .int x), (3, .int y), (4, .int z)] → K H locs ls [.int by9]) 12 ?_ ?_
  · skip
    intro lk ih12 by9 H locs ls hm12 e1 e9 hP hD hS hl
    refine lv_istore hx hb d_SystemUse_addComponent_12 hl (by decide) rfl (fun ls hl => ?_)
    have hl : lv_has ls 8 [(5, .int by9), (0, .ref u0), (1, .ref tt), (2, .int x), (3, .int y), (4, .int z)] := hl
    refine lv_aload_n hx hb d_SystemUse_addComponent_14 rfl (lv_at hl 1 rfl) ?_
    refine va_get (D := D) (ci := 8) (v := .ref pb) (C := "DiscMaker$SystemUse") (T := F_SystemUse) (N := 4) hx hb ht9 in_SystemUse hown hK hP 0 rfl rfl 0 (by decide) (ht9 _ k330) (fun _ h9 => h9) rfl d_SystemUse_addComponent_15 ?_
    refine lv_iconst (v := 2) hx hb d_SystemUse_addComponent_18 (by decide) ?_
    refine lv_iload hx hb d_SystemUse_addComponent_19 (lv_at hl 0 rfl) ?_
    refine lv_iadd hx hb d_SystemUse_addComponent_21 ?_
    refine lv_topi (fun v1 e_v1 => ?_)
    have t_v1 : v1.toInt = 2 + by9.toInt := by rw [e_v1]; exact i_add (by decide) rfl (by omega) (by omega)
    have hPc := hP.sub (ws' := [(pb, .inr (1, [.ref pq, .int pL])), (pq, .inl (cB, 400, .inl pf))]) [1, 2] rfl
    have hDc := hD.sub (ws' := [(pb, .inr (1, [.ref pq, .int pL])), (pq, .inl (cB, 400, .inl pf))]) [1, 2] (by decide +kernel) rfl
    have hFc := va_free (wc := [(pb, .inr (1, [.ref pq, .int pL])), (pq, .inl (cB, 400, .inl pf))]) hD hS hA [1, 2] rfl
    have hkc : 0 ≤ 0 := by decide
    have hks : 0 ≤ 0 := by decide
    refine va_calli (va_runV (C := "DiscMaker$Bytes") (As := [.int v1]) (rest := []) ⟨hx, hb, hml, hown, hts⟩ (c3_extend l D cB cI cJ cZ cN cF H.size pb pq 400 pL pf v1 (by (try dsimp only); first | assumption | omega | trivial) (by (try dsimp only); first | assumption | omega | trivial) (by (try dsimp only); first | assumption | omega | trivial)) (cwV 1 hts (lg_goodV k907 k908 k909 k119 kc_Bytes_extend) rfl rfl rfl (by decide +kernel) ⟨Nat.le_of_ble_eq_true rfl, Nat.le_of_ble_eq_true rfl⟩) ⟨fun a U g mk q => by obtain ⟨q0, q1, qP, qK, qN, qD⟩ := q; exact ⟨q0, q1, qP, va_K.moved (u := U) (U := U.calling g mk a) (Vm.Alike.refl U.vm) qK, qN.calling, qD⟩, va_recv hK hP (ci := 1) (q0 := 1) rfl rfl, fun U hU hW => ⟨rfl, by rw [hU], by rw [hU]; exact hPc, va_K.moved hW.alike hK, NN.warm hW hN, hDc.weaken (fun _ _ _ _ => trivial)⟩⟩ rfl rfl hl.1 rfl (lv_room (Nat.le_of_ble_eq_true rfl)) d_SystemUse_addComponent_22 ⟨hkc, hks⟩) hS (fun q _ h => hFc q h) hFc (fun r2 u t H1 locs ht hvm hp_r2 hB hz1 hk1 hS => ?_)
    obtain ⟨L2_3, g_4⟩ := u
    obtain ⟨hP1, hD1⟩ := hB
    rw [ht] at hP1
    obtain ⟨hP, hD⟩ := va_join (wr := [(u0, .inr (8, [.ref pb, .ref en, .int uc, .int uk]))]) (w1 := [(pb, .inr (1, [.ref pq, .int L2_3])), (pq, .inl (cB, 400, .inl g_4))]) hP hD [1, 2] [0] rfl rfl (by decide +kernel) (by decide +kernel) hk1 hFc hP1 hD1
    clear hPc hDc hFc hP1 hD1 hk1 hz1 hkc hks
    generalize H1 = H at hP hS ⊢
    have hP : va_P D CL [(u0, .inr (8, [.ref pb, .ref en, .int uc, .int uk])), (pb, .inr (1, [.ref pq, .int L2_3])), (pq, .inl (cB, 400, .inl g_4))] H := hP
    have hD : va_D A [(u0, .inr (8, [.ref pb, .ref en, .int uc, .int uk])), (pb, .inr (1, [.ref pq, .int L2_3])), (pq, .inl (cB, 400, .inl g_4))] := hD
    try dsimp only at hp_r2
    obtain ⟨hv_5, hE_6⟩ := hp_r2
    have q_r2 : r2.toInt = pL.toInt := (congrArg Int32.toInt hv_5)
    refine lv_istore hx hb d_SystemUse_addComponent_25 hl (by decide) rfl (fun ls hl => ?_)
    have hl : lv_has ls 8 [(6, .int r2), (5, .int by9), (0, .ref u0), (1, .ref tt), (2, .int x), (3, .int y), (4, .int z)] := hl
    refine lv_aload_n hx hb d_SystemUse_addComponent_27 rfl (lv_at hl 2 rfl) ?_
    refine va_get (D := D) (ci := 8) (v := .ref pb) (C := "DiscMaker$SystemUse") (T := F_SystemUse) (N := 4) hx hb ht9 in_SystemUse hown hK hP 0 rfl rfl 0 (by decide) (ht9 _ k330) (fun _ h9 => h9) rfl d_SystemUse_addComponent_28 ?_
    refine lv_iload hx hb d_SystemUse_addComponent_31 (lv_at hl 0 rfl) ?_
    refine lv_iload_n hx hb d_SystemUse_addComponent_33 rfl (lv_at hl 4 rfl) ?_
    have hPc := hP.sub (ws' := [(pb, .inr (1, [.ref pq, .int L2_3])), (pq, .inl (cB, 400, .inl g_4))]) [1, 2] rfl
    have hDc := hD.sub (ws' := [(pb, .inr (1, [.ref pq, .int L2_3])), (pq, .inl (cB, 400, .inl g_4))]) [1, 2] (by decide +kernel) rfl
    have hFc := va_free (wc := [(pb, .inr (1, [.ref pq, .int L2_3])), (pq, .inl (cB, 400, .inl g_4))]) hD hS hA [1, 2] rfl
    have hkc : 0 ≤ 0 := by decide
    have hks : 0 ≤ 0 := by decide
    refine va_callv (va_runV (C := "DiscMaker$Bytes") (As := [.int r2, .int x]) (rest := []) ⟨hx, hb, hml, hown, hts⟩ (c3_put l D cB cI cJ cZ cN cF H.size pb pq 400 L2_3 g_4 r2 x (by (try dsimp only); first | assumption | omega | trivial) (by (try dsimp only); first | assumption | omega | trivial)) (cwV 2 hts (lg_goodV k911 k912 k913 k119 kc_Bytes_put) rfl rfl rfl (by decide +kernel) ⟨Nat.le_of_ble_eq_true rfl, Nat.le_of_ble_eq_true rfl⟩) ⟨fun a U g mk q => by obtain ⟨q0, q1, qP, qK, qN, qD⟩ := q; exact ⟨q0, q1, qP, va_K.moved (u := U) (U := U.calling g mk a) (Vm.Alike.refl U.vm) qK, qN.calling, qD⟩, va_recv hK hP (ci := 1) (q0 := 1) rfl rfl, fun U hU hW => ⟨rfl, by rw [hU], by rw [hU]; exact hPc, va_K.moved hW.alike hK, NN.warm hW hN, hDc.weaken (fun _ _ _ _ => trivial)⟩⟩ rfl rfl hl.1 rfl (lv_room (Nat.le_of_ble_eq_true rfl)) d_SystemUse_addComponent_34 ⟨hkc, hks⟩) hS (fun q _ h => hFc q h) hFc (fun u t H1 locs ht hvm hp_r7 hB hz1 hk1 hS => ?_)
    obtain ⟨g_8, rfl⟩ : ∃ z, z = u := ⟨_, rfl⟩
    obtain ⟨hP1, hD1⟩ := hB
    rw [ht] at hP1
    obtain ⟨hP, hD⟩ := va_join (wr := [(u0, .inr (8, [.ref pb, .ref en, .int uc, .int uk]))]) (w1 := [(pb, .inr (1, [.ref pq, .int L2_3])), (pq, .inl (cB, 400, .inl g_8))]) hP hD [1, 2] [0] rfl rfl (by decide +kernel) (by decide +kernel) hk1 hFc hP1 hD1
    clear hPc hDc hFc hP1 hD1 hk1 hz1 hkc hks
    generalize H1 = H at hP hS ⊢
    have hP : va_P D CL [(u0, .inr (8, [.ref pb, .ref en, .int uc, .int uk])), (pb, .inr (1, [.ref pq, .int L2_3])), (pq, .inl (cB, 400, .inl g_8))] H := hP
    have hD : va_D A [(u0, .inr (8, [.ref pb, .ref en, .int uc, .int uk])), (pb, .inr (1, [.ref pq, .int L2_3])), (pq, .inl (cB, 400, .inl g_8))] := hD
    refine lv_aload_n hx hb d_SystemUse_addComponent_37 rfl (lv_at hl 2 rfl) ?_
    refine va_get (D := D) (ci := 8) (v := .ref pb) (C := "DiscMaker$SystemUse") (T := F_SystemUse) (N := 4) hx hb ht9 in_SystemUse hown hK hP 0 rfl rfl 0 (by decide) (ht9 _ k330) (fun _ h9 => h9) rfl d_SystemUse_addComponent_38 ?_
    refine lv_iload hx hb d_SystemUse_addComponent_41 (lv_at hl 0 rfl) ?_
    refine lv_iconst (v := 1) hx hb d_SystemUse_addComponent_43 (by decide) ?_
    refine lv_iadd hx hb d_SystemUse_addComponent_44 ?_
    refine lv_topi (fun v9 e_v9 => ?_)
    have t_v9 : v9.toInt = r2.toInt + 1 := by rw [e_v9]; exact i_add rfl (by decide) (by omega) (by omega)
    refine lv_iload hx hb d_SystemUse_addComponent_45 (lv_at hl 1 rfl) ?_
    have hPc := hP.sub (ws' := [(pb, .inr (1, [.ref pq, .int L2_3])), (pq, .inl (cB, 400, .inl g_8))]) [1, 2] rfl
    have hDc := hD.sub (ws' := [(pb, .inr (1, [.ref pq, .int L2_3])), (pq, .inl (cB, 400, .inl g_8))]) [1, 2] (by decide +kernel) rfl
    have hFc := va_free (wc := [(pb, .inr (1, [.ref pq, .int L2_3])), (pq, .inl (cB, 400, .inl g_8))]) hD hS hA [1, 2] rfl
    have hkc : 0 ≤ 0 := by decide
    have hks : 0 ≤ 0 := by decide
    refine va_callv (va_runV (C := "DiscMaker$Bytes") (As := [.int v9, .int by9]) (rest := []) ⟨hx, hb, hml, hown, hts⟩ (c3_put l D cB cI cJ cZ cN cF H.size pb pq 400 L2_3 g_8 v9 by9 (by (try dsimp only); first | assumption | omega | trivial) (by (try dsimp only); first | assumption | omega | trivial)) (cwV 2 hts (lg_goodV k911 k912 k913 k119 kc_Bytes_put) rfl rfl rfl (by decide +kernel) ⟨Nat.le_of_ble_eq_true rfl, Nat.le_of_ble_eq_true rfl⟩) ⟨fun a U g mk q => by obtain ⟨q0, q1, qP, qK, qN, qD⟩ := q; exact ⟨q0, q1, qP, va_K.moved (u := U) (U := U.calling g mk a) (Vm.Alike.refl U.vm) qK, qN.calling, qD⟩, va_recv hK hP (ci := 1) (q0 := 1) rfl rfl, fun U hU hW => ⟨rfl, by rw [hU], by rw [hU]; exact hPc, va_K.moved hW.alike hK, NN.warm hW hN, hDc.weaken (fun _ _ _ _ => trivial)⟩⟩ rfl rfl hl.1 rfl (lv_room (Nat.le_of_ble_eq_true rfl)) d_SystemUse_addComponent_47 ⟨hkc, hks⟩) hS (fun q _ h => hFc q h) hFc (fun u t H1 locs ht hvm hp_r10 hB hz1 hk1 hS => ?_)
    obtain ⟨g_11, rfl⟩ : ∃ z, z = u := ⟨_, rfl⟩
    obtain ⟨hP1, hD1⟩ := hB
    rw [ht] at hP1
    obtain ⟨hP, hD⟩ := va_join (wr := [(u0, .inr (8, [.ref pb, .ref en, .int uc, .int uk]))]) (w1 := [(pb, .inr (1, [.ref pq, .int L2_3])), (pq, .inl (cB, 400, .inl g_11))]) hP hD [1, 2] [0] rfl rfl (by decide +kernel) (by decide +kernel) hk1 hFc hP1 hD1
    clear hPc hDc hFc hP1 hD1 hk1 hz1 hkc hks
    generalize H1 = H at hP hS ⊢
    have hP : va_P D CL [(u0, .inr (8, [.ref pb, .ref en, .int uc, .int uk])), (pb, .inr (1, [.ref pq, .int L2_3])), (pq, .inl (cB, 400, .inl g_11))] H := hP
    have hD : va_D A [(u0, .inr (8, [.ref pb, .ref en, .int uc, .int uk])), (pb, .inr (1, [.ref pq, .int L2_3])), (pq, .inl (cB, 400, .inl g_11))] := hD
    refine lv_iconst (v := 0) hx hb d_SystemUse_addComponent_50 (by decide) ?_
    refine lv_istore hx hb d_SystemUse_addComponent_51 hl (by decide) rfl (fun ls hl => ?_)
    have hl : lv_has ls 8 [(7, .int 0), (6, .int r2), (5, .int by9), (0, .ref u0), (1, .ref tt), (2, .int x), (3, .int y), (4, .int z)] := hl
    refine zz_labM (B := fun (lk : Nat) (K : Heap → List Loc → Array Slot → List Value → Prop) => ∀ (kx : Int32) (lf : Nat → Int32) (H : Heap) (locs : List Loc) (ls : Array Slot), lk = (by9.toInt - kx.toInt).toNat → (0 ≤ kx.toInt ∧ kx.toInt ≤ by9.toInt) → va_P D CL [(u0, .inr (8, [.ref pb, .ref en, .int uc, .int uk])), (pb, .inr (1, [.ref pq, .int L2_3])), (pq, .inl (cB, 400, .inl lf))] H → va_D A [(u0, .inr (8, [.ref pb, .ref en, .int uc, .int uk])), (pb, .inr (1, [.ref pq, .int L2_3])), (pq, .inl (cB, 400, .inl lf))] → va_S A s.heap H locs → lv_has ls 8 [(0, .ref u0), (1, .ref tt), (2, .int x), (3, .int y), (4, .int z), (5, .int by9), (6, .int r2), (7, .int kx)] → K H locs ls []) 53 ?_ ?_
    · skip
      intro lk ih53 kx lf H locs ls hm53 e2 hP hD hS hl
      refine lv_iload hx hb d_SystemUse_addComponent_53 (lv_at hl 7 rfl) ?_
      refine lv_iload hx hb d_SystemUse_addComponent_55 (lv_at hl 5 rfl) ?_
      refine lv_icmp_ge (tgt := 86) hx hb d_SystemUse_addComponent_57 (by decide) (fun h_9 => ?_) (fun h_9 => ?_)
      · skip
        have g57_25 : by9.toInt ≤ kx.toInt := (i_le rfl rfl).mp h_9
        have hP9 := hP.sub (ws' := [(u0, .inr (8, [.ref pb, .ref en, .int uc, .int uk])), (pb, .inr (1, [.ref pq, .int L2_3])), (pq, .inl (cB, 400, .inl lf))]) [0, 1, 2] rfl
        have hD9 := hD.sub (ws' := [(u0, .inr (8, [.ref pb, .ref en, .int uc, .int uk])), (pb, .inr (1, [.ref pq, .int L2_3])), (pq, .inl (cB, 400, .inl lf))]) [0, 1, 2] (by decide +kernel) rfl
        exact W.vret hx hb hr (fun t ht hW => ⟨⟨(L2_3, lf), rfl, ⟨(by (try dsimp only); first | assumption | omega | trivial), (by (try dsimp only); unfold SatI; omega)⟩, by rw [ht]; exact hP9, hD9⟩, hS.F ht⟩) hS.2.2 d_SystemUse_addComponent_86
      · skip
        have g57_25 : ¬ by9.toInt ≤ kx.toInt := fun h8 => h_9 ((i_le rfl rfl).mpr h8)
        refine lv_aload_n hx hb d_SystemUse_addComponent_60 rfl (lv_at hl 0 rfl) ?_
        refine va_get (D := D) (ci := 8) (v := .ref pb) (C := "DiscMaker$SystemUse") (T := F_SystemUse) (N := 4) hx hb ht9 in_SystemUse hown hK hP 0 rfl rfl 0 (by decide) (ht9 _ k330) (fun _ h9 => h9) rfl d_SystemUse_addComponent_61 ?_
        refine lv_iload hx hb d_SystemUse_addComponent_64 (lv_at hl 6 rfl) ?_
        refine lv_iconst (v := 2) hx hb d_SystemUse_addComponent_66 (by decide) ?_
        refine lv_iadd hx hb d_SystemUse_addComponent_67 ?_
        refine lv_topi (fun v12 e_v12 => ?_)
        refine lv_iload hx hb d_SystemUse_addComponent_68 (lv_at hl 7 rfl) ?_
        refine lv_iadd hx hb d_SystemUse_addComponent_70 ?_
        refine lv_topi (fun v13 e_v13 => ?_)
        refine lv_aload_n hx hb d_SystemUse_addComponent_71 rfl (lv_at hl 1 rfl) ?_
        refine lv_iload_n hx hb d_SystemUse_addComponent_72 rfl (lv_at hl 3 rfl) ?_
        refine lv_iload hx hb d_SystemUse_addComponent_73 (lv_at hl 7 rfl) ?_
        refine lv_iadd hx hb d_SystemUse_addComponent_75 ?_
        refine lv_topi (fun v14 e_v14 => ?_)
        have t_v14 : v14.toInt = y.toInt + kx.toInt := by rw [e_v14]; exact i_add rfl rfl (by omega) (by omega)
        have hPR := RO_at hZr hS
        refine va_bald hx hb hK hPR 0 0 rfl rfl (vp_in_iff.mpr ⟨by omega, by omega⟩) d_SystemUse_addComponent_76 ?_
        refine lv_topi (fun v15 e_v15 => ?_)
        have hPc := hP.sub (ws' := [(pb, .inr (1, [.ref pq, .int L2_3])), (pq, .inl (cB, 400, .inl lf))]) [1, 2] rfl
        have hDc := hD.sub (ws' := [(pb, .inr (1, [.ref pq, .int L2_3])), (pq, .inl (cB, 400, .inl lf))]) [1, 2] (by decide +kernel) rfl
        have hFc := va_free (wc := [(pb, .inr (1, [.ref pq, .int L2_3])), (pq, .inl (cB, 400, .inl lf))]) hD hS hA [1, 2] rfl
        have hkc : 0 ≤ 0 := by decide
        have hks : 0 ≤ 0 := by decide
        refine va_callv (va_runV (C := "DiscMaker$Bytes") (As := [.int v13, .int v15]) (rest := []) ⟨hx, hb, hml, hown, hts⟩ (c3_put l D cB cI cJ cZ cN cF H.size pb pq 400 L2_3 lf v13 v15 (by (try dsimp only); first | assumption | omega | trivial) (by (try dsimp only); first | assumption | omega | trivial)) (cwV 2 hts (lg_goodV k911 k912 k913 k119 kc_Bytes_put) rfl rfl rfl (by decide +kernel) ⟨Nat.le_of_ble_eq_true rfl, Nat.le_of_ble_eq_true rfl⟩) ⟨fun a U g mk q => by obtain ⟨q0, q1, qP, qK, qN, qD⟩ := q; exact ⟨q0, q1, qP, va_K.moved (u := U) (U := U.calling g mk a) (Vm.Alike.refl U.vm) qK, qN.calling, qD⟩, va_recv hK hP (ci := 1) (q0 := 1) rfl rfl, fun U hU hW => ⟨rfl, by rw [hU], by rw [hU]; exact hPc, va_K.moved hW.alike hK, NN.warm hW hN, hDc.weaken (fun _ _ _ _ => trivial)⟩⟩ rfl rfl hl.1 rfl (lv_room (Nat.le_of_ble_eq_true rfl)) d_SystemUse_addComponent_77 ⟨hkc, hks⟩) hS (fun q _ h => hFc q h) hFc (fun u t H1 locs ht hvm hp_r16 hB hz1 hk1 hS => ?_)
        obtain ⟨g_17, rfl⟩ : ∃ z, z = u := ⟨_, rfl⟩
        obtain ⟨hP1, hD1⟩ := hB
        rw [ht] at hP1
        obtain ⟨hP, hD⟩ := va_join (wr := [(u0, .inr (8, [.ref pb, .ref en, .int uc, .int uk]))]) (w1 := [(pb, .inr (1, [.ref pq, .int L2_3])), (pq, .inl (cB, 400, .inl g_17))]) hP hD [1, 2] [0] rfl rfl (by decide +kernel) (by decide +kernel) hk1 hFc hP1 hD1
        clear hPc hDc hFc hP1 hD1 hk1 hz1 hkc hks
        generalize H1 = H at hP hS ⊢
        have hP : va_P D CL [(u0, .inr (8, [.ref pb, .ref en, .int uc, .int uk])), (pb, .inr (1, [.ref pq, .int L2_3])), (pq, .inl (cB, 400, .inl g_17))] H := hP
        have hD : va_D A [(u0, .inr (8, [.ref pb, .ref en, .int uc, .int uk])), (pb, .inr (1, [.ref pq, .int L2_3])), (pq, .inl (cB, 400, .inl g_17))] := hD
        obtain ⟨v18, e_v18⟩ : ∃ z : Int32, z = kx + 1 := ⟨_, rfl⟩
        refine lv_iinc (v := v18) hx hb d_SystemUse_addComponent_80 hl (k := 7) rfl e_v18.symm (by decide +kernel) rfl (fun ls hl => ?_)
        have t_v18 : v18.toInt = kx.toInt + 1 := by rw [e_v18]; exact i_add rfl (by decide) (by omega) (by omega)
        have hl : lv_has ls 8 [(7, .int v18), (0, .ref u0), (1, .ref tt), (2, .int x), (3, .int y), (4, .int z), (5, .int by9), (6, .int r2)] := hl
        refine lv_goto (tgt := 53) hx hb d_SystemUse_addComponent_83 (by decide) ?_
        have hP := hP.sub (ws' := [(u0, .inr (8, [.ref pb, .ref en, .int uc, .int uk])), (pb, .inr (1, [.ref pq, .int L2_3])), (pq, .inl (cB, 400, .inl g_17))]) [0, 1, 2] rfl
        have hD := hD.sub (ws' := [(u0, .inr (8, [.ref pb, .ref en, .int uc, .int uk])), (pb, .inr (1, [.ref pq, .int L2_3])), (pq, .inl (cB, 400, .inl g_17))]) [0, 1, 2] (by decide +kernel) rfl
        have hl := lv_sub hl [1, 2, 3, 4, 5, 6, 7, 0] rfl
        exact ih53 _ (by first | omega | (dsimp only; omega)) v18 g_17 _ _ _ rfl ((by (try dsimp only); first | assumption | omega | trivial)) hP hD hS hl
    · skip
      intro kk53
      have hP := hP.sub (ws' := [(u0, .inr (8, [.ref pb, .ref en, .int uc, .int uk])), (pb, .inr (1, [.ref pq, .int L2_3])), (pq, .inl (cB, 400, .inl g_11))]) [0, 1, 2] rfl
      have hD := hD.sub (ws' := [(u0, .inr (8, [.ref pb, .ref en, .int uc, .int uk])), (pb, .inr (1, [.ref pq, .int L2_3])), (pq, .inl (cB, 400, .inl g_11))]) [0, 1, 2] (by decide +kernel) rfl
      have hl := lv_sub hl [3, 4, 5, 6, 7, 2, 1, 0] rfl
      exact kk53 _ 0 g_11 _ _ _ rfl ((by (try dsimp only); first | assumption | omega | trivial)) hP hD hS hl
  · skip
    intro kk12
    refine lv_iload_n hx hb d_SystemUse_addComponent_0 rfl (lv_at hl 2 rfl) ?_
    refine lv_if_ne (tgt := 11) hx hb d_SystemUse_addComponent_1 (by decide) (fun h_9 => ?_) (fun h_9 => ?_)
    · skip
      have g1_44 : ¬ x.toInt = 0 := fun h8 => h_9 ((i_eq rfl (by decide)).mpr h8)
      refine lv_iconst (v := 0) hx hb d_SystemUse_addComponent_11 (by decide) ?_
      have hP := hP.sub (ws' := [(u0, .inr (8, [.ref pb, .ref en, .int uc, .int uk])), (pb, .inr (1, [.ref pq, .int pL])), (pq, .inl (cB, 400, .inl pf))]) [0, 1, 2] rfl
      have hD := hD.sub (ws' := [(u0, .inr (8, [.ref pb, .ref en, .int uc, .int uk])), (pb, .inr (1, [.ref pq, .int pL])), (pq, .inl (cB, 400, .inl pf))]) [0, 1, 2] (by decide +kernel) rfl
      have hl := lv_sub hl [0, 1, 2, 3, 4] rfl
      exact kk12 _ 0 _ _ _ rfl ((by (try dsimp only); first | assumption | omega | trivial)) ((by (try dsimp only); first | assumption | omega | trivial)) hP hD hS hl
    · skip
      have g1_44 : x.toInt = 0 := (i_eq rfl (by decide)).mp h_9
      refine lv_iload hx hb d_SystemUse_addComponent_4 (lv_at hl 4 rfl) ?_
      refine lv_iload_n hx hb d_SystemUse_addComponent_6 rfl (lv_at hl 3 rfl) ?_
      refine lv_isub hx hb d_SystemUse_addComponent_7 ?_
      refine lv_topi (fun v19 e_v19 => ?_)
      have t_v19 : v19.toInt = z.toInt - y.toInt := by rw [e_v19]; exact i_sub rfl rfl (by omega) (by omega)
      refine lv_goto (tgt := 12) hx hb d_SystemUse_addComponent_8 (by decide) ?_
      have hP := hP.sub (ws' := [(u0, .inr (8, [.ref pb, .ref en, .int uc, .int uk])), (pb, .inr (1, [.ref pq, .int pL])), (pq, .inl (cB, 400, .inl pf))]) [0, 1, 2] rfl
      have hD := hD.sub (ws' := [(u0, .inr (8, [.ref pb, .ref en, .int uc, .int uk])), (pb, .inr (1, [.ref pq, .int pL])), (pq, .inl (cB, 400, .inl pf))]) [0, 1, 2] (by decide +kernel) rfl
      have hl := lv_sub hl [0, 1, 2, 3, 4] rfl
      exact kk12 _ v19 _ _ _ rfl ((by (try dsimp only); first | assumption | omega | trivial)) ((by (try dsimp only); first | assumption | omega | trivial)) hP hD hS hl

theorem d_SystemUse_addTarget_0 : decode b_SystemUse_addTarget 0 = .ok (.aload_n 0, 1) := by decide +kernel
theorem d_SystemUse_addTarget_1 : decode b_SystemUse_addTarget 1 = .ok (.sipush 21324, 3) := by decide +kernel
theorem d_SystemUse_addTarget_4 : decode b_SystemUse_addTarget 4 = .ok (.iconst 5, 1) := by decide +kernel
theorem d_SystemUse_addTarget_5 : decode b_SystemUse_addTarget 5 = .ok (.invokevirtual 37, 3) := by decide +kernel
theorem d_SystemUse_addTarget_8 : decode b_SystemUse_addTarget 8 = .ok (.istore_n 2, 1) := by decide +kernel
theorem d_SystemUse_addTarget_9 : decode b_SystemUse_addTarget 9 = .ok (.aload_n 1, 1) := by decide +kernel
theorem d_SystemUse_addTarget_10 : decode b_SystemUse_addTarget 10 = .ok (.arraylength, 1) := by decide +kernel
theorem d_SystemUse_addTarget_11 : decode b_SystemUse_addTarget 11 = .ok (.ifCond .le 20, 3) := by decide +kernel
theorem d_SystemUse_addTarget_14 : decode b_SystemUse_addTarget 14 = .ok (.aload_n 1, 1) := by decide +kernel
theorem d_SystemUse_addTarget_15 : decode b_SystemUse_addTarget 15 = .ok (.iconst 0, 1) := by decide +kernel
theorem d_SystemUse_addTarget_16 : decode b_SystemUse_addTarget 16 = .ok (.baload, 1) := by decide +kernel
theorem d_SystemUse_addTarget_17 : decode b_SystemUse_addTarget 17 = .ok (.bipush 47, 2) := by decide +kernel
theorem d_SystemUse_addTarget_19 : decode b_SystemUse_addTarget 19 = .ok (.if_icmp .ne 12, 3) := by decide +kernel
theorem d_SystemUse_addTarget_22 : decode b_SystemUse_addTarget 22 = .ok (.aload_n 0, 1) := by decide +kernel
theorem d_SystemUse_addTarget_23 : decode b_SystemUse_addTarget 23 = .ok (.aload_n 1, 1) := by decide +kernel
theorem d_SystemUse_addTarget_24 : decode b_SystemUse_addTarget 24 = .ok (.bipush 8, 2) := by decide +kernel
theorem d_SystemUse_addTarget_26 : decode b_SystemUse_addTarget 26 = .ok (.iconst 0, 1) := by decide +kernel
theorem d_SystemUse_addTarget_27 : decode b_SystemUse_addTarget 27 = .ok (.iconst 0, 1) := by decide +kernel
theorem d_SystemUse_addTarget_28 : decode b_SystemUse_addTarget 28 = .ok (.invokevirtual 74, 3) := by decide +kernel
theorem d_SystemUse_addTarget_31 : decode b_SystemUse_addTarget 31 = .ok (.iconst 0, 1) := by decide +kernel
theorem d_SystemUse_addTarget_32 : decode b_SystemUse_addTarget 32 = .ok (.istore_n 3, 1) := by decide +kernel
theorem d_SystemUse_addTarget_33 : decode b_SystemUse_addTarget 33 = .ok (.iconst 0, 1) := by decide +kernel
theorem d_SystemUse_addTarget_34 : decode b_SystemUse_addTarget 34 = .ok (.istore 4, 2) := by decide +kernel
theorem d_SystemUse_addTarget_36 : decode b_SystemUse_addTarget 36 = .ok (.iload 4, 2) := by decide +kernel
theorem d_SystemUse_addTarget_38 : decode b_SystemUse_addTarget 38 = .ok (.aload_n 1, 1) := by decide +kernel
theorem d_SystemUse_addTarget_39 : decode b_SystemUse_addTarget 39 = .ok (.arraylength, 1) := by decide +kernel
theorem d_SystemUse_addTarget_40 : decode b_SystemUse_addTarget 40 = .ok (.if_icmp .gt 51, 3) := by decide +kernel
theorem d_SystemUse_addTarget_43 : decode b_SystemUse_addTarget 43 = .ok (.iload 4, 2) := by decide +kernel
theorem d_SystemUse_addTarget_45 : decode b_SystemUse_addTarget 45 = .ok (.aload_n 1, 1) := by decide +kernel
theorem d_SystemUse_addTarget_46 : decode b_SystemUse_addTarget 46 = .ok (.arraylength, 1) := by decide +kernel
theorem d_SystemUse_addTarget_47 : decode b_SystemUse_addTarget 47 = .ok (.if_icmp .eq 12, 3) := by decide +kernel
theorem d_SystemUse_addTarget_50 : decode b_SystemUse_addTarget 50 = .ok (.aload_n 1, 1) := by decide +kernel
theorem d_SystemUse_addTarget_51 : decode b_SystemUse_addTarget 51 = .ok (.iload 4, 2) := by decide +kernel
theorem d_SystemUse_addTarget_53 : decode b_SystemUse_addTarget 53 = .ok (.baload, 1) := by decide +kernel
theorem d_SystemUse_addTarget_54 : decode b_SystemUse_addTarget 54 = .ok (.bipush 47, 2) := by decide +kernel
theorem d_SystemUse_addTarget_56 : decode b_SystemUse_addTarget 56 = .ok (.if_icmp .ne 29, 3) := by decide +kernel
theorem d_SystemUse_addTarget_59 : decode b_SystemUse_addTarget 59 = .ok (.iload 4, 2) := by decide +kernel
theorem d_SystemUse_addTarget_61 : decode b_SystemUse_addTarget 61 = .ok (.iload_n 3, 1) := by decide +kernel
theorem d_SystemUse_addTarget_62 : decode b_SystemUse_addTarget 62 = .ok (.if_icmp .le 18, 3) := by decide +kernel
theorem d_SystemUse_addTarget_65 : decode b_SystemUse_addTarget 65 = .ok (.aload_n 0, 1) := by decide +kernel
theorem d_SystemUse_addTarget_66 : decode b_SystemUse_addTarget 66 = .ok (.aload_n 1, 1) := by decide +kernel
theorem d_SystemUse_addTarget_67 : decode b_SystemUse_addTarget 67 = .ok (.aload_n 1, 1) := by decide +kernel
theorem d_SystemUse_addTarget_68 : decode b_SystemUse_addTarget 68 = .ok (.iload_n 3, 1) := by decide +kernel
theorem d_SystemUse_addTarget_69 : decode b_SystemUse_addTarget 69 = .ok (.iload 4, 2) := by decide +kernel
theorem d_SystemUse_addTarget_71 : decode b_SystemUse_addTarget 71 = .ok (.invokestatic 78, 3) := by decide +kernel
theorem d_SystemUse_addTarget_74 : decode b_SystemUse_addTarget 74 = .ok (.iload_n 3, 1) := by decide +kernel
theorem d_SystemUse_addTarget_75 : decode b_SystemUse_addTarget 75 = .ok (.iload 4, 2) := by decide +kernel
theorem d_SystemUse_addTarget_77 : decode b_SystemUse_addTarget 77 = .ok (.invokevirtual 74, 3) := by decide +kernel
theorem d_SystemUse_addTarget_80 : decode b_SystemUse_addTarget 80 = .ok (.iload 4, 2) := by decide +kernel
theorem d_SystemUse_addTarget_82 : decode b_SystemUse_addTarget 82 = .ok (.iconst 1, 1) := by decide +kernel
theorem d_SystemUse_addTarget_83 : decode b_SystemUse_addTarget 83 = .ok (.iadd, 1) := by decide +kernel
theorem d_SystemUse_addTarget_84 : decode b_SystemUse_addTarget 84 = .ok (.istore_n 3, 1) := by decide +kernel
theorem d_SystemUse_addTarget_85 : decode b_SystemUse_addTarget 85 = .ok (.iinc 4 1, 3) := by decide +kernel
theorem d_SystemUse_addTarget_88 : decode b_SystemUse_addTarget 88 = .ok (.goto (-52), 3) := by decide +kernel
theorem d_SystemUse_addTarget_91 : decode b_SystemUse_addTarget 91 = .ok (.aload_n 0, 1) := by decide +kernel
theorem d_SystemUse_addTarget_92 : decode b_SystemUse_addTarget 92 = .ok (.iload_n 2, 1) := by decide +kernel
theorem d_SystemUse_addTarget_93 : decode b_SystemUse_addTarget 93 = .ok (.invokevirtual 45, 3) := by decide +kernel
theorem d_SystemUse_addTarget_96 : decode b_SystemUse_addTarget 96 = .ok (.return_, 1) := by decide +kernel
set_option maxHeartbeats 4000000 in
set_option maxRecDepth 100000 in
theorem c3_addTarget (l : Launch) (D : va_G) (cB cI cJ cZ cN cF : ClassId) (sz : Nat) (u0 : Nat) (pb : Nat) (pq : Nat) (en : Nat) (uc : Int32) (uk : Int32) (pL : Int32) (pf : Nat → Int32) (ef : Nat → Int32) (tt : Nat) (nt : Nat) (gv : Nat → Int32) (hPL : 0 ≤ pL.toInt ∧ pL.toInt ≤ 400) (huc : 0 ≤ uc.toInt ∧ uc.toInt ≤ 4) (hen : EnOK uc.toInt pL.toInt ef) (hnt : nt ≤ 400) : Met l y_SystemUse_addTarget w_SystemUse_addTarget ({ frames := 2, cells := 0, slots := 0, locals := 62 }) (va_Pc [.ref u0, .ref tt] (fun U => U.heap.size = sz ∧ va_P D CL [(u0, .inr (8, [.ref pb, .ref en, .int uc, .int uk])), (pb, .inr (1, [.ref pq, .int pL])), (pq, .inl (cB, 400, .inl pf)), (en, .inl (cI, 4, .inl ef))] U.heap ∧ va_K D CL (TY cB cI cJ cZ cN cF) U ∧ NN U ∧ va_D (fun _ => True) [(u0, .inr (8, [.ref pb, .ref en, .int uc, .int uk])), (pb, .inr (1, [.ref pq, .int pL])), (pq, .inl (cB, 400, .inl pf)), (en, .inl (cI, 4, .inl ef))] ∧ RO D [(tt, .inl (cB, nt, .inl gv))] (va_A [(u0, .inr (8, [.ref pb, .ref en, .int uc, .int uk])), (pb, .inr (1, [.ref pq, .int pL])), (pq, .inl (cB, 400, .inl pf)), (en, .inl (cI, 4, .inl ef))] sz) U U.heap)) (va_Qv (fun (u : Int32 × Int32 × (Nat → Int32) × (Nat → Int32)) => match u with | (uc2, L2, g, ef2) => (pL.toInt ≤ L2.toInt ∧ L2.toInt ≤ 400) ∧ (0 ≤ uc2.toInt ∧ uc2.toInt ≤ 4) ∧ (EnOK uc2.toInt L2.toInt ef2) ∧ (SatI (pL.toInt + 5 + compS gv nt) L2.toInt)) (fun (u : Int32 × Int32 × (Nat → Int32) × (Nat → Int32)) (t : State) => match u with | (uc2, L2, g, ef2) => va_P D CL [(u0, .inr (8, [.ref pb, .ref en, .int uc2, .int uk])), (pb, .inr (1, [.ref pq, .int L2])), (pq, .inl (cB, 400, .inl g)), (en, .inl (cI, 4, .inl ef2))] t.heap ∧ va_D (va_A [(u0, .inr (8, [.ref pb, .ref en, .int uc, .int uk])), (pb, .inr (1, [.ref pq, .int pL])), (pq, .inl (cB, 400, .inl pf)), (en, .inl (cI, 4, .inl ef))] sz) [(u0, .inr (8, [.ref pb, .ref en, .int uc2, .int uk])), (pb, .inr (1, [.ref pq, .int L2])), (pq, .inl (cB, 400, .inl g)), (en, .inl (cI, 4, .inl ef2))]) (va_A [(u0, .inr (8, [.ref pb, .ref en, .int uc, .int uk])), (pb, .inr (1, [.ref pq, .int pL])), (pq, .inl (cB, 400, .inl pf)), (en, .inl (cI, 4, .inl ef))] sz)) 0 0 (va_A [(u0, .inr (8, [.ref pb, .ref en, .int uc, .int uk])), (pb, .inr (1, [.ref pq, .int pL])), (pq, .inl (cB, 400, .inl pf)), (en, .inl (cI, 4, .inl ef))] sz) := by
  refine Met.ofW (cc := b_SystemUse_addTarget) (maxL := 5) (ret := none) (by decide +kernel) rfl ?_
  intro p e s m args below meth c s₁ B hml hv
  obtain ⟨rfl, hsz, hP, hK, hN, hD0, hZr⟩ := hv
  have hx := B.exec
  have hb := B.bytes
  have hr := B.returns
  have hts := atoms_spec (ws := w_SystemUse_addTarget) B.pre
  have ht9 := fun (w : Cond) (h : w ∈ lw_g) => hts w (List.mem_cons_of_mem _ h)
  have hown : s.vm.findClass "DiscMaker$SystemUse" = some m.cls := findClass_of_methodNamed B.named
  have hlocks := B.notSynchronized
  subst hsz
  have hD := hD0.self (sz := s.heap.size)
  generalize hAe : va_A [(u0, .inr (8, [.ref pb, .ref en, .int uc, .int uk])), (pb, .inr (1, [.ref pq, .int pL])), (pq, .inl (cB, 400, .inl pf)), (en, .inl (cI, 4, .inl ef))] s.heap.size = A at hD hZr ⊢
  have hA : ∀ q : Nat, s.heap.size ≤ q → A q := fun q h => by rw [← hAe]; exact Or.inr h
  have hS : va_S A s.heap s.heap [] := va_S.rf
  have hP : va_P D CL [(u0, .inr (8, [.ref pb, .ref en, .int uc, .int uk])), (pb, .inr (1, [.ref pq, .int pL])), (pq, .inl (cB, 400, .inl pf)), (en, .inl (cI, 4, .inl ef))] s.heap := hP
  have hl := lv_entry [.ref u0, .ref tt] (n := 5) (Nat.le_of_ble_eq_true rfl)
  rw [lg_entry_eq]
  generalize (lg_sl [.ref u0, .ref tt] ++ List.replicate (5 - (lg_sl [.ref u0, .ref tt]).length) Slot.unset).toArray = ls at hl ⊢
  have hl : lv_has ls 5 [(0, .ref u0), (1, .ref tt)] := hl
  have L_m1 : ((-1) : Int32).toInt = (-1) := by decide
  have L_0 : (0 : Int32).toInt = 0 := by decide
  have L_1 : (1 : Int32).toInt = 1 := by decide
  have L_5 : (5 : Int32).toInt = 5 := by decide
  have L_8 : (8 : Int32).toInt = 8 := by decide
  have L_47 : (47 : Int32).toInt = 47 := by decide
  have L_21324 : (21324 : Int32).toInt = 21324 := by decide
  refine lv_aload_n hx hb d_SystemUse_addTarget_0 rfl (lv_at hl 0 rfl) ?_
  refine lv_sipush (v := 21324) hx hb d_SystemUse_addTarget_1 (by decide) ?_
  refine lv_iconst (v := 5) hx hb d_SystemUse_addTarget_4 (by decide) ?_
  have hPc := hP.sub (ws' := [(u0, .inr (8, [.ref pb, .ref en, .int uc, .int uk])), (pb, .inr (1, [.ref pq, .int pL])), (pq, .inl (cB, 400, .inl pf))]) [0, 1, 2] rfl
  have hDc := hD.sub (ws' := [(u0, .inr (8, [.ref pb, .ref en, .int uc, .int uk])), (pb, .inr (1, [.ref pq, .int pL])), (pq, .inl (cB, 400, .inl pf))]) [0, 1, 2] (by decide +kernel) rfl
  have hFc := va_free (wc := [(u0, .inr (8, [.ref pb, .ref en, .int uc, .int uk])), (pb, .inr (1, [.ref pq, .int pL])), (pq, .inl (cB, 400, .inl pf))]) hD hS hA [0, 1, 2] rfl
  have hkc : 0 ≤ 0 := by decide
  have hks : 0 ≤ 0 := by decide
  refine va_calli (va_runV (C := "DiscMaker$SystemUse") (As := [.int 21324, .int 5]) (rest := []) ⟨hx, hb, hml, hown, hts⟩ (c3_use_open l D cB cI cJ cZ cN cF s.heap.size u0 pb pq en uc uk pL pf 21324 5 (by (try dsimp only); first | assumption | omega | trivial) (by (try dsimp only); first | assumption | omega | trivial)) (cwV 2 hts (lg_goodV k903 k905 k9 k122 kc_SystemUse_open) rfl rfl rfl (by decide +kernel) ⟨Nat.le_of_ble_eq_true rfl, Nat.le_of_ble_eq_true rfl⟩) ⟨fun a U g mk q => by obtain ⟨q0, q1, qP, qK, qN, qD⟩ := q; exact ⟨q0, q1, qP, va_K.moved (u := U) (U := U.calling g mk a) (Vm.Alike.refl U.vm) qK, qN.calling, qD⟩, va_recv hK hP (ci := 8) (q0 := 0) rfl rfl, fun U hU hW => ⟨rfl, by rw [hU], by rw [hU]; exact hPc, va_K.moved hW.alike hK, NN.warm hW hN, hDc.weaken (fun _ _ _ _ => trivial)⟩⟩ rfl rfl hl.1 rfl (lv_room (Nat.le_of_ble_eq_true rfl)) d_SystemUse_addTarget_5 ⟨hkc, hks⟩) hS (fun q _ h => hFc q h) hFc (fun r1 u t H1 locs ht hvm hp_r1 hB hz1 hk1 hS => ?_)
  obtain ⟨L2_2, g_3⟩ := u
  obtain ⟨hP1, hD1⟩ := hB
  rw [ht] at hP1
  obtain ⟨hP, hD⟩ := va_join (wr := [(en, .inl (cI, 4, .inl ef))]) (w1 := [(u0, .inr (8, [.ref pb, .ref en, .int uc, .int uk])), (pb, .inr (1, [.ref pq, .int L2_2])), (pq, .inl (cB, 400, .inl g_3))]) hP hD [0, 1, 2] [3] rfl rfl (by decide +kernel) (by decide +kernel) hk1 hFc hP1 hD1
  clear hPc hDc hFc hP1 hD1 hk1 hz1 hkc hks
  generalize H1 = H at hP hS ⊢
  have hP : va_P D CL [(en, .inl (cI, 4, .inl ef)), (u0, .inr (8, [.ref pb, .ref en, .int uc, .int uk])), (pb, .inr (1, [.ref pq, .int L2_2])), (pq, .inl (cB, 400, .inl g_3))] H := hP
  have hD : va_D A [(en, .inl (cI, 4, .inl ef)), (u0, .inr (8, [.ref pb, .ref en, .int uc, .int uk])), (pb, .inr (1, [.ref pq, .int L2_2])), (pq, .inl (cB, 400, .inl g_3))] := hD
  try dsimp only at hp_r1
  obtain ⟨hL2_4, hr_5, hS9_6⟩ := hp_r1
  try rw [L_5] at hS9_6
  refine lv_istore_n hx hb d_SystemUse_addTarget_8 rfl hl (by decide) rfl (fun ls hl => ?_)
  have hl : lv_has ls 5 [(2, .int r1), (0, .ref u0), (1, .ref tt)] := hl
  refine zz_labM (B := fun (lk : Nat) (K : Heap → List Loc → Array Slot → List Value → Prop) => ∀ (op : Int32) (jL : Int32) (jf : Nat → Int32) (H : Heap) (locs : List Loc) (ls : Array Slot), lk = 0 → (0 ≤ op.toInt ∧ op.toInt ≤ 400) → (pL.toInt ≤ jL.toInt ∧ jL.toInt ≤ 400) → (SatI (pL.toInt + 5 + t0F gv nt) jL.toInt) → va_P D CL [(en, .inl (cI, 4, .inl ef)), (u0, .inr (8, [.ref pb, .ref en, .int uc, .int uk])), (pb, .inr (1, [.ref pq, .int jL])), (pq, .inl (cB, 400, .inl jf))] H → va_D A [(en, .inl (cI, 4, .inl ef)), (u0, .inr (8, [.ref pb, .ref en, .int uc, .int uk])), (pb, .inr (1, [.ref pq, .int jL])), (pq, .inl (cB, 400, .inl jf))] → va_S A s.heap H locs → lv_has ls 5 [(0, .ref u0), (1, .ref tt), (2, .int op)] → K H locs ls []) 31 ?_ ?_
  · skip
    intro lk ih31 op jL jf H locs ls hm31 e0 e1 e6 hP hD hS hl
    refine lv_iconst (v := 0) hx hb d_SystemUse_addTarget_31 (by decide) ?_
    refine lv_istore_n hx hb d_SystemUse_addTarget_32 rfl hl (by decide) rfl (fun ls hl => ?_)
    have hl : lv_has ls 5 [(3, .int 0), (0, .ref u0), (1, .ref tt), (2, .int op)] := hl
    refine lv_iconst (v := 0) hx hb d_SystemUse_addTarget_33 (by decide) ?_
    refine lv_istore hx hb d_SystemUse_addTarget_34 hl (by decide) rfl (fun ls hl => ?_)
    have hl : lv_has ls 5 [(4, .int 0), (3, .int 0), (0, .ref u0), (1, .ref tt), (2, .int op)] := hl
    refine zz_labM (B := fun (lk : Nat) (K : Heap → List Loc → Array Slot → List Value → Prop) => ∀ (fr : Int32) (kx : Int32) (lL : Int32) (lf : Nat → Int32) (H : Heap) (locs : List Loc) (ls : Array Slot), lk = (nt + 1 - kx.toInt).toNat → (0 ≤ fr.toInt ∧ fr.toInt ≤ kx.toInt ∧ kx.toInt ≤ nt + 1) → (pL.toInt ≤ lL.toInt ∧ lL.toInt ≤ 400) → (fr.toNatClampNeg = cpF gv nt kx.toNatClampNeg) → (SatI (pL.toInt + 5 + t0F gv nt + cpT gv nt kx.toNatClampNeg) lL.toInt) → va_P D CL [(en, .inl (cI, 4, .inl ef)), (u0, .inr (8, [.ref pb, .ref en, .int uc, .int uk])), (pb, .inr (1, [.ref pq, .int lL])), (pq, .inl (cB, 400, .inl lf))] H → va_D A [(en, .inl (cI, 4, .inl ef)), (u0, .inr (8, [.ref pb, .ref en, .int uc, .int uk])), (pb, .inr (1, [.ref pq, .int lL])), (pq, .inl (cB, 400, .inl lf))] → va_S A s.heap H locs → lv_has ls 5 [(0, .ref u0), (1, .ref tt), (2, .int op), (3, .int fr), (4, .int kx)] → K H locs ls []) 36 ?_ ?_
    · skip
      intro lk ih36 fr kx lL lf H locs ls hm36 e2 e3 e7 e8 hP hD hS hl
      refine lv_iload hx hb d_SystemUse_addTarget_36 (lv_at hl 4 rfl) ?_
      refine lv_aload_n hx hb d_SystemUse_addTarget_38 rfl (lv_at hl 1 rfl) ?_
      have hPR := RO_at hZr hS
      refine va_alen (v := nI nt) hx hb hK hPR 0 0 rfl rfl rfl d_SystemUse_addTarget_39 ?_
      refine lv_topi (fun v7 e_v7 => ?_)
      have t_v7 : v7.toInt = nt := by rw [e_v7]; exact nI_toInt (by omega)
      refine lv_icmp_gt (tgt := 91) hx hb d_SystemUse_addTarget_40 (by decide) (fun h_9 => ?_) (fun h_9 => ?_)
      · skip
        have g40_13 : v7.toInt < kx.toInt := (i_lt rfl rfl).mp h_9
        refine lv_aload_n hx hb d_SystemUse_addTarget_91 rfl (lv_at hl 0 rfl) ?_
        refine lv_iload_n hx hb d_SystemUse_addTarget_92 rfl (lv_at hl 2 rfl) ?_
        have hPc := hP.sub (ws' := [(u0, .inr (8, [.ref pb, .ref en, .int uc, .int uk])), (pb, .inr (1, [.ref pq, .int lL])), (pq, .inl (cB, 400, .inl lf)), (en, .inl (cI, 4, .inl ef))]) [1, 2, 3, 0] rfl
        have hDc := hD.sub (ws' := [(u0, .inr (8, [.ref pb, .ref en, .int uc, .int uk])), (pb, .inr (1, [.ref pq, .int lL])), (pq, .inl (cB, 400, .inl lf)), (en, .inl (cI, 4, .inl ef))]) [1, 2, 3, 0] (by decide +kernel) rfl
        have hFc := va_free (wc := [(u0, .inr (8, [.ref pb, .ref en, .int uc, .int uk])), (pb, .inr (1, [.ref pq, .int lL])), (pq, .inl (cB, 400, .inl lf)), (en, .inl (cI, 4, .inl ef))]) hD hS hA [1, 2, 3, 0] rfl
        have hkc : 0 ≤ 0 := by decide
        have hks : 0 ≤ 0 := by decide
        refine va_callv (va_runV (C := "DiscMaker$SystemUse") (As := [.int op]) (rest := []) ⟨hx, hb, hml, hown, hts⟩ (c3_close l D cB cI cJ cZ cN cF H.size u0 pb pq en uc uk lL lf ef op (by (try dsimp only); first | assumption | omega | trivial) (by (try dsimp only); first | assumption | omega | trivial) (EnOK_mono hen (by omega)) (by (try dsimp only); first | assumption | omega | trivial)) (cwV 1 hts (lg_goodV k922 k924 k11 k122 kc_SystemUse_close) rfl rfl rfl (by decide +kernel) ⟨Nat.le_of_ble_eq_true rfl, Nat.le_of_ble_eq_true rfl⟩) ⟨fun a U g mk q => by obtain ⟨q0, q1, qP, qK, qN, qD⟩ := q; exact ⟨q0, q1, qP, va_K.moved (u := U) (U := U.calling g mk a) (Vm.Alike.refl U.vm) qK, qN.calling, qD⟩, va_recv hK hP (ci := 8) (q0 := 1) rfl rfl, fun U hU hW => ⟨rfl, by rw [hU], by rw [hU]; exact hPc, va_K.moved hW.alike hK, NN.warm hW hN, hDc.weaken (fun _ _ _ _ => trivial)⟩⟩ rfl rfl hl.1 rfl (lv_room (Nat.le_of_ble_eq_true rfl)) d_SystemUse_addTarget_93 ⟨hkc, hks⟩) hS (fun q _ h => hFc q h) hFc (fun u t H1 locs ht hvm hp_r8 hB hz1 hk1 hS => ?_)
        obtain ⟨uc2_9, g_10, ef2_11⟩ := u
        obtain ⟨hP1, hD1⟩ := hB
        rw [ht] at hP1
        obtain ⟨hP, hD⟩ := va_join (wr := []) (w1 := [(u0, .inr (8, [.ref pb, .ref en, .int uc2_9, .int uk])), (pb, .inr (1, [.ref pq, .int lL])), (pq, .inl (cB, 400, .inl g_10)), (en, .inl (cI, 4, .inl ef2_11))]) hP hD [1, 2, 3, 0] [] rfl rfl (by decide +kernel) (by decide +kernel) hk1 hFc hP1 hD1
        clear hPc hDc hFc hP1 hD1 hk1 hz1 hkc hks
        generalize H1 = H at hP hS ⊢
        have hP : va_P D CL [(u0, .inr (8, [.ref pb, .ref en, .int uc2_9, .int uk])), (pb, .inr (1, [.ref pq, .int lL])), (pq, .inl (cB, 400, .inl g_10)), (en, .inl (cI, 4, .inl ef2_11))] H := hP
        have hD : va_D A [(u0, .inr (8, [.ref pb, .ref en, .int uc2_9, .int uk])), (pb, .inr (1, [.ref pq, .int lL])), (pq, .inl (cB, 400, .inl g_10)), (en, .inl (cI, 4, .inl ef2_11))] := hD
        try dsimp only at hp_r8
        obtain ⟨huc2_12, hen2_13⟩ := hp_r8
        have hP9 := hP.sub (ws' := [(u0, .inr (8, [.ref pb, .ref en, .int uc2_9, .int uk])), (pb, .inr (1, [.ref pq, .int lL])), (pq, .inl (cB, 400, .inl g_10)), (en, .inl (cI, 4, .inl ef2_11))]) [0, 1, 2, 3] rfl
        have hD9 := hD.sub (ws' := [(u0, .inr (8, [.ref pb, .ref en, .int uc2_9, .int uk])), (pb, .inr (1, [.ref pq, .int lL])), (pq, .inl (cB, 400, .inl g_10)), (en, .inl (cI, 4, .inl ef2_11))]) [0, 1, 2, 3] (by decide +kernel) rfl
        exact W.vret hx hb hr (fun t ht hW => ⟨⟨(uc2_9, lL, g_10, ef2_11), rfl, ⟨(by (try dsimp only); first | assumption | omega | trivial), (by (try dsimp only); first | assumption | omega | trivial), hen2_13, (by (try dsimp only); unfold compS; have h7 := i_cl (a := kx) (by omega); rw [show nt + 1 = kx.toNatClampNeg by omega]; (have z9 := e8); unfold SatI at z9 ⊢; omega)⟩, by rw [ht]; exact hP9, hD9⟩, hS.F ht⟩) hS.2.2 d_SystemUse_addTarget_96
      · skip
        have g40_13 : ¬ v7.toInt < kx.toInt := fun h8 => h_9 ((i_lt rfl rfl).mpr h8)
        refine zz_labM (B := fun (lk : Nat) (K : Heap → List Loc → Array Slot → List Value → Prop) => ∀ (fs : Int32) (mL : Int32) (mf : Nat → Int32) (H : Heap) (locs : List Loc) (ls : Array Slot), lk = 0 → (0 ≤ fs.toInt ∧ fs.toInt ≤ kx.toInt + 1) → (pL.toInt ≤ mL.toInt ∧ mL.toInt ≤ 400) → (fs.toNatClampNeg = cpF gv nt (kx.toNatClampNeg + 1)) → (SatI (pL.toInt + 5 + t0F gv nt + cpT gv nt (kx.toNatClampNeg + 1)) mL.toInt) → va_P D CL [(en, .inl (cI, 4, .inl ef)), (u0, .inr (8, [.ref pb, .ref en, .int uc, .int uk])), (pb, .inr (1, [.ref pq, .int mL])), (pq, .inl (cB, 400, .inl mf))] H → va_D A [(en, .inl (cI, 4, .inl ef)), (u0, .inr (8, [.ref pb, .ref en, .int uc, .int uk])), (pb, .inr (1, [.ref pq, .int mL])), (pq, .inl (cB, 400, .inl mf))] → va_S A s.heap H locs → lv_has ls 5 [(0, .ref u0), (1, .ref tt), (2, .int op), (3, .int fs), (4, .int kx)] → K H locs ls []) 85 ?_ ?_
        · skip
          intro lk ih85 fs mL mf H locs ls hm85 e4 e5 e11 e12 hP hD hS hl
          obtain ⟨v14, e_v14⟩ : ∃ z : Int32, z = kx + 1 := ⟨_, rfl⟩
          refine lv_iinc (v := v14) hx hb d_SystemUse_addTarget_85 hl (k := 4) rfl e_v14.symm (by decide +kernel) rfl (fun ls hl => ?_)
          have t_v14 : v14.toInt = kx.toInt + 1 := by rw [e_v14]; exact i_add rfl (by decide) (by omega) (by omega)
          have hl : lv_has ls 5 [(4, .int v14), (0, .ref u0), (1, .ref tt), (2, .int op), (3, .int fs)] := hl
          refine lv_goto (tgt := 36) hx hb d_SystemUse_addTarget_88 (by decide) ?_
          have hP := hP.sub (ws' := [(en, .inl (cI, 4, .inl ef)), (u0, .inr (8, [.ref pb, .ref en, .int uc, .int uk])), (pb, .inr (1, [.ref pq, .int mL])), (pq, .inl (cB, 400, .inl mf))]) [0, 1, 2, 3] rfl
          have hD := hD.sub (ws' := [(en, .inl (cI, 4, .inl ef)), (u0, .inr (8, [.ref pb, .ref en, .int uc, .int uk])), (pb, .inr (1, [.ref pq, .int mL])), (pq, .inl (cB, 400, .inl mf))]) [0, 1, 2, 3] (by decide +kernel) rfl
          have hl := lv_sub hl [1, 2, 3, 4, 0] rfl
          exact ih36 _ (by first | omega | (dsimp only; omega)) fs v14 mL mf _ _ _ rfl ((by (try dsimp only); first | assumption | omega | trivial)) ((by (try dsimp only); first | assumption | omega | trivial)) ((by have h5 := i_cl (a := v14) (by omega); have h7 := i_cl (a := kx) (by omega); rw [show v14.toNatClampNeg = kx.toNatClampNeg + 1 by omega]; exact e11)) ((by have h5 := i_cl (a := v14) (by omega); have h7 := i_cl (a := kx) (by omega); rw [show v14.toNatClampNeg = kx.toNatClampNeg + 1 by omega]; exact e12)) hP hD hS hl
        · skip
          intro kk85
          refine lv_iload hx hb d_SystemUse_addTarget_43 (lv_at hl 4 rfl) ?_
          refine lv_aload_n hx hb d_SystemUse_addTarget_45 rfl (lv_at hl 1 rfl) ?_
          have hPR := RO_at hZr hS
          refine va_alen (v := nI nt) hx hb hK hPR 0 0 rfl rfl rfl d_SystemUse_addTarget_46 ?_
          refine lv_topi (fun v15 e_v15 => ?_)
          have t_v15 : v15.toInt = nt := by rw [e_v15]; exact nI_toInt (by omega)
          refine lv_icmp_eq (tgt := 59) hx hb d_SystemUse_addTarget_47 (by decide) (fun h_9 => ?_) (fun h_9 => ?_)
          · skip
            have g47_24 : kx.toInt = v15.toInt := (i_eq rfl rfl).mp h_9
            refine lv_iload hx hb d_SystemUse_addTarget_59 (lv_at hl 4 rfl) ?_
            refine lv_iload_n hx hb d_SystemUse_addTarget_61 rfl (lv_at hl 3 rfl) ?_
            refine lv_icmp_le (tgt := 80) hx hb d_SystemUse_addTarget_62 (by decide) (fun h_9 => ?_) (fun h_9 => ?_)
            · skip
              have g62_27 : kx.toInt ≤ fr.toInt := (i_le rfl rfl).mp h_9
              refine lv_iload hx hb d_SystemUse_addTarget_80 (lv_at hl 4 rfl) ?_
              refine lv_iconst (v := 1) hx hb d_SystemUse_addTarget_82 (by decide) ?_
              refine lv_iadd hx hb d_SystemUse_addTarget_83 ?_
              refine lv_topi (fun v16 e_v16 => ?_)
              have t_v16 : v16.toInt = kx.toInt + 1 := by rw [e_v16]; exact i_add rfl (by decide) (by omega) (by omega)
              refine lv_istore_n hx hb d_SystemUse_addTarget_84 rfl hl (by decide) rfl (fun ls hl => ?_)
              have hl : lv_has ls 5 [(3, .int v16), (0, .ref u0), (1, .ref tt), (2, .int op), (4, .int kx)] := hl
              have hP := hP.sub (ws' := [(en, .inl (cI, 4, .inl ef)), (u0, .inr (8, [.ref pb, .ref en, .int uc, .int uk])), (pb, .inr (1, [.ref pq, .int lL])), (pq, .inl (cB, 400, .inl lf))]) [0, 1, 2, 3] rfl
              have hD := hD.sub (ws' := [(en, .inl (cI, 4, .inl ef)), (u0, .inr (8, [.ref pb, .ref en, .int uc, .int uk])), (pb, .inr (1, [.ref pq, .int lL])), (pq, .inl (cB, 400, .inl lf))]) [0, 1, 2, 3] (by decide +kernel) rfl
              have hl := lv_sub hl [1, 2, 3, 0, 4] rfl
              exact kk85 _ v16 lL lf _ _ _ rfl ((by (try dsimp only); first | assumption | omega | trivial)) ((by (try dsimp only); first | assumption | omega | trivial)) ((by have h7 := i_cl (a := kx) (by omega); have h6 := i_cl (a := fr) (by omega); (have hm : kx.toNatClampNeg = nt ∨ (gv kx.toNatClampNeg).toInt = 47 := by omega); have h5 := i_cl (a := v16) (by omega); rw [cpF_hit hm]; omega)) ((by have h7 := i_cl (a := kx) (by omega); have h6 := i_cl (a := fr) (by omega); (have hm : kx.toNatClampNeg = nt ∨ (gv kx.toNatClampNeg).toInt = 47 := by omega); rw [cpT_hit hm, ← e7]; unfold csz; rw [if_neg (by omega)]; (have z9 := e8); unfold SatI at z9 ⊢; omega)) hP hD hS hl
            · skip
              have g62_27 : ¬ kx.toInt ≤ fr.toInt := fun h8 => h_9 ((i_le rfl rfl).mpr h8)
              refine lv_aload_n hx hb d_SystemUse_addTarget_65 rfl (lv_at hl 0 rfl) ?_
              refine lv_aload_n hx hb d_SystemUse_addTarget_66 rfl (lv_at hl 1 rfl) ?_
              refine lv_aload_n hx hb d_SystemUse_addTarget_67 rfl (lv_at hl 1 rfl) ?_
              refine lv_iload_n hx hb d_SystemUse_addTarget_68 rfl (lv_at hl 3 rfl) ?_
              refine lv_iload hx hb d_SystemUse_addTarget_69 (lv_at hl 4 rfl) ?_
              have hPc := hP.sub (ws' := []) [] rfl
              have hDc := hD.sub (ws' := []) [] (by decide +kernel) rfl
              have hFc := va_free (wc := []) hD hS hA [] rfl
              have hkc : 0 ≤ 0 := by decide
              have hks : 0 ≤ 0 := by decide
              refine va_calli (va_runS (As := [.ref tt, .int fr, .int kx]) (rest := [.ref tt, .ref u0]) ⟨hx, hb, hml, hown, hts⟩ (c3_marksOf l D cB cI cJ cZ cN cF H.size tt nt gv fr kx (by (try dsimp only); first | assumption | omega | trivial) (by (try dsimp only); first | assumption | omega | trivial)) (cwS 3 hts (lg_goodS k919 k920 k122 kc_SystemUse_marksOf) rfl rfl rfl (by decide +kernel) ⟨Nat.le_of_ble_eq_true rfl, Nat.le_of_ble_eq_true rfl⟩) ⟨fun a U g mk q => by obtain ⟨q0, q1, qP, qK, qN, qD, qZ0⟩ := q; exact ⟨q0, q1, qP, va_K.moved (u := U) (U := U.calling g mk a) (Vm.Alike.refl U.vm) qK, qN.calling, qD, RO_blind qZ0⟩, fun U hU hW => ⟨rfl, by rw [hU], by rw [hU]; exact hPc, va_K.moved hW.alike hK, NN.warm hW hN, hDc.weaken (fun _ _ _ _ => trivial), (RO_pass (RO_one hZr 0 rfl) hS hFc hU)⟩⟩ rfl rfl hl.1 rfl (lv_room (Nat.le_of_ble_eq_true rfl)) d_SystemUse_addTarget_71 ⟨hkc, hks⟩) hS (fun q _ h => hFc q h) hFc (fun r17 u t H1 locs ht hvm hp_r17 hB hz1 hk1 hS => ?_)
              obtain ⟨hP1, hD1⟩ := hB
              rw [ht] at hP1
              obtain ⟨hP, hD⟩ := va_join (wr := [(en, .inl (cI, 4, .inl ef)), (u0, .inr (8, [.ref pb, .ref en, .int uc, .int uk])), (pb, .inr (1, [.ref pq, .int lL])), (pq, .inl (cB, 400, .inl lf))]) (w1 := []) hP hD [] [0, 1, 2, 3] rfl rfl (by decide +kernel) (by decide +kernel) hk1 hFc hP1 hD1
              clear hPc hDc hFc hP1 hD1 hk1 hz1 hkc hks
              generalize H1 = H at hP hS ⊢
              have hP : va_P D CL [(en, .inl (cI, 4, .inl ef)), (u0, .inr (8, [.ref pb, .ref en, .int uc, .int uk])), (pb, .inr (1, [.ref pq, .int lL])), (pq, .inl (cB, 400, .inl lf))] H := hP
              have hD : va_D A [(en, .inl (cI, 4, .inl ef)), (u0, .inr (8, [.ref pb, .ref en, .int uc, .int uk])), (pb, .inr (1, [.ref pq, .int lL])), (pq, .inl (cB, 400, .inl lf))] := hD
              try dsimp only at hp_r17
              have hm_18 := hp_r17
              refine lv_iload_n hx hb d_SystemUse_addTarget_74 rfl (lv_at hl 3 rfl) ?_
              refine lv_iload hx hb d_SystemUse_addTarget_75 (lv_at hl 4 rfl) ?_
              have hPc := hP.sub (ws' := [(u0, .inr (8, [.ref pb, .ref en, .int uc, .int uk])), (pb, .inr (1, [.ref pq, .int lL])), (pq, .inl (cB, 400, .inl lf))]) [1, 2, 3] rfl
              have hDc := hD.sub (ws' := [(u0, .inr (8, [.ref pb, .ref en, .int uc, .int uk])), (pb, .inr (1, [.ref pq, .int lL])), (pq, .inl (cB, 400, .inl lf))]) [1, 2, 3] (by decide +kernel) rfl
              have hFc := va_free (wc := [(u0, .inr (8, [.ref pb, .ref en, .int uc, .int uk])), (pb, .inr (1, [.ref pq, .int lL])), (pq, .inl (cB, 400, .inl lf))]) hD hS hA [1, 2, 3] rfl
              have hkc : 0 ≤ 0 := by decide
              have hks : 0 ≤ 0 := by decide
              refine va_callv (va_runV (C := "DiscMaker$SystemUse") (As := [.ref tt, .int r17, .int fr, .int kx]) (rest := []) ⟨hx, hb, hml, hown, hts⟩ (c3_addComponent l D cB cI cJ cZ cN cF H.size u0 pb pq en uc uk lL lf tt nt gv r17 fr kx (by (try dsimp only); first | assumption | omega | trivial) (by (try dsimp only); first | assumption | omega | trivial) (by (try dsimp only); first | assumption | omega | trivial)) (cwV 4 hts (lg_goodV k915 k917 k10 k122 kc_SystemUse_addComponent) rfl rfl rfl (by decide +kernel) ⟨Nat.le_of_ble_eq_true rfl, Nat.le_of_ble_eq_true rfl⟩) ⟨fun a U g mk q => by obtain ⟨q0, q1, qP, qK, qN, qD, qZ0⟩ := q; exact ⟨q0, q1, qP, va_K.moved (u := U) (U := U.calling g mk a) (Vm.Alike.refl U.vm) qK, qN.calling, qD, RO_blind qZ0⟩, va_recv hK hP (ci := 8) (q0 := 1) rfl rfl, fun U hU hW => ⟨rfl, by rw [hU], by rw [hU]; exact hPc, va_K.moved hW.alike hK, NN.warm hW hN, hDc.weaken (fun _ _ _ _ => trivial), (RO_pass (RO_one hZr 0 rfl) hS hFc hU)⟩⟩ rfl rfl hl.1 rfl (lv_room (Nat.le_of_ble_eq_true rfl)) d_SystemUse_addTarget_77 ⟨hkc, hks⟩) hS (fun q _ h => hFc q h) hFc (fun u t H1 locs ht hvm hp_r19 hB hz1 hk1 hS => ?_)
              obtain ⟨L2_20, g_21⟩ := u
              obtain ⟨hP1, hD1⟩ := hB
              rw [ht] at hP1
              obtain ⟨hP, hD⟩ := va_join (wr := [(en, .inl (cI, 4, .inl ef))]) (w1 := [(u0, .inr (8, [.ref pb, .ref en, .int uc, .int uk])), (pb, .inr (1, [.ref pq, .int L2_20])), (pq, .inl (cB, 400, .inl g_21))]) hP hD [1, 2, 3] [0] rfl rfl (by decide +kernel) (by decide +kernel) hk1 hFc hP1 hD1
              clear hPc hDc hFc hP1 hD1 hk1 hz1 hkc hks
              generalize H1 = H at hP hS ⊢
              have hP : va_P D CL [(en, .inl (cI, 4, .inl ef)), (u0, .inr (8, [.ref pb, .ref en, .int uc, .int uk])), (pb, .inr (1, [.ref pq, .int L2_20])), (pq, .inl (cB, 400, .inl g_21))] H := hP
              have hD : va_D A [(en, .inl (cI, 4, .inl ef)), (u0, .inr (8, [.ref pb, .ref en, .int uc, .int uk])), (pb, .inr (1, [.ref pq, .int L2_20])), (pq, .inl (cB, 400, .inl g_21))] := hD
              try dsimp only at hp_r19
              obtain ⟨hL2_22, hS9_23⟩ := hp_r19
              refine lv_iload hx hb d_SystemUse_addTarget_80 (lv_at hl 4 rfl) ?_
              refine lv_iconst (v := 1) hx hb d_SystemUse_addTarget_82 (by decide) ?_
              refine lv_iadd hx hb d_SystemUse_addTarget_83 ?_
              refine lv_topi (fun v24 e_v24 => ?_)
              have t_v24 : v24.toInt = kx.toInt + 1 := by rw [e_v24]; exact i_add rfl (by decide) (by omega) (by omega)
              refine lv_istore_n hx hb d_SystemUse_addTarget_84 rfl hl (by decide) rfl (fun ls hl => ?_)
              have hl : lv_has ls 5 [(3, .int v24), (0, .ref u0), (1, .ref tt), (2, .int op), (4, .int kx)] := hl
              have hP := hP.sub (ws' := [(en, .inl (cI, 4, .inl ef)), (u0, .inr (8, [.ref pb, .ref en, .int uc, .int uk])), (pb, .inr (1, [.ref pq, .int L2_20])), (pq, .inl (cB, 400, .inl g_21))]) [0, 1, 2, 3] rfl
              have hD := hD.sub (ws' := [(en, .inl (cI, 4, .inl ef)), (u0, .inr (8, [.ref pb, .ref en, .int uc, .int uk])), (pb, .inr (1, [.ref pq, .int L2_20])), (pq, .inl (cB, 400, .inl g_21))]) [0, 1, 2, 3] (by decide +kernel) rfl
              have hl := lv_sub hl [1, 2, 3, 0, 4] rfl
              exact kk85 _ v24 L2_20 g_21 _ _ _ rfl ((by (try dsimp only); first | assumption | omega | trivial)) ((by (try dsimp only); first | assumption | omega | trivial)) ((by have h7 := i_cl (a := kx) (by omega); have h6 := i_cl (a := fr) (by omega); (have hm : kx.toNatClampNeg = nt ∨ (gv kx.toNatClampNeg).toInt = 47 := by omega); have h5 := i_cl (a := v24) (by omega); rw [cpF_hit hm]; omega)) ((by have h7 := i_cl (a := kx) (by omega); have h6 := i_cl (a := fr) (by omega); (have hm : kx.toNatClampNeg = nt ∨ (gv kx.toNatClampNeg).toInt = 47 := by omega); rw [cpT_hit hm, ← e7]; unfold csz; rw [if_pos (by omega), ← hm_18]; (have z9 := e8); (have z8 := hS9_23); unfold SatI at z8 z9 ⊢; rcases z8 with ⟨z7, z6⟩ | ⟨z7, z6⟩ <;> first | (rw [if_pos z7]; omega) | (rw [if_neg z7]; omega))) hP hD hS hl
          · skip
            have g47_24 : ¬ kx.toInt = v15.toInt := fun h8 => h_9 ((i_eq rfl rfl).mpr h8)
            refine lv_aload_n hx hb d_SystemUse_addTarget_50 rfl (lv_at hl 1 rfl) ?_
            refine lv_iload hx hb d_SystemUse_addTarget_51 (lv_at hl 4 rfl) ?_
            have hPR := RO_at hZr hS
            refine va_bald hx hb hK hPR 0 0 rfl rfl (vp_in_iff.mpr ⟨by omega, by omega⟩) d_SystemUse_addTarget_53 ?_
            refine lv_topi (fun v25 e_v25 => ?_)
            have w_v25 : v25.toInt = (gv kx.toNatClampNeg).toInt := congrArg Int32.toInt e_v25
            refine lv_bipush (v := 47) hx hb d_SystemUse_addTarget_54 (by decide) ?_
            refine lv_icmp_ne (tgt := 85) hx hb d_SystemUse_addTarget_56 (by decide) (fun h_9 => ?_) (fun h_9 => ?_)
            · skip
              have g56_51 : ¬ v25.toInt = 47 := fun h8 => h_9 ((i_eq rfl (by decide)).mpr h8)
              have hP := hP.sub (ws' := [(en, .inl (cI, 4, .inl ef)), (u0, .inr (8, [.ref pb, .ref en, .int uc, .int uk])), (pb, .inr (1, [.ref pq, .int lL])), (pq, .inl (cB, 400, .inl lf))]) [0, 1, 2, 3] rfl
              have hD := hD.sub (ws' := [(en, .inl (cI, 4, .inl ef)), (u0, .inr (8, [.ref pb, .ref en, .int uc, .int uk])), (pb, .inr (1, [.ref pq, .int lL])), (pq, .inl (cB, 400, .inl lf))]) [0, 1, 2, 3] (by decide +kernel) rfl
              have hl := lv_sub hl [0, 1, 2, 3, 4] rfl
              exact kk85 _ fr lL lf _ _ _ rfl ((by (try dsimp only); first | assumption | omega | trivial)) ((by (try dsimp only); first | assumption | omega | trivial)) ((by have h7 := i_cl (a := kx) (by omega); have h6 := i_cl (a := fr) (by omega); (have hm : ¬ (kx.toNatClampNeg = nt ∨ (gv kx.toNatClampNeg).toInt = 47) := by omega); rw [cpF_miss hm]; exact e7)) ((by have h7 := i_cl (a := kx) (by omega); have h6 := i_cl (a := fr) (by omega); (have hm : ¬ (kx.toNatClampNeg = nt ∨ (gv kx.toNatClampNeg).toInt = 47) := by omega); rw [cpT_miss hm]; exact e8)) hP hD hS hl
            · skip
              have g56_51 : v25.toInt = 47 := (i_eq rfl (by decide)).mp h_9
              refine lv_iload hx hb d_SystemUse_addTarget_59 (lv_at hl 4 rfl) ?_
              refine lv_iload_n hx hb d_SystemUse_addTarget_61 rfl (lv_at hl 3 rfl) ?_
              refine lv_icmp_le (tgt := 80) hx hb d_SystemUse_addTarget_62 (by decide) (fun h_9 => ?_) (fun h_9 => ?_)
              · skip
                have g62_55 : kx.toInt ≤ fr.toInt := (i_le rfl rfl).mp h_9
                refine lv_iload hx hb d_SystemUse_addTarget_80 (lv_at hl 4 rfl) ?_
                refine lv_iconst (v := 1) hx hb d_SystemUse_addTarget_82 (by decide) ?_
                refine lv_iadd hx hb d_SystemUse_addTarget_83 ?_
                refine lv_topi (fun v26 e_v26 => ?_)
                have t_v26 : v26.toInt = kx.toInt + 1 := by rw [e_v26]; exact i_add rfl (by decide) (by omega) (by omega)
                refine lv_istore_n hx hb d_SystemUse_addTarget_84 rfl hl (by decide) rfl (fun ls hl => ?_)
                have hl : lv_has ls 5 [(3, .int v26), (0, .ref u0), (1, .ref tt), (2, .int op), (4, .int kx)] := hl
                have hP := hP.sub (ws' := [(en, .inl (cI, 4, .inl ef)), (u0, .inr (8, [.ref pb, .ref en, .int uc, .int uk])), (pb, .inr (1, [.ref pq, .int lL])), (pq, .inl (cB, 400, .inl lf))]) [0, 1, 2, 3] rfl
                have hD := hD.sub (ws' := [(en, .inl (cI, 4, .inl ef)), (u0, .inr (8, [.ref pb, .ref en, .int uc, .int uk])), (pb, .inr (1, [.ref pq, .int lL])), (pq, .inl (cB, 400, .inl lf))]) [0, 1, 2, 3] (by decide +kernel) rfl
                have hl := lv_sub hl [1, 2, 3, 0, 4] rfl
                exact kk85 _ v26 lL lf _ _ _ rfl ((by (try dsimp only); first | assumption | omega | trivial)) ((by (try dsimp only); first | assumption | omega | trivial)) ((by have h7 := i_cl (a := kx) (by omega); have h6 := i_cl (a := fr) (by omega); (have hm : kx.toNatClampNeg = nt ∨ (gv kx.toNatClampNeg).toInt = 47 := by omega); have h5 := i_cl (a := v26) (by omega); rw [cpF_hit hm]; omega)) ((by have h7 := i_cl (a := kx) (by omega); have h6 := i_cl (a := fr) (by omega); (have hm : kx.toNatClampNeg = nt ∨ (gv kx.toNatClampNeg).toInt = 47 := by omega); rw [cpT_hit hm, ← e7]; unfold csz; rw [if_neg (by omega)]; (have z9 := e8); unfold SatI at z9 ⊢; omega)) hP hD hS hl
              · skip
                have g62_55 : ¬ kx.toInt ≤ fr.toInt := fun h8 => h_9 ((i_le rfl rfl).mpr h8)
                refine lv_aload_n hx hb d_SystemUse_addTarget_65 rfl (lv_at hl 0 rfl) ?_
                refine lv_aload_n hx hb d_SystemUse_addTarget_66 rfl (lv_at hl 1 rfl) ?_
                refine lv_aload_n hx hb d_SystemUse_addTarget_67 rfl (lv_at hl 1 rfl) ?_
                refine lv_iload_n hx hb d_SystemUse_addTarget_68 rfl (lv_at hl 3 rfl) ?_
                refine lv_iload hx hb d_SystemUse_addTarget_69 (lv_at hl 4 rfl) ?_
                have hPc := hP.sub (ws' := []) [] rfl
                have hDc := hD.sub (ws' := []) [] (by decide +kernel) rfl
                have hFc := va_free (wc := []) hD hS hA [] rfl
                have hkc : 0 ≤ 0 := by decide
                have hks : 0 ≤ 0 := by decide
                refine va_calli (va_runS (As := [.ref tt, .int fr, .int kx]) (rest := [.ref tt, .ref u0]) ⟨hx, hb, hml, hown, hts⟩ (c3_marksOf l D cB cI cJ cZ cN cF H.size tt nt gv fr kx (by (try dsimp only); first | assumption | omega | trivial) (by (try dsimp only); first | assumption | omega | trivial)) (cwS 3 hts (lg_goodS k919 k920 k122 kc_SystemUse_marksOf) rfl rfl rfl (by decide +kernel) ⟨Nat.le_of_ble_eq_true rfl, Nat.le_of_ble_eq_true rfl⟩) ⟨fun a U g mk q => by obtain ⟨q0, q1, qP, qK, qN, qD, qZ0⟩ := q; exact ⟨q0, q1, qP, va_K.moved (u := U) (U := U.calling g mk a) (Vm.Alike.refl U.vm) qK, qN.calling, qD, RO_blind qZ0⟩, fun U hU hW => ⟨rfl, by rw [hU], by rw [hU]; exact hPc, va_K.moved hW.alike hK, NN.warm hW hN, hDc.weaken (fun _ _ _ _ => trivial), (RO_pass (RO_one hZr 0 rfl) hS hFc hU)⟩⟩ rfl rfl hl.1 rfl (lv_room (Nat.le_of_ble_eq_true rfl)) d_SystemUse_addTarget_71 ⟨hkc, hks⟩) hS (fun q _ h => hFc q h) hFc (fun r27 u t H1 locs ht hvm hp_r27 hB hz1 hk1 hS => ?_)
                obtain ⟨hP1, hD1⟩ := hB
                rw [ht] at hP1
                obtain ⟨hP, hD⟩ := va_join (wr := [(en, .inl (cI, 4, .inl ef)), (u0, .inr (8, [.ref pb, .ref en, .int uc, .int uk])), (pb, .inr (1, [.ref pq, .int lL])), (pq, .inl (cB, 400, .inl lf))]) (w1 := []) hP hD [] [0, 1, 2, 3] rfl rfl (by decide +kernel) (by decide +kernel) hk1 hFc hP1 hD1
                clear hPc hDc hFc hP1 hD1 hk1 hz1 hkc hks
                generalize H1 = H at hP hS ⊢
                have hP : va_P D CL [(en, .inl (cI, 4, .inl ef)), (u0, .inr (8, [.ref pb, .ref en, .int uc, .int uk])), (pb, .inr (1, [.ref pq, .int lL])), (pq, .inl (cB, 400, .inl lf))] H := hP
                have hD : va_D A [(en, .inl (cI, 4, .inl ef)), (u0, .inr (8, [.ref pb, .ref en, .int uc, .int uk])), (pb, .inr (1, [.ref pq, .int lL])), (pq, .inl (cB, 400, .inl lf))] := hD
                try dsimp only at hp_r27
                have hm_28 := hp_r27
                refine lv_iload_n hx hb d_SystemUse_addTarget_74 rfl (lv_at hl 3 rfl) ?_
                refine lv_iload hx hb d_SystemUse_addTarget_75 (lv_at hl 4 rfl) ?_
                have hPc := hP.sub (ws' := [(u0, .inr (8, [.ref pb, .ref en, .int uc, .int uk])), (pb, .inr (1, [.ref pq, .int lL])), (pq, .inl (cB, 400, .inl lf))]) [1, 2, 3] rfl
                have hDc := hD.sub (ws' := [(u0, .inr (8, [.ref pb, .ref en, .int uc, .int uk])), (pb, .inr (1, [.ref pq, .int lL])), (pq, .inl (cB, 400, .inl lf))]) [1, 2, 3] (by decide +kernel) rfl
                have hFc := va_free (wc := [(u0, .inr (8, [.ref pb, .ref en, .int uc, .int uk])), (pb, .inr (1, [.ref pq, .int lL])), (pq, .inl (cB, 400, .inl lf))]) hD hS hA [1, 2, 3] rfl
                have hkc : 0 ≤ 0 := by decide
                have hks : 0 ≤ 0 := by decide
                refine va_callv (va_runV (C := "DiscMaker$SystemUse") (As := [.ref tt, .int r27, .int fr, .int kx]) (rest := []) ⟨hx, hb, hml, hown, hts⟩ (c3_addComponent l D cB cI cJ cZ cN cF H.size u0 pb pq en uc uk lL lf tt nt gv r27 fr kx (by (try dsimp only); first | assumption | omega | trivial) (by (try dsimp only); first | assumption | omega | trivial) (by (try dsimp only); first | assumption | omega | trivial)) (cwV 4 hts (lg_goodV k915 k917 k10 k122 kc_SystemUse_addComponent) rfl rfl rfl (by decide +kernel) ⟨Nat.le_of_ble_eq_true rfl, Nat.le_of_ble_eq_true rfl⟩) ⟨fun a U g mk q => by obtain ⟨q0, q1, qP, qK, qN, qD, qZ0⟩ := q; exact ⟨q0, q1, qP, va_K.moved (u := U) (U := U.calling g mk a) (Vm.Alike.refl U.vm) qK, qN.calling, qD, RO_blind qZ0⟩, va_recv hK hP (ci := 8) (q0 := 1) rfl rfl, fun U hU hW => ⟨rfl, by rw [hU], by rw [hU]; exact hPc, va_K.moved hW.alike hK, NN.warm hW hN, hDc.weaken (fun _ _ _ _ => trivial), (RO_pass (RO_one hZr 0 rfl) hS hFc hU)⟩⟩ rfl rfl hl.1 rfl (lv_room (Nat.le_of_ble_eq_true rfl)) d_SystemUse_addTarget_77 ⟨hkc, hks⟩) hS (fun q _ h => hFc q h) hFc (fun u t H1 locs ht hvm hp_r29 hB hz1 hk1 hS => ?_)
                obtain ⟨L2_30, g_31⟩ := u
                obtain ⟨hP1, hD1⟩ := hB
                rw [ht] at hP1
                obtain ⟨hP, hD⟩ := va_join (wr := [(en, .inl (cI, 4, .inl ef))]) (w1 := [(u0, .inr (8, [.ref pb, .ref en, .int uc, .int uk])), (pb, .inr (1, [.ref pq, .int L2_30])), (pq, .inl (cB, 400, .inl g_31))]) hP hD [1, 2, 3] [0] rfl rfl (by decide +kernel) (by decide +kernel) hk1 hFc hP1 hD1
                clear hPc hDc hFc hP1 hD1 hk1 hz1 hkc hks
                generalize H1 = H at hP hS ⊢
                have hP : va_P D CL [(en, .inl (cI, 4, .inl ef)), (u0, .inr (8, [.ref pb, .ref en, .int uc, .int uk])), (pb, .inr (1, [.ref pq, .int L2_30])), (pq, .inl (cB, 400, .inl g_31))] H := hP
                have hD : va_D A [(en, .inl (cI, 4, .inl ef)), (u0, .inr (8, [.ref pb, .ref en, .int uc, .int uk])), (pb, .inr (1, [.ref pq, .int L2_30])), (pq, .inl (cB, 400, .inl g_31))] := hD
                try dsimp only at hp_r29
                obtain ⟨hL2_32, hS9_33⟩ := hp_r29
                refine lv_iload hx hb d_SystemUse_addTarget_80 (lv_at hl 4 rfl) ?_
                refine lv_iconst (v := 1) hx hb d_SystemUse_addTarget_82 (by decide) ?_
                refine lv_iadd hx hb d_SystemUse_addTarget_83 ?_
                refine lv_topi (fun v34 e_v34 => ?_)
                have t_v34 : v34.toInt = kx.toInt + 1 := by rw [e_v34]; exact i_add rfl (by decide) (by omega) (by omega)
                refine lv_istore_n hx hb d_SystemUse_addTarget_84 rfl hl (by decide) rfl (fun ls hl => ?_)
                have hl : lv_has ls 5 [(3, .int v34), (0, .ref u0), (1, .ref tt), (2, .int op), (4, .int kx)] := hl
                have hP := hP.sub (ws' := [(en, .inl (cI, 4, .inl ef)), (u0, .inr (8, [.ref pb, .ref en, .int uc, .int uk])), (pb, .inr (1, [.ref pq, .int L2_30])), (pq, .inl (cB, 400, .inl g_31))]) [0, 1, 2, 3] rfl
                have hD := hD.sub (ws' := [(en, .inl (cI, 4, .inl ef)), (u0, .inr (8, [.ref pb, .ref en, .int uc, .int uk])), (pb, .inr (1, [.ref pq, .int L2_30])), (pq, .inl (cB, 400, .inl g_31))]) [0, 1, 2, 3] (by decide +kernel) rfl
                have hl := lv_sub hl [1, 2, 3, 0, 4] rfl
                exact kk85 _ v34 L2_30 g_31 _ _ _ rfl ((by (try dsimp only); first | assumption | omega | trivial)) ((by (try dsimp only); first | assumption | omega | trivial)) ((by have h7 := i_cl (a := kx) (by omega); have h6 := i_cl (a := fr) (by omega); (have hm : kx.toNatClampNeg = nt ∨ (gv kx.toNatClampNeg).toInt = 47 := by omega); have h5 := i_cl (a := v34) (by omega); rw [cpF_hit hm]; omega)) ((by have h7 := i_cl (a := kx) (by omega); have h6 := i_cl (a := fr) (by omega); (have hm : kx.toNatClampNeg = nt ∨ (gv kx.toNatClampNeg).toInt = 47 := by omega); rw [cpT_hit hm, ← e7]; unfold csz; rw [if_pos (by omega), ← hm_28]; (have z9 := e8); (have z8 := hS9_33); unfold SatI at z8 z9 ⊢; rcases z8 with ⟨z7, z6⟩ | ⟨z7, z6⟩ <;> first | (rw [if_pos z7]; omega) | (rw [if_neg z7]; omega))) hP hD hS hl
    · skip
      intro kk36
      have hP := hP.sub (ws' := [(en, .inl (cI, 4, .inl ef)), (u0, .inr (8, [.ref pb, .ref en, .int uc, .int uk])), (pb, .inr (1, [.ref pq, .int jL])), (pq, .inl (cB, 400, .inl jf))]) [0, 1, 2, 3] rfl
      have hD := hD.sub (ws' := [(en, .inl (cI, 4, .inl ef)), (u0, .inr (8, [.ref pb, .ref en, .int uc, .int uk])), (pb, .inr (1, [.ref pq, .int jL])), (pq, .inl (cB, 400, .inl jf))]) [0, 1, 2, 3] (by decide +kernel) rfl
      have hl := lv_sub hl [2, 3, 4, 1, 0] rfl
      exact kk36 _ 0 0 jL jf _ _ _ rfl ((by (try dsimp only); first | assumption | omega | trivial)) ((by (try dsimp only); first | assumption | omega | trivial)) ((by rw [show (0 : Int32).toNatClampNeg = 0 by decide]; rfl)) ((by rw [show (0 : Int32).toNatClampNeg = 0 by decide]; (have z9 := e6); unfold SatI at z9 ⊢; simp only [cpT]; omega)) hP hD hS hl
  · skip
    intro kk31
    refine lv_aload_n hx hb d_SystemUse_addTarget_9 rfl (lv_at hl 2 rfl) ?_
    have hPR := RO_at hZr hS
    refine va_alen (v := nI nt) hx hb hK hPR 0 0 rfl rfl rfl d_SystemUse_addTarget_10 ?_
    refine lv_topi (fun v35 e_v35 => ?_)
    have t_v35 : v35.toInt = nt := by rw [e_v35]; exact nI_toInt (by omega)
    refine lv_if_le (tgt := 31) hx hb d_SystemUse_addTarget_11 (by decide) (fun h_9 => ?_) (fun h_9 => ?_)
    · skip
      have g11_77 : v35.toInt ≤ 0 := (i_le rfl (by decide)).mp h_9
      have hP := hP.sub (ws' := [(en, .inl (cI, 4, .inl ef)), (u0, .inr (8, [.ref pb, .ref en, .int uc, .int uk])), (pb, .inr (1, [.ref pq, .int L2_2])), (pq, .inl (cB, 400, .inl g_3))]) [0, 1, 2, 3] rfl
      have hD := hD.sub (ws' := [(en, .inl (cI, 4, .inl ef)), (u0, .inr (8, [.ref pb, .ref en, .int uc, .int uk])), (pb, .inr (1, [.ref pq, .int L2_2])), (pq, .inl (cB, 400, .inl g_3))]) [0, 1, 2, 3] (by decide +kernel) rfl
      have hl := lv_sub hl [1, 2, 0] rfl
      exact kk31 _ r1 L2_2 g_3 _ _ _ rfl ((by (try dsimp only); first | assumption | omega | trivial)) ((by (try dsimp only); first | assumption | omega | trivial)) ((by unfold t0F SatI; have z_hS9_6 := hS9_6; unfold SatI at z_hS9_6; first | (rw [if_pos ⟨by omega, by omega⟩]; omega) | (rw [if_neg (fun h8 => by have h9 := h8.1; omega)]; omega) | (rw [if_neg (fun h8 => by have h9 := h8.2; omega)]; omega))) hP hD hS hl
    · skip
      have g11_77 : ¬ v35.toInt ≤ 0 := fun h8 => h_9 ((i_le rfl (by decide)).mpr h8)
      refine lv_aload_n hx hb d_SystemUse_addTarget_14 rfl (lv_at hl 2 rfl) ?_
      refine lv_iconst (v := 0) hx hb d_SystemUse_addTarget_15 (by decide) ?_
      have hPR := RO_at hZr hS
      refine va_bald hx hb hK hPR 0 0 rfl rfl (vp_in_iff.mpr ⟨by omega, by omega⟩) d_SystemUse_addTarget_16 ?_
      refine lv_topi (fun v36 e_v36 => ?_)
      have w_v36 : v36.toInt = (gv 0).toInt := congrArg Int32.toInt e_v36
      refine lv_bipush (v := 47) hx hb d_SystemUse_addTarget_17 (by decide) ?_
      refine lv_icmp_ne (tgt := 31) hx hb d_SystemUse_addTarget_19 (by decide) (fun h_9 => ?_) (fun h_9 => ?_)
      · skip
        have g19_83 : ¬ v36.toInt = 47 := fun h8 => h_9 ((i_eq rfl (by decide)).mpr h8)
        have hP := hP.sub (ws' := [(en, .inl (cI, 4, .inl ef)), (u0, .inr (8, [.ref pb, .ref en, .int uc, .int uk])), (pb, .inr (1, [.ref pq, .int L2_2])), (pq, .inl (cB, 400, .inl g_3))]) [0, 1, 2, 3] rfl
        have hD := hD.sub (ws' := [(en, .inl (cI, 4, .inl ef)), (u0, .inr (8, [.ref pb, .ref en, .int uc, .int uk])), (pb, .inr (1, [.ref pq, .int L2_2])), (pq, .inl (cB, 400, .inl g_3))]) [0, 1, 2, 3] (by decide +kernel) rfl
        have hl := lv_sub hl [1, 2, 0] rfl
        exact kk31 _ r1 L2_2 g_3 _ _ _ rfl ((by (try dsimp only); first | assumption | omega | trivial)) ((by (try dsimp only); first | assumption | omega | trivial)) ((by unfold t0F SatI; have z_hS9_6 := hS9_6; unfold SatI at z_hS9_6; first | (rw [if_pos ⟨by omega, by omega⟩]; omega) | (rw [if_neg (fun h8 => by have h9 := h8.1; omega)]; omega) | (rw [if_neg (fun h8 => by have h9 := h8.2; omega)]; omega))) hP hD hS hl
      · skip
        have g19_83 : v36.toInt = 47 := (i_eq rfl (by decide)).mp h_9
        refine lv_aload_n hx hb d_SystemUse_addTarget_22 rfl (lv_at hl 1 rfl) ?_
        refine lv_aload_n hx hb d_SystemUse_addTarget_23 rfl (lv_at hl 2 rfl) ?_
        refine lv_bipush (v := 8) hx hb d_SystemUse_addTarget_24 (by decide) ?_
        refine lv_iconst (v := 0) hx hb d_SystemUse_addTarget_26 (by decide) ?_
        refine lv_iconst (v := 0) hx hb d_SystemUse_addTarget_27 (by decide) ?_
        have hPc := hP.sub (ws' := [(u0, .inr (8, [.ref pb, .ref en, .int uc, .int uk])), (pb, .inr (1, [.ref pq, .int L2_2])), (pq, .inl (cB, 400, .inl g_3))]) [1, 2, 3] rfl
        have hDc := hD.sub (ws' := [(u0, .inr (8, [.ref pb, .ref en, .int uc, .int uk])), (pb, .inr (1, [.ref pq, .int L2_2])), (pq, .inl (cB, 400, .inl g_3))]) [1, 2, 3] (by decide +kernel) rfl
        have hFc := va_free (wc := [(u0, .inr (8, [.ref pb, .ref en, .int uc, .int uk])), (pb, .inr (1, [.ref pq, .int L2_2])), (pq, .inl (cB, 400, .inl g_3))]) hD hS hA [1, 2, 3] rfl
        have hkc : 0 ≤ 0 := by decide
        have hks : 0 ≤ 0 := by decide
        refine va_callv (va_runV (C := "DiscMaker$SystemUse") (As := [.ref tt, .int 8, .int 0, .int 0]) (rest := []) ⟨hx, hb, hml, hown, hts⟩ (c3_addComponent l D cB cI cJ cZ cN cF H.size u0 pb pq en uc uk L2_2 g_3 tt nt gv 8 0 0 (by (try dsimp only); first | assumption | omega | trivial) (by (try dsimp only); first | assumption | omega | trivial) (by (try dsimp only); first | assumption | omega | trivial)) (cwV 4 hts (lg_goodV k915 k917 k10 k122 kc_SystemUse_addComponent) rfl rfl rfl (by decide +kernel) ⟨Nat.le_of_ble_eq_true rfl, Nat.le_of_ble_eq_true rfl⟩) ⟨fun a U g mk q => by obtain ⟨q0, q1, qP, qK, qN, qD, qZ0⟩ := q; exact ⟨q0, q1, qP, va_K.moved (u := U) (U := U.calling g mk a) (Vm.Alike.refl U.vm) qK, qN.calling, qD, RO_blind qZ0⟩, va_recv hK hP (ci := 8) (q0 := 1) rfl rfl, fun U hU hW => ⟨rfl, by rw [hU], by rw [hU]; exact hPc, va_K.moved hW.alike hK, NN.warm hW hN, hDc.weaken (fun _ _ _ _ => trivial), (RO_pass (RO_one hZr 0 rfl) hS hFc hU)⟩⟩ rfl rfl hl.1 rfl (lv_room (Nat.le_of_ble_eq_true rfl)) d_SystemUse_addTarget_28 ⟨hkc, hks⟩) hS (fun q _ h => hFc q h) hFc (fun u t H1 locs ht hvm hp_r37 hB hz1 hk1 hS => ?_)
        obtain ⟨L2_38, g_39⟩ := u
        obtain ⟨hP1, hD1⟩ := hB
        rw [ht] at hP1
        obtain ⟨hP, hD⟩ := va_join (wr := [(en, .inl (cI, 4, .inl ef))]) (w1 := [(u0, .inr (8, [.ref pb, .ref en, .int uc, .int uk])), (pb, .inr (1, [.ref pq, .int L2_38])), (pq, .inl (cB, 400, .inl g_39))]) hP hD [1, 2, 3] [0] rfl rfl (by decide +kernel) (by decide +kernel) hk1 hFc hP1 hD1
        clear hPc hDc hFc hP1 hD1 hk1 hz1 hkc hks
        generalize H1 = H at hP hS ⊢
        have hP : va_P D CL [(en, .inl (cI, 4, .inl ef)), (u0, .inr (8, [.ref pb, .ref en, .int uc, .int uk])), (pb, .inr (1, [.ref pq, .int L2_38])), (pq, .inl (cB, 400, .inl g_39))] H := hP
        have hD : va_D A [(en, .inl (cI, 4, .inl ef)), (u0, .inr (8, [.ref pb, .ref en, .int uc, .int uk])), (pb, .inr (1, [.ref pq, .int L2_38])), (pq, .inl (cB, 400, .inl g_39))] := hD
        try dsimp only at hp_r37
        obtain ⟨hL2_40, hS9_41⟩ := hp_r37
        try rw [L_0] at hS9_41
        try rw [L_8] at hS9_41
        have hP := hP.sub (ws' := [(en, .inl (cI, 4, .inl ef)), (u0, .inr (8, [.ref pb, .ref en, .int uc, .int uk])), (pb, .inr (1, [.ref pq, .int L2_38])), (pq, .inl (cB, 400, .inl g_39))]) [0, 1, 2, 3] rfl
        have hD := hD.sub (ws' := [(en, .inl (cI, 4, .inl ef)), (u0, .inr (8, [.ref pb, .ref en, .int uc, .int uk])), (pb, .inr (1, [.ref pq, .int L2_38])), (pq, .inl (cB, 400, .inl g_39))]) [0, 1, 2, 3] (by decide +kernel) rfl
        have hl := lv_sub hl [1, 2, 0] rfl
        exact kk31 _ r1 L2_38 g_39 _ _ _ rfl ((by (try dsimp only); first | assumption | omega | trivial)) ((by (try dsimp only); first | assumption | omega | trivial)) ((by unfold t0F SatI; have z_hS9_6 := hS9_6; unfold SatI at z_hS9_6; have z_hS9_41 := hS9_41; unfold SatI at z_hS9_41; first | (rw [if_pos ⟨by omega, by omega⟩]; omega) | (rw [if_neg (fun h8 => by have h9 := h8.1; omega)]; omega) | (rw [if_neg (fun h8 => by have h9 := h8.2; omega)]; omega))) hP hD hS hl
