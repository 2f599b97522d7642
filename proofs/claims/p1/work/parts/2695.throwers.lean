theorem zw_one {p : Program} {l : Launch} {x : MethodName} {S : Spec} {code : ByteArray} {maxLocals : Nat} {ret : Option FieldType} {e : Env} {s : State} {m : MethodId} {args : Array Value} {below : List Frame} {meth : Method} {c : Code} {s₁ : State} {hh : List (Nat × Nat × Nat × Nat)} (B : BodyLoose p l x S code maxLocals ret e s m args below meth c s₁) (h : (Cond.codeWith x code maxLocals ret hh).before args s = true) : c.exceptionTable.toList.map (fun h => (h.startPc, h.endPc, h.handlerPc, h.catchType)) = hh := by
  obtain ⟨m', meth', c', hn', hm', hc', -, -, he', -⟩ := Cond.codeWith_spec h
  cases B.named.symm.trans hn'
  cases B.method.symm.trans hm'
  cases (Stand.of_body B).code.symm.trans hc'
  exact he'
abbrev b_DiscMakerLaw_mount : ByteArray := method_3_code
abbrev y_DiscMakerLaw_mount : MethodName := ⟨"DiscMakerLaw", "mount", "(LDiscMaker;I[J)I"⟩
abbrev w_DiscMakerLaw_mount : List Cond := .codeWith y_DiscMakerLaw_mount b_DiscMakerLaw_mount 4 (some .int) [((0 : Nat), (9 : Nat), (12 : Nat), (13 : Nat))] :: lw_g
theorem kc_DiscMakerLaw_mount : Cond.codeWith y_DiscMakerLaw_mount b_DiscMakerLaw_mount 4 (some .int) [((0 : Nat), (9 : Nat), (12 : Nat), (13 : Nat))] ∈ lw_g := lg_mem 1148 (by decide +kernel) rfl
abbrev b_DiscMakerLaw_node : ByteArray := method_4_code
abbrev y_DiscMakerLaw_node : MethodName := ⟨"DiscMakerLaw", "node", "(LDiscMaker;II[J)I"⟩
abbrev w_DiscMakerLaw_node : List Cond := .codeWith y_DiscMakerLaw_node b_DiscMakerLaw_node 5 (some .int) [((0 : Nat), (10 : Nat), (13 : Nat), (19 : Nat))] :: lw_g
theorem kc_DiscMakerLaw_node : Cond.codeWith y_DiscMakerLaw_node b_DiscMakerLaw_node 5 (some .int) [((0 : Nat), (10 : Nat), (13 : Nat), (19 : Nat))] ∈ lw_g := lg_mem 1373 (by decide +kernel) rfl
abbrev b_DiscMakerLaw_name : ByteArray := method_5_code
abbrev y_DiscMakerLaw_name : MethodName := ⟨"DiscMakerLaw", "name", "(LDiscMaker;II[J)I"⟩
abbrev w_DiscMakerLaw_name : List Cond := .codeWith y_DiscMakerLaw_name b_DiscMakerLaw_name 5 (some .int) [((0 : Nat), (10 : Nat), (13 : Nat), (19 : Nat))] :: lw_g
theorem kc_DiscMakerLaw_name : Cond.codeWith y_DiscMakerLaw_name b_DiscMakerLaw_name 5 (some .int) [((0 : Nat), (10 : Nat), (13 : Nat), (19 : Nat))] ∈ lw_g := lg_mem 1404 (by decide +kernel) rfl
abbrev b_DiscMakerLaw_target : ByteArray := method_6_code
abbrev y_DiscMakerLaw_target : MethodName := ⟨"DiscMakerLaw", "target", "(LDiscMaker;II[J)I"⟩
abbrev w_DiscMakerLaw_target : List Cond := .codeWith y_DiscMakerLaw_target b_DiscMakerLaw_target 5 (some .int) [((0 : Nat), (10 : Nat), (13 : Nat), (19 : Nat))] :: lw_g
theorem kc_DiscMakerLaw_target : Cond.codeWith y_DiscMakerLaw_target b_DiscMakerLaw_target 5 (some .int) [((0 : Nat), (10 : Nat), (13 : Nat), (19 : Nat))] ∈ lw_g := lg_mem 1411 (by decide +kernel) rfl
abbrev b_DiscMakerLaw_read : ByteArray := method_7_code
abbrev y_DiscMakerLaw_read : MethodName := ⟨"DiscMakerLaw", "read", "(LDiscMaker;II[J)I"⟩
abbrev w_DiscMakerLaw_read : List Cond := .codeWith y_DiscMakerLaw_read b_DiscMakerLaw_read 5 (some .int) [((0 : Nat), (10 : Nat), (13 : Nat), (19 : Nat))] :: lw_g
theorem kc_DiscMakerLaw_read : Cond.codeWith y_DiscMakerLaw_read b_DiscMakerLaw_read 5 (some .int) [((0 : Nat), (10 : Nat), (13 : Nat), (19 : Nat))] ∈ lw_g := lg_mem 1418 (by decide +kernel) rfl
theorem d_Reader_find_0 : decode b_Reader_find 0 = .ok (.iload_n 1, 1) := by decide +kernel
theorem d_Reader_find_1 : decode b_Reader_find 1 = .ok (.ifCond .lt 20, 3) := by decide +kernel
theorem d_Reader_find_4 : decode b_Reader_find 4 = .ok (.iload_n 1, 1) := by decide +kernel
theorem d_Reader_find_5 : decode b_Reader_find 5 = .ok (.aload_n 0, 1) := by decide +kernel
theorem d_Reader_find_6 : decode b_Reader_find 6 = .ok (.getfield 30, 3) := by decide +kernel
theorem d_Reader_find_9 : decode b_Reader_find 9 = .ok (.if_icmp .ge 12, 3) := by decide +kernel
theorem d_Reader_find_21 : decode b_Reader_find 21 = .ok (.aconst_null, 1) := by decide +kernel
theorem d_Reader_find_22 : decode b_Reader_find 22 = .ok (.areturn, 1) := by decide +kernel
set_option maxHeartbeats 4000000 in
set_option maxRecDepth 100000 in
theorem c_find (l : Launch) (D : va_G) (cB cI cJ cZ cN cF : ClassId) (sz : Nat) (h0 im rp rr : Nat) (n : Int32) : Met l y_Reader_find w_Reader_find ({ frames := 0, cells := 0, slots := 0, locals := 0 }) (va_Pc [.ref h0, .int n] (fun U => U.heap.size = sz ∧ va_P D CL [(h0, .inr (7, [.ref im, .ref rp, .ref rr, .int 0, .int 0, .int 0]))] U.heap ∧ va_K D CL (TY cB cI cJ cZ cN cF) U ∧ NN U ∧ va_D (fun _ => True) [(h0, .inr (7, [.ref im, .ref rp, .ref rr, .int 0, .int 0, .int 0]))])) (va_Qq (fun (r : Option Nat) (u : Unit) => r = none) (fun (u : Unit) (t : State) => match u with | () => va_P D CL [(h0, .inr (7, [.ref im, .ref rp, .ref rr, .int 0, .int 0, .int 0]))] t.heap ∧ va_D (va_A [(h0, .inr (7, [.ref im, .ref rp, .ref rr, .int 0, .int 0, .int 0]))] sz) [(h0, .inr (7, [.ref im, .ref rp, .ref rr, .int 0, .int 0, .int 0]))]) (va_A [(h0, .inr (7, [.ref im, .ref rp, .ref rr, .int 0, .int 0, .int 0]))] sz)) 0 0 (va_A [(h0, .inr (7, [.ref im, .ref rp, .ref rr, .int 0, .int 0, .int 0]))] sz) := by
  refine Met.ofW (cc := b_Reader_find) (maxL := 2) (ret := some (.object "DiscMaker$Found")) (by decide) rfl ?_
  intro p e s m args below meth c s₁ B hml hv
  obtain ⟨rfl, hsz, hP, hK, hN, hD0⟩ := hv
  have hx := B.exec
  have hb := B.bytes
  have hr := B.returns
  have hts := atoms_spec (ws := w_Reader_find) B.pre
  have ht9 := fun (w : Cond) (h : w ∈ lw_g) => hts w (List.mem_cons_of_mem _ h)
  have hown : s.vm.findClass "DiscMaker$Reader" = some m.cls := findClass_of_methodNamed B.named
  have hlocks := B.notSynchronized
  subst hsz
  have hD := hD0.self (sz := s.heap.size)
  generalize hAe : va_A [(h0, .inr (7, [.ref im, .ref rp, .ref rr, .int 0, .int 0, .int 0]))] s.heap.size = A at hD ⊢
  have hA : ∀ q : Nat, s.heap.size ≤ q → A q := fun q h => by rw [← hAe]; exact Or.inr h
  have hS : va_S A s.heap s.heap [] := va_S.rf
  have hP : va_P D CL [(h0, .inr (7, [.ref im, .ref rp, .ref rr, .int 0, .int 0, .int 0]))] s.heap := hP
  have hl := lv_entry [.ref h0, .int n] (n := 2) (Nat.le_of_ble_eq_true rfl)
  rw [lg_entry_eq]
  generalize (lg_sl [.ref h0, .int n] ++ List.replicate (2 - (lg_sl [.ref h0, .int n]).length) Slot.unset).toArray = ls at hl ⊢
  have hl : lv_has ls 2 [(0, .ref h0), (1, .int n)] := hl
  refine lv_iload_n hx hb d_Reader_find_0 rfl (lv_at hl 1 rfl) ?_
  refine lv_if_lt (tgt := 21) hx hb d_Reader_find_1 (by decide) (fun h_1 => ?_) (fun h_1 => ?_)
  · skip
    refine lv_null hx hb d_Reader_find_21 ?_
    have hP9 := hP.sub (ws' := [(h0, .inr (7, [.ref im, .ref rp, .ref rr, .int 0, .int 0, .int 0]))]) [0] rfl
    have hD9 := hD.sub (ws' := [(h0, .inr (7, [.ref im, .ref rp, .ref rr, .int 0, .int 0, .int 0]))]) [0] (by decide) rfl
    exact W.aret (v := .null) hx hb hr (Or.inl ⟨_, rfl⟩) (Or.inl rfl) (fun t ht hW => ⟨⟨none, (), rfl, rfl, by rw [ht]; exact hP9, hD9⟩, hS.F ht⟩) hS.2.2 d_Reader_find_22
  · skip
    refine lv_iload_n hx hb d_Reader_find_4 rfl (lv_at hl 1 rfl) ?_
    refine lv_aload_n hx hb d_Reader_find_5 rfl (lv_at hl 0 rfl) ?_
    refine va_get (D := D) (ci := 7) (v := .int 0) (C := "DiscMaker$Reader") (T := F_Reader) (N := 6) hx hb ht9 in_Reader hown hK hP 0 rfl rfl 3 (by decide) (ht9 _ k415) (fun _ h9 => h9) rfl d_Reader_find_6 ?_
    refine lv_icmp_ge (tgt := 21) hx hb d_Reader_find_9 (by decide) (fun h_9 => ?_) (fun h_9 => absurd (z_ge0 h_1) h_9)
    refine lv_null hx hb d_Reader_find_21 ?_
    have hP9 := hP.sub (ws' := [(h0, .inr (7, [.ref im, .ref rp, .ref rr, .int 0, .int 0, .int 0]))]) [0] rfl
    have hD9 := hD.sub (ws' := [(h0, .inr (7, [.ref im, .ref rp, .ref rr, .int 0, .int 0, .int 0]))]) [0] (by decide) rfl
    exact W.aret (v := .null) hx hb hr (Or.inl ⟨_, rfl⟩) (Or.inl rfl) (fun t ht hW => ⟨⟨none, (), rfl, rfl, by rw [ht]; exact hP9, hD9⟩, hS.F ht⟩) hS.2.2 d_Reader_find_22

theorem d_DiscMaker_node_0 : decode b_DiscMaker_node 0 = .ok (.aload_n 0, 1) := by decide +kernel
theorem d_DiscMaker_node_1 : decode b_DiscMaker_node 1 = .ok (.getfield 46, 3) := by decide +kernel
theorem d_DiscMaker_node_4 : decode b_DiscMaker_node 4 = .ok (.iload_n 1, 1) := by decide +kernel
theorem d_DiscMaker_node_5 : decode b_DiscMaker_node 5 = .ok (.invokevirtual 139, 3) := by decide +kernel
theorem d_DiscMaker_node_8 : decode b_DiscMaker_node 8 = .ok (.astore_n 3, 1) := by decide +kernel
theorem d_DiscMaker_node_9 : decode b_DiscMaker_node 9 = .ok (.aload_n 3, 1) := by decide +kernel
theorem d_DiscMaker_node_10 : decode b_DiscMaker_node 10 = .ok (.ifnull 13, 3) := by decide +kernel
theorem d_DiscMaker_node_23 : decode b_DiscMaker_node 23 = .ok (.new 143, 3) := by decide +kernel
theorem d_DiscMaker_node_26 : decode b_DiscMaker_node 26 = .ok (.dup, 1) := by decide +kernel
theorem d_DiscMaker_node_27 : decode b_DiscMaker_node 27 = .ok (.invokespecial 145, 3) := by decide +kernel
theorem d_DiscMaker_node_30 : decode b_DiscMaker_node 30 = .ok (.athrow, 1) := by decide +kernel
set_option maxHeartbeats 4000000 in
set_option maxRecDepth 100000 in
theorem c_t_node (l : Launch) (htl : l.stackTraces = false) (D : va_G) (cB cI cJ cZ cN cF : ClassId) (sz : Nat) (h0 tx tr im mk rd : Nat) (rp rr : Nat) (n v : Int32) : MetT l y_DiscMaker_node w_DiscMaker_node ({ frames := 6, cells := 1, slots := 6, locals := 100 }) (va_Pc [.ref h0, .int n, .int v] (fun U => U.heap.size = sz ∧ va_P D CL [(h0, .inr (0, [.ref tx, .ref tr, .ref im, .ref mk, .ref rd])), (rd, .inr (7, [.ref im, .ref rp, .ref rr, .int 0, .int 0, .int 0]))] U.heap ∧ va_K D CL (TY cB cI cJ cZ cN cF) U ∧ NN U ∧ va_D (fun _ => True) [(h0, .inr (0, [.ref tx, .ref tr, .ref im, .ref mk, .ref rd])), (rd, .inr (7, [.ref im, .ref rp, .ref rr, .int 0, .int 0, .int 0]))] ∧ TX (va_A [(h0, .inr (0, [.ref tx, .ref tr, .ref im, .ref mk, .ref rd])), (rd, .inr (7, [.ref im, .ref rp, .ref rr, .int 0, .int 0, .int 0]))] sz) U U.heap)) "java/util/NoSuchElementException" (va_A [(h0, .inr (0, [.ref tx, .ref tr, .ref im, .ref mk, .ref rd])), (rd, .inr (7, [.ref im, .ref rp, .ref rr, .int 0, .int 0, .int 0]))] sz) 1 6 (va_A [(h0, .inr (0, [.ref tx, .ref tr, .ref im, .ref mk, .ref rd])), (rd, .inr (7, [.ref im, .ref rp, .ref rr, .int 0, .int 0, .int 0]))] sz) := by
  refine MetT.ofW (cc := b_DiscMaker_node) (maxL := 4) (ret := some .int) (by decide) rfl ?_
  intro p e s m args below meth c s₁ B hml hv
  obtain ⟨rfl, hsz, hP, hK, hN, hD0, hZ⟩ := hv
  have hx := B.exec
  have hb := B.bytes
  have hr := B.returns
  have hts := atoms_spec (ws := w_DiscMaker_node) B.pre
  have ht9 := fun (w : Cond) (h : w ∈ lw_g) => hts w (List.mem_cons_of_mem _ h)
  have hown : s.vm.findClass "DiscMaker" = some m.cls := findClass_of_methodNamed B.named
  have hlocks := B.notSynchronized
  subst hsz
  have hD := hD0.self (sz := s.heap.size)
  generalize hAe : va_A [(h0, .inr (0, [.ref tx, .ref tr, .ref im, .ref mk, .ref rd])), (rd, .inr (7, [.ref im, .ref rp, .ref rr, .int 0, .int 0, .int 0]))] s.heap.size = A at hD hZ ⊢
  have hA : ∀ q : Nat, s.heap.size ≤ q → A q := fun q h => by rw [← hAe]; exact Or.inr h
  have hS : va_S A s.heap s.heap [] := va_S.rf
  have hP : va_P D CL [(h0, .inr (0, [.ref tx, .ref tr, .ref im, .ref mk, .ref rd])), (rd, .inr (7, [.ref im, .ref rp, .ref rr, .int 0, .int 0, .int 0]))] s.heap := hP
  have hP0 := hP
  have hemp := B.noHandlers (hts _ List.mem_cons_self)
  have hl := lv_entry [.ref h0, .int n, .int v] (n := 4) (Nat.le_of_ble_eq_true rfl)
  rw [lg_entry_eq]
  generalize (lg_sl [.ref h0, .int n, .int v] ++ List.replicate (4 - (lg_sl [.ref h0, .int n, .int v]).length) Slot.unset).toArray = ls at hl ⊢
  have hl : lv_has ls 4 [(0, .ref h0), (1, .int n), (2, .int v)] := hl
  refine lv_aload_n hx hb d_DiscMaker_node_0 rfl (lv_at hl 0 rfl) ?_
  refine va_get (D := D) (ci := 0) (v := .ref rd) (C := "DiscMaker") (T := F_DiscMaker) (N := 5) hx hb ht9 in_DiscMaker hown hK hP 0 rfl rfl 4 (by decide) (ht9 _ k435) (fun _ h9 => h9) rfl d_DiscMaker_node_1 ?_
  refine lv_iload_n hx hb d_DiscMaker_node_4 rfl (lv_at hl 1 rfl) ?_
  have hPc := hP.sub (ws' := [(rd, .inr (7, [.ref im, .ref rp, .ref rr, .int 0, .int 0, .int 0]))]) [1] rfl
  have hDc := hD.sub (ws' := [(rd, .inr (7, [.ref im, .ref rp, .ref rr, .int 0, .int 0, .int 0]))]) [1] (by decide) rfl
  have hFc := va_free (wc := [(rd, .inr (7, [.ref im, .ref rp, .ref rr, .int 0, .int 0, .int 0]))]) hD hS hA [1] rfl
  have hkc : 0 ≤ 1 := by decide
  have hks : 0 ≤ 6 := by decide
  refine va_callq (va_runV (C := "DiscMaker$Reader") (As := [.int n]) (rest := []) ⟨hx, hb, hml, hown, hts⟩ (c_find l D cB cI cJ cZ cN cF s.heap.size rd im rp rr n) (cwV 1 hts (lg_goodV k1379 k1380 k1381 k123 kc_Reader_find) rfl rfl rfl (by decide +kernel) ⟨Nat.le_of_ble_eq_true rfl, Nat.le_of_ble_eq_true rfl⟩) ⟨fun a U g mk q => by obtain ⟨q0, q1, qP, qK, qN, qD⟩ := q; exact ⟨q0, q1, qP, va_K.moved (u := U) (U := U.calling g mk a) (Vm.Alike.refl U.vm) qK, qN.calling, qD⟩, va_recv hK hP (ci := 7) (q0 := 1) rfl rfl, fun U hU hW => ⟨rfl, by rw [hU], by rw [hU]; exact hPc, va_K.moved hW.alike hK, NN.warm hW hN, hDc.weaken (fun _ _ _ _ => trivial)⟩⟩ rfl rfl hl.1 rfl (lv_room (Nat.le_of_ble_eq_true rfl)) d_DiscMaker_node_5 ⟨hkc, hks⟩) hS (fun q _ h => hFc q h) hFc (fun r5 u t H1 locs ht hvm hp_5 hB hz1 hk1 hS => ?_)
  obtain ⟨hP1, hD1⟩ := hB
  rw [ht] at hP1
  try dsimp only at hp_5
  obtain ⟨hP, hD⟩ := va_join (wr := [(h0, .inr (0, [.ref tx, .ref tr, .ref im, .ref mk, .ref rd]))]) (w1 := [(rd, .inr (7, [.ref im, .ref rp, .ref rr, .int 0, .int 0, .int 0]))]) hP hD [1] [0] rfl rfl (by decide) (by decide) hk1 hFc hP1 hD1
  clear hPc hDc hFc hP1 hD1 hk1 hz1
  generalize H1 = H at hP hS ⊢
  have hP : va_P D CL [(h0, .inr (0, [.ref tx, .ref tr, .ref im, .ref mk, .ref rd])), (rd, .inr (7, [.ref im, .ref rp, .ref rr, .int 0, .int 0, .int 0]))] H := hP
  have hD : va_D A [(h0, .inr (0, [.ref tx, .ref tr, .ref im, .ref mk, .ref rd])), (rd, .inr (7, [.ref im, .ref rp, .ref rr, .int 0, .int 0, .int 0]))] := hD
  subst hp_5
  refine W.eq (g2 := F0 m 8 ls [.null]) rfl ?_
  refine lv_astore_nN hx hb d_DiscMaker_node_8 rfl hl (by decide) rfl (fun ls hl => ?_)
  have hl : lv_has ls 4 [(3, .null), (0, .ref h0), (1, .int n), (2, .int v)] := hl
  refine lv_aload_nN hx hb d_DiscMaker_node_9 rfl (lv_at hl 0 rfl) ?_
  refine lv_ifnullN (tgt := 23) hx hb d_DiscMaker_node_10 (by decide) ?_
  exact zz_throw0 htl hx hb hml hlocks hemp (own := "DiscMaker") (cls := "java/util/NoSuchElementException") (ia := 143) (ic := 145) hown (by decide +kernel) (at_of atN_ok ht9 hZ) (zt_locs hK hP0 (fun k q hq => by
    have hk9 : k < 2 := (List.getElem?_eq_some_iff.mp hq).1
    rcases (show k = 0 ∨ k = 1 by omega) with rfl | rfl
    · cases hq; exact ⟨_, _, rfl, rfl⟩
    · cases hq; exact ⟨_, _, rfl, rfl⟩
    ) hAe hS) (ht9 _ k1383) (ht9 _ k142) hS (fun q h => h) hl.1 d_DiscMaker_node_23 d_DiscMaker_node_26 d_DiscMaker_node_27 d_DiscMaker_node_30 (by decide) (by decide) (by decide) (by decide)

theorem d_DiscMaker_name_0 : decode b_DiscMaker_name 0 = .ok (.aload_n 0, 1) := by decide +kernel
theorem d_DiscMaker_name_1 : decode b_DiscMaker_name 1 = .ok (.getfield 46, 3) := by decide +kernel
theorem d_DiscMaker_name_4 : decode b_DiscMaker_name 4 = .ok (.iload_n 1, 1) := by decide +kernel
theorem d_DiscMaker_name_5 : decode b_DiscMaker_name 5 = .ok (.invokevirtual 139, 3) := by decide +kernel
theorem d_DiscMaker_name_8 : decode b_DiscMaker_name 8 = .ok (.astore_n 3, 1) := by decide +kernel
theorem d_DiscMaker_name_9 : decode b_DiscMaker_name 9 = .ok (.aload_n 3, 1) := by decide +kernel
theorem d_DiscMaker_name_10 : decode b_DiscMaker_name 10 = .ok (.ifnull 15, 3) := by decide +kernel
theorem d_DiscMaker_name_25 : decode b_DiscMaker_name 25 = .ok (.new 143, 3) := by decide +kernel
theorem d_DiscMaker_name_28 : decode b_DiscMaker_name 28 = .ok (.dup, 1) := by decide +kernel
theorem d_DiscMaker_name_29 : decode b_DiscMaker_name 29 = .ok (.invokespecial 145, 3) := by decide +kernel
theorem d_DiscMaker_name_32 : decode b_DiscMaker_name 32 = .ok (.athrow, 1) := by decide +kernel
set_option maxHeartbeats 4000000 in
set_option maxRecDepth 100000 in
theorem c_t_name (l : Launch) (htl : l.stackTraces = false) (D : va_G) (cB cI cJ cZ cN cF : ClassId) (sz : Nat) (h0 tx tr im mk rd : Nat) (rp rr : Nat) (n v : Int32) : MetT l y_DiscMaker_name w_DiscMaker_name ({ frames := 6, cells := 1, slots := 6, locals := 100 }) (va_Pc [.ref h0, .int n, .int v] (fun U => U.heap.size = sz ∧ va_P D CL [(h0, .inr (0, [.ref tx, .ref tr, .ref im, .ref mk, .ref rd])), (rd, .inr (7, [.ref im, .ref rp, .ref rr, .int 0, .int 0, .int 0]))] U.heap ∧ va_K D CL (TY cB cI cJ cZ cN cF) U ∧ NN U ∧ va_D (fun _ => True) [(h0, .inr (0, [.ref tx, .ref tr, .ref im, .ref mk, .ref rd])), (rd, .inr (7, [.ref im, .ref rp, .ref rr, .int 0, .int 0, .int 0]))] ∧ TX (va_A [(h0, .inr (0, [.ref tx, .ref tr, .ref im, .ref mk, .ref rd])), (rd, .inr (7, [.ref im, .ref rp, .ref rr, .int 0, .int 0, .int 0]))] sz) U U.heap)) "java/util/NoSuchElementException" (va_A [(h0, .inr (0, [.ref tx, .ref tr, .ref im, .ref mk, .ref rd])), (rd, .inr (7, [.ref im, .ref rp, .ref rr, .int 0, .int 0, .int 0]))] sz) 1 6 (va_A [(h0, .inr (0, [.ref tx, .ref tr, .ref im, .ref mk, .ref rd])), (rd, .inr (7, [.ref im, .ref rp, .ref rr, .int 0, .int 0, .int 0]))] sz) := by
  refine MetT.ofW (cc := b_DiscMaker_name) (maxL := 4) (ret := some .int) (by decide) rfl ?_
  intro p e s m args below meth c s₁ B hml hv
  obtain ⟨rfl, hsz, hP, hK, hN, hD0, hZ⟩ := hv
  have hx := B.exec
  have hb := B.bytes
  have hr := B.returns
  have hts := atoms_spec (ws := w_DiscMaker_name) B.pre
  have ht9 := fun (w : Cond) (h : w ∈ lw_g) => hts w (List.mem_cons_of_mem _ h)
  have hown : s.vm.findClass "DiscMaker" = some m.cls := findClass_of_methodNamed B.named
  have hlocks := B.notSynchronized
  subst hsz
  have hD := hD0.self (sz := s.heap.size)
  generalize hAe : va_A [(h0, .inr (0, [.ref tx, .ref tr, .ref im, .ref mk, .ref rd])), (rd, .inr (7, [.ref im, .ref rp, .ref rr, .int 0, .int 0, .int 0]))] s.heap.size = A at hD hZ ⊢
  have hA : ∀ q : Nat, s.heap.size ≤ q → A q := fun q h => by rw [← hAe]; exact Or.inr h
  have hS : va_S A s.heap s.heap [] := va_S.rf
  have hP : va_P D CL [(h0, .inr (0, [.ref tx, .ref tr, .ref im, .ref mk, .ref rd])), (rd, .inr (7, [.ref im, .ref rp, .ref rr, .int 0, .int 0, .int 0]))] s.heap := hP
  have hP0 := hP
  have hemp := B.noHandlers (hts _ List.mem_cons_self)
  have hl := lv_entry [.ref h0, .int n, .int v] (n := 4) (Nat.le_of_ble_eq_true rfl)
  rw [lg_entry_eq]
  generalize (lg_sl [.ref h0, .int n, .int v] ++ List.replicate (4 - (lg_sl [.ref h0, .int n, .int v]).length) Slot.unset).toArray = ls at hl ⊢
  have hl : lv_has ls 4 [(0, .ref h0), (1, .int n), (2, .int v)] := hl
  refine lv_aload_n hx hb d_DiscMaker_name_0 rfl (lv_at hl 0 rfl) ?_
  refine va_get (D := D) (ci := 0) (v := .ref rd) (C := "DiscMaker") (T := F_DiscMaker) (N := 5) hx hb ht9 in_DiscMaker hown hK hP 0 rfl rfl 4 (by decide) (ht9 _ k435) (fun _ h9 => h9) rfl d_DiscMaker_name_1 ?_
  refine lv_iload_n hx hb d_DiscMaker_name_4 rfl (lv_at hl 1 rfl) ?_
  have hPc := hP.sub (ws' := [(rd, .inr (7, [.ref im, .ref rp, .ref rr, .int 0, .int 0, .int 0]))]) [1] rfl
  have hDc := hD.sub (ws' := [(rd, .inr (7, [.ref im, .ref rp, .ref rr, .int 0, .int 0, .int 0]))]) [1] (by decide) rfl
  have hFc := va_free (wc := [(rd, .inr (7, [.ref im, .ref rp, .ref rr, .int 0, .int 0, .int 0]))]) hD hS hA [1] rfl
  have hkc : 0 ≤ 1 := by decide
  have hks : 0 ≤ 6 := by decide
  refine va_callq (va_runV (C := "DiscMaker$Reader") (As := [.int n]) (rest := []) ⟨hx, hb, hml, hown, hts⟩ (c_find l D cB cI cJ cZ cN cF s.heap.size rd im rp rr n) (cwV 1 hts (lg_goodV k1379 k1380 k1381 k123 kc_Reader_find) rfl rfl rfl (by decide +kernel) ⟨Nat.le_of_ble_eq_true rfl, Nat.le_of_ble_eq_true rfl⟩) ⟨fun a U g mk q => by obtain ⟨q0, q1, qP, qK, qN, qD⟩ := q; exact ⟨q0, q1, qP, va_K.moved (u := U) (U := U.calling g mk a) (Vm.Alike.refl U.vm) qK, qN.calling, qD⟩, va_recv hK hP (ci := 7) (q0 := 1) rfl rfl, fun U hU hW => ⟨rfl, by rw [hU], by rw [hU]; exact hPc, va_K.moved hW.alike hK, NN.warm hW hN, hDc.weaken (fun _ _ _ _ => trivial)⟩⟩ rfl rfl hl.1 rfl (lv_room (Nat.le_of_ble_eq_true rfl)) d_DiscMaker_name_5 ⟨hkc, hks⟩) hS (fun q _ h => hFc q h) hFc (fun r5 u t H1 locs ht hvm hp_5 hB hz1 hk1 hS => ?_)
  obtain ⟨hP1, hD1⟩ := hB
  rw [ht] at hP1
  try dsimp only at hp_5
  obtain ⟨hP, hD⟩ := va_join (wr := [(h0, .inr (0, [.ref tx, .ref tr, .ref im, .ref mk, .ref rd]))]) (w1 := [(rd, .inr (7, [.ref im, .ref rp, .ref rr, .int 0, .int 0, .int 0]))]) hP hD [1] [0] rfl rfl (by decide) (by decide) hk1 hFc hP1 hD1
  clear hPc hDc hFc hP1 hD1 hk1 hz1
  generalize H1 = H at hP hS ⊢
  have hP : va_P D CL [(h0, .inr (0, [.ref tx, .ref tr, .ref im, .ref mk, .ref rd])), (rd, .inr (7, [.ref im, .ref rp, .ref rr, .int 0, .int 0, .int 0]))] H := hP
  have hD : va_D A [(h0, .inr (0, [.ref tx, .ref tr, .ref im, .ref mk, .ref rd])), (rd, .inr (7, [.ref im, .ref rp, .ref rr, .int 0, .int 0, .int 0]))] := hD
  subst hp_5
  refine W.eq (g2 := F0 m 8 ls [.null]) rfl ?_
  refine lv_astore_nN hx hb d_DiscMaker_name_8 rfl hl (by decide) rfl (fun ls hl => ?_)
  have hl : lv_has ls 4 [(3, .null), (0, .ref h0), (1, .int n), (2, .int v)] := hl
  refine lv_aload_nN hx hb d_DiscMaker_name_9 rfl (lv_at hl 0 rfl) ?_
  refine lv_ifnullN (tgt := 25) hx hb d_DiscMaker_name_10 (by decide) ?_
  exact zz_throw0 htl hx hb hml hlocks hemp (own := "DiscMaker") (cls := "java/util/NoSuchElementException") (ia := 143) (ic := 145) hown (by decide +kernel) (at_of atN_ok ht9 hZ) (zt_locs hK hP0 (fun k q hq => by
    have hk9 : k < 2 := (List.getElem?_eq_some_iff.mp hq).1
    rcases (show k = 0 ∨ k = 1 by omega) with rfl | rfl
    · cases hq; exact ⟨_, _, rfl, rfl⟩
    · cases hq; exact ⟨_, _, rfl, rfl⟩
    ) hAe hS) (ht9 _ k1383) (ht9 _ k142) hS (fun q h => h) hl.1 d_DiscMaker_name_25 d_DiscMaker_name_28 d_DiscMaker_name_29 d_DiscMaker_name_32 (by decide) (by decide) (by decide) (by decide)

theorem d_DiscMaker_target_0 : decode b_DiscMaker_target 0 = .ok (.aload_n 0, 1) := by decide +kernel
theorem d_DiscMaker_target_1 : decode b_DiscMaker_target 1 = .ok (.getfield 46, 3) := by decide +kernel
theorem d_DiscMaker_target_4 : decode b_DiscMaker_target 4 = .ok (.iload_n 1, 1) := by decide +kernel
theorem d_DiscMaker_target_5 : decode b_DiscMaker_target 5 = .ok (.invokevirtual 139, 3) := by decide +kernel
theorem d_DiscMaker_target_8 : decode b_DiscMaker_target 8 = .ok (.astore_n 3, 1) := by decide +kernel
theorem d_DiscMaker_target_9 : decode b_DiscMaker_target 9 = .ok (.aload_n 3, 1) := by decide +kernel
theorem d_DiscMaker_target_10 : decode b_DiscMaker_target 10 = .ok (.ifnull 15, 3) := by decide +kernel
theorem d_DiscMaker_target_25 : decode b_DiscMaker_target 25 = .ok (.new 143, 3) := by decide +kernel
theorem d_DiscMaker_target_28 : decode b_DiscMaker_target 28 = .ok (.dup, 1) := by decide +kernel
theorem d_DiscMaker_target_29 : decode b_DiscMaker_target 29 = .ok (.invokespecial 145, 3) := by decide +kernel
theorem d_DiscMaker_target_32 : decode b_DiscMaker_target 32 = .ok (.athrow, 1) := by decide +kernel
set_option maxHeartbeats 4000000 in
set_option maxRecDepth 100000 in
theorem c_t_target (l : Launch) (htl : l.stackTraces = false) (D : va_G) (cB cI cJ cZ cN cF : ClassId) (sz : Nat) (h0 tx tr im mk rd : Nat) (rp rr : Nat) (n v : Int32) : MetT l y_DiscMaker_target w_DiscMaker_target ({ frames := 6, cells := 1, slots := 6, locals := 100 }) (va_Pc [.ref h0, .int n, .int v] (fun U => U.heap.size = sz ∧ va_P D CL [(h0, .inr (0, [.ref tx, .ref tr, .ref im, .ref mk, .ref rd])), (rd, .inr (7, [.ref im, .ref rp, .ref rr, .int 0, .int 0, .int 0]))] U.heap ∧ va_K D CL (TY cB cI cJ cZ cN cF) U ∧ NN U ∧ va_D (fun _ => True) [(h0, .inr (0, [.ref tx, .ref tr, .ref im, .ref mk, .ref rd])), (rd, .inr (7, [.ref im, .ref rp, .ref rr, .int 0, .int 0, .int 0]))] ∧ TX (va_A [(h0, .inr (0, [.ref tx, .ref tr, .ref im, .ref mk, .ref rd])), (rd, .inr (7, [.ref im, .ref rp, .ref rr, .int 0, .int 0, .int 0]))] sz) U U.heap)) "java/util/NoSuchElementException" (va_A [(h0, .inr (0, [.ref tx, .ref tr, .ref im, .ref mk, .ref rd])), (rd, .inr (7, [.ref im, .ref rp, .ref rr, .int 0, .int 0, .int 0]))] sz) 1 6 (va_A [(h0, .inr (0, [.ref tx, .ref tr, .ref im, .ref mk, .ref rd])), (rd, .inr (7, [.ref im, .ref rp, .ref rr, .int 0, .int 0, .int 0]))] sz) := by
  refine MetT.ofW (cc := b_DiscMaker_target) (maxL := 4) (ret := some .int) (by decide) rfl ?_
  intro p e s m args below meth c s₁ B hml hv
  obtain ⟨rfl, hsz, hP, hK, hN, hD0, hZ⟩ := hv
  have hx := B.exec
  have hb := B.bytes
  have hr := B.returns
  have hts := atoms_spec (ws := w_DiscMaker_target) B.pre
  have ht9 := fun (w : Cond) (h : w ∈ lw_g) => hts w (List.mem_cons_of_mem _ h)
  have hown : s.vm.findClass "DiscMaker" = some m.cls := findClass_of_methodNamed B.named
  have hlocks := B.notSynchronized
  subst hsz
  have hD := hD0.self (sz := s.heap.size)
  generalize hAe : va_A [(h0, .inr (0, [.ref tx, .ref tr, .ref im, .ref mk, .ref rd])), (rd, .inr (7, [.ref im, .ref rp, .ref rr, .int 0, .int 0, .int 0]))] s.heap.size = A at hD hZ ⊢
  have hA : ∀ q : Nat, s.heap.size ≤ q → A q := fun q h => by rw [← hAe]; exact Or.inr h
  have hS : va_S A s.heap s.heap [] := va_S.rf
  have hP : va_P D CL [(h0, .inr (0, [.ref tx, .ref tr, .ref im, .ref mk, .ref rd])), (rd, .inr (7, [.ref im, .ref rp, .ref rr, .int 0, .int 0, .int 0]))] s.heap := hP
  have hP0 := hP
  have hemp := B.noHandlers (hts _ List.mem_cons_self)
  have hl := lv_entry [.ref h0, .int n, .int v] (n := 4) (Nat.le_of_ble_eq_true rfl)
  rw [lg_entry_eq]
  generalize (lg_sl [.ref h0, .int n, .int v] ++ List.replicate (4 - (lg_sl [.ref h0, .int n, .int v]).length) Slot.unset).toArray = ls at hl ⊢
  have hl : lv_has ls 4 [(0, .ref h0), (1, .int n), (2, .int v)] := hl
  refine lv_aload_n hx hb d_DiscMaker_target_0 rfl (lv_at hl 0 rfl) ?_
  refine va_get (D := D) (ci := 0) (v := .ref rd) (C := "DiscMaker") (T := F_DiscMaker) (N := 5) hx hb ht9 in_DiscMaker hown hK hP 0 rfl rfl 4 (by decide) (ht9 _ k435) (fun _ h9 => h9) rfl d_DiscMaker_target_1 ?_
  refine lv_iload_n hx hb d_DiscMaker_target_4 rfl (lv_at hl 1 rfl) ?_
  have hPc := hP.sub (ws' := [(rd, .inr (7, [.ref im, .ref rp, .ref rr, .int 0, .int 0, .int 0]))]) [1] rfl
  have hDc := hD.sub (ws' := [(rd, .inr (7, [.ref im, .ref rp, .ref rr, .int 0, .int 0, .int 0]))]) [1] (by decide) rfl
  have hFc := va_free (wc := [(rd, .inr (7, [.ref im, .ref rp, .ref rr, .int 0, .int 0, .int 0]))]) hD hS hA [1] rfl
  have hkc : 0 ≤ 1 := by decide
  have hks : 0 ≤ 6 := by decide
  refine va_callq (va_runV (C := "DiscMaker$Reader") (As := [.int n]) (rest := []) ⟨hx, hb, hml, hown, hts⟩ (c_find l D cB cI cJ cZ cN cF s.heap.size rd im rp rr n) (cwV 1 hts (lg_goodV k1379 k1380 k1381 k123 kc_Reader_find) rfl rfl rfl (by decide +kernel) ⟨Nat.le_of_ble_eq_true rfl, Nat.le_of_ble_eq_true rfl⟩) ⟨fun a U g mk q => by obtain ⟨q0, q1, qP, qK, qN, qD⟩ := q; exact ⟨q0, q1, qP, va_K.moved (u := U) (U := U.calling g mk a) (Vm.Alike.refl U.vm) qK, qN.calling, qD⟩, va_recv hK hP (ci := 7) (q0 := 1) rfl rfl, fun U hU hW => ⟨rfl, by rw [hU], by rw [hU]; exact hPc, va_K.moved hW.alike hK, NN.warm hW hN, hDc.weaken (fun _ _ _ _ => trivial)⟩⟩ rfl rfl hl.1 rfl (lv_room (Nat.le_of_ble_eq_true rfl)) d_DiscMaker_target_5 ⟨hkc, hks⟩) hS (fun q _ h => hFc q h) hFc (fun r5 u t H1 locs ht hvm hp_5 hB hz1 hk1 hS => ?_)
  obtain ⟨hP1, hD1⟩ := hB
  rw [ht] at hP1
  try dsimp only at hp_5
  obtain ⟨hP, hD⟩ := va_join (wr := [(h0, .inr (0, [.ref tx, .ref tr, .ref im, .ref mk, .ref rd]))]) (w1 := [(rd, .inr (7, [.ref im, .ref rp, .ref rr, .int 0, .int 0, .int 0]))]) hP hD [1] [0] rfl rfl (by decide) (by decide) hk1 hFc hP1 hD1
  clear hPc hDc hFc hP1 hD1 hk1 hz1
  generalize H1 = H at hP hS ⊢
  have hP : va_P D CL [(h0, .inr (0, [.ref tx, .ref tr, .ref im, .ref mk, .ref rd])), (rd, .inr (7, [.ref im, .ref rp, .ref rr, .int 0, .int 0, .int 0]))] H := hP
  have hD : va_D A [(h0, .inr (0, [.ref tx, .ref tr, .ref im, .ref mk, .ref rd])), (rd, .inr (7, [.ref im, .ref rp, .ref rr, .int 0, .int 0, .int 0]))] := hD
  subst hp_5
  refine W.eq (g2 := F0 m 8 ls [.null]) rfl ?_
  refine lv_astore_nN hx hb d_DiscMaker_target_8 rfl hl (by decide) rfl (fun ls hl => ?_)
  have hl : lv_has ls 4 [(3, .null), (0, .ref h0), (1, .int n), (2, .int v)] := hl
  refine lv_aload_nN hx hb d_DiscMaker_target_9 rfl (lv_at hl 0 rfl) ?_
  refine lv_ifnullN (tgt := 25) hx hb d_DiscMaker_target_10 (by decide) ?_
  exact zz_throw0 htl hx hb hml hlocks hemp (own := "DiscMaker") (cls := "java/util/NoSuchElementException") (ia := 143) (ic := 145) hown (by decide +kernel) (at_of atN_ok ht9 hZ) (zt_locs hK hP0 (fun k q hq => by
    have hk9 : k < 2 := (List.getElem?_eq_some_iff.mp hq).1
    rcases (show k = 0 ∨ k = 1 by omega) with rfl | rfl
    · cases hq; exact ⟨_, _, rfl, rfl⟩
    · cases hq; exact ⟨_, _, rfl, rfl⟩
    ) hAe hS) (ht9 _ k1383) (ht9 _ k142) hS (fun q h => h) hl.1 d_DiscMaker_target_25 d_DiscMaker_target_28 d_DiscMaker_target_29 d_DiscMaker_target_32 (by decide) (by decide) (by decide) (by decide)

theorem d_DiscMaker_read_0 : decode b_DiscMaker_read 0 = .ok (.aload_n 0, 1) := by decide +kernel
theorem d_DiscMaker_read_1 : decode b_DiscMaker_read 1 = .ok (.getfield 46, 3) := by decide +kernel
theorem d_DiscMaker_read_4 : decode b_DiscMaker_read 4 = .ok (.iload_n 1, 1) := by decide +kernel
theorem d_DiscMaker_read_5 : decode b_DiscMaker_read 5 = .ok (.invokevirtual 139, 3) := by decide +kernel
theorem d_DiscMaker_read_8 : decode b_DiscMaker_read 8 = .ok (.astore_n 3, 1) := by decide +kernel
theorem d_DiscMaker_read_9 : decode b_DiscMaker_read 9 = .ok (.aload_n 3, 1) := by decide +kernel
theorem d_DiscMaker_read_10 : decode b_DiscMaker_read 10 = .ok (.ifnull 23, 3) := by decide +kernel
theorem d_DiscMaker_read_33 : decode b_DiscMaker_read 33 = .ok (.new 143, 3) := by decide +kernel
theorem d_DiscMaker_read_36 : decode b_DiscMaker_read 36 = .ok (.dup, 1) := by decide +kernel
theorem d_DiscMaker_read_37 : decode b_DiscMaker_read 37 = .ok (.invokespecial 145, 3) := by decide +kernel
theorem d_DiscMaker_read_40 : decode b_DiscMaker_read 40 = .ok (.athrow, 1) := by decide +kernel
set_option maxHeartbeats 4000000 in
set_option maxRecDepth 100000 in
theorem c_t_read (l : Launch) (htl : l.stackTraces = false) (D : va_G) (cB cI cJ cZ cN cF : ClassId) (sz : Nat) (h0 tx tr im mk rd : Nat) (rp rr : Nat) (n v : Int32) : MetT l y_DiscMaker_read w_DiscMaker_read ({ frames := 6, cells := 1, slots := 6, locals := 100 }) (va_Pc [.ref h0, .int n, .int v] (fun U => U.heap.size = sz ∧ va_P D CL [(h0, .inr (0, [.ref tx, .ref tr, .ref im, .ref mk, .ref rd])), (rd, .inr (7, [.ref im, .ref rp, .ref rr, .int 0, .int 0, .int 0]))] U.heap ∧ va_K D CL (TY cB cI cJ cZ cN cF) U ∧ NN U ∧ va_D (fun _ => True) [(h0, .inr (0, [.ref tx, .ref tr, .ref im, .ref mk, .ref rd])), (rd, .inr (7, [.ref im, .ref rp, .ref rr, .int 0, .int 0, .int 0]))] ∧ TX (va_A [(h0, .inr (0, [.ref tx, .ref tr, .ref im, .ref mk, .ref rd])), (rd, .inr (7, [.ref im, .ref rp, .ref rr, .int 0, .int 0, .int 0]))] sz) U U.heap)) "java/util/NoSuchElementException" (va_A [(h0, .inr (0, [.ref tx, .ref tr, .ref im, .ref mk, .ref rd])), (rd, .inr (7, [.ref im, .ref rp, .ref rr, .int 0, .int 0, .int 0]))] sz) 1 6 (va_A [(h0, .inr (0, [.ref tx, .ref tr, .ref im, .ref mk, .ref rd])), (rd, .inr (7, [.ref im, .ref rp, .ref rr, .int 0, .int 0, .int 0]))] sz) := by
  refine MetT.ofW (cc := b_DiscMaker_read) (maxL := 4) (ret := some .int) (by decide) rfl ?_
  intro p e s m args below meth c s₁ B hml hv
  obtain ⟨rfl, hsz, hP, hK, hN, hD0, hZ⟩ := hv
  have hx := B.exec
  have hb := B.bytes
  have hr := B.returns
  have hts := atoms_spec (ws := w_DiscMaker_read) B.pre
  have ht9 := fun (w : Cond) (h : w ∈ lw_g) => hts w (List.mem_cons_of_mem _ h)
  have hown : s.vm.findClass "DiscMaker" = some m.cls := findClass_of_methodNamed B.named
  have hlocks := B.notSynchronized
  subst hsz
  have hD := hD0.self (sz := s.heap.size)
  generalize hAe : va_A [(h0, .inr (0, [.ref tx, .ref tr, .ref im, .ref mk, .ref rd])), (rd, .inr (7, [.ref im, .ref rp, .ref rr, .int 0, .int 0, .int 0]))] s.heap.size = A at hD hZ ⊢
  have hA : ∀ q : Nat, s.heap.size ≤ q → A q := fun q h => by rw [← hAe]; exact Or.inr h
  have hS : va_S A s.heap s.heap [] := va_S.rf
  have hP : va_P D CL [(h0, .inr (0, [.ref tx, .ref tr, .ref im, .ref mk, .ref rd])), (rd, .inr (7, [.ref im, .ref rp, .ref rr, .int 0, .int 0, .int 0]))] s.heap := hP
  have hP0 := hP
  have hemp := B.noHandlers (hts _ List.mem_cons_self)
  have hl := lv_entry [.ref h0, .int n, .int v] (n := 4) (Nat.le_of_ble_eq_true rfl)
  rw [lg_entry_eq]
  generalize (lg_sl [.ref h0, .int n, .int v] ++ List.replicate (4 - (lg_sl [.ref h0, .int n, .int v]).length) Slot.unset).toArray = ls at hl ⊢
  have hl : lv_has ls 4 [(0, .ref h0), (1, .int n), (2, .int v)] := hl
  refine lv_aload_n hx hb d_DiscMaker_read_0 rfl (lv_at hl 0 rfl) ?_
  refine va_get (D := D) (ci := 0) (v := .ref rd) (C := "DiscMaker") (T := F_DiscMaker) (N := 5) hx hb ht9 in_DiscMaker hown hK hP 0 rfl rfl 4 (by decide) (ht9 _ k435) (fun _ h9 => h9) rfl d_DiscMaker_read_1 ?_
  refine lv_iload_n hx hb d_DiscMaker_read_4 rfl (lv_at hl 1 rfl) ?_
  have hPc := hP.sub (ws' := [(rd, .inr (7, [.ref im, .ref rp, .ref rr, .int 0, .int 0, .int 0]))]) [1] rfl
  have hDc := hD.sub (ws' := [(rd, .inr (7, [.ref im, .ref rp, .ref rr, .int 0, .int 0, .int 0]))]) [1] (by decide) rfl
  have hFc := va_free (wc := [(rd, .inr (7, [.ref im, .ref rp, .ref rr, .int 0, .int 0, .int 0]))]) hD hS hA [1] rfl
  have hkc : 0 ≤ 1 := by decide
  have hks : 0 ≤ 6 := by decide
  refine va_callq (va_runV (C := "DiscMaker$Reader") (As := [.int n]) (rest := []) ⟨hx, hb, hml, hown, hts⟩ (c_find l D cB cI cJ cZ cN cF s.heap.size rd im rp rr n) (cwV 1 hts (lg_goodV k1379 k1380 k1381 k123 kc_Reader_find) rfl rfl rfl (by decide +kernel) ⟨Nat.le_of_ble_eq_true rfl, Nat.le_of_ble_eq_true rfl⟩) ⟨fun a U g mk q => by obtain ⟨q0, q1, qP, qK, qN, qD⟩ := q; exact ⟨q0, q1, qP, va_K.moved (u := U) (U := U.calling g mk a) (Vm.Alike.refl U.vm) qK, qN.calling, qD⟩, va_recv hK hP (ci := 7) (q0 := 1) rfl rfl, fun U hU hW => ⟨rfl, by rw [hU], by rw [hU]; exact hPc, va_K.moved hW.alike hK, NN.warm hW hN, hDc.weaken (fun _ _ _ _ => trivial)⟩⟩ rfl rfl hl.1 rfl (lv_room (Nat.le_of_ble_eq_true rfl)) d_DiscMaker_read_5 ⟨hkc, hks⟩) hS (fun q _ h => hFc q h) hFc (fun r5 u t H1 locs ht hvm hp_5 hB hz1 hk1 hS => ?_)
  obtain ⟨hP1, hD1⟩ := hB
  rw [ht] at hP1
  try dsimp only at hp_5
  obtain ⟨hP, hD⟩ := va_join (wr := [(h0, .inr (0, [.ref tx, .ref tr, .ref im, .ref mk, .ref rd]))]) (w1 := [(rd, .inr (7, [.ref im, .ref rp, .ref rr, .int 0, .int 0, .int 0]))]) hP hD [1] [0] rfl rfl (by decide) (by decide) hk1 hFc hP1 hD1
  clear hPc hDc hFc hP1 hD1 hk1 hz1
  generalize H1 = H at hP hS ⊢
  have hP : va_P D CL [(h0, .inr (0, [.ref tx, .ref tr, .ref im, .ref mk, .ref rd])), (rd, .inr (7, [.ref im, .ref rp, .ref rr, .int 0, .int 0, .int 0]))] H := hP
  have hD : va_D A [(h0, .inr (0, [.ref tx, .ref tr, .ref im, .ref mk, .ref rd])), (rd, .inr (7, [.ref im, .ref rp, .ref rr, .int 0, .int 0, .int 0]))] := hD
  subst hp_5
  refine W.eq (g2 := F0 m 8 ls [.null]) rfl ?_
  refine lv_astore_nN hx hb d_DiscMaker_read_8 rfl hl (by decide) rfl (fun ls hl => ?_)
  have hl : lv_has ls 4 [(3, .null), (0, .ref h0), (1, .int n), (2, .int v)] := hl
  refine lv_aload_nN hx hb d_DiscMaker_read_9 rfl (lv_at hl 0 rfl) ?_
  refine lv_ifnullN (tgt := 33) hx hb d_DiscMaker_read_10 (by decide) ?_
  exact zz_throw0 htl hx hb hml hlocks hemp (own := "DiscMaker") (cls := "java/util/NoSuchElementException") (ia := 143) (ic := 145) hown (by decide +kernel) (at_of atN_ok ht9 hZ) (zt_locs hK hP0 (fun k q hq => by
    have hk9 : k < 2 := (List.getElem?_eq_some_iff.mp hq).1
    rcases (show k = 0 ∨ k = 1 by omega) with rfl | rfl
    · cases hq; exact ⟨_, _, rfl, rfl⟩
    · cases hq; exact ⟨_, _, rfl, rfl⟩
    ) hAe hS) (ht9 _ k1383) (ht9 _ k142) hS (fun q h => h) hl.1 d_DiscMaker_read_33 d_DiscMaker_read_36 d_DiscMaker_read_37 d_DiscMaker_read_40 (by decide) (by decide) (by decide) (by decide)

theorem d_DiscMaker_mount_0 : decode b_DiscMaker_mount 0 = .ok (.iload_n 1, 1) := by decide +kernel
theorem d_DiscMaker_mount_1 : decode b_DiscMaker_mount 1 = .ok (.ifCond .lt 8, 3) := by decide +kernel
theorem d_DiscMaker_mount_4 : decode b_DiscMaker_mount 4 = .ok (.iload_n 1, 1) := by decide +kernel
theorem d_DiscMaker_mount_5 : decode b_DiscMaker_mount 5 = .ok (.iconst 2, 1) := by decide +kernel
theorem d_DiscMaker_mount_6 : decode b_DiscMaker_mount 6 = .ok (.if_icmp .le 11, 3) := by decide +kernel
theorem d_DiscMaker_mount_9 : decode b_DiscMaker_mount 9 = .ok (.new 133, 3) := by decide +kernel
theorem d_DiscMaker_mount_12 : decode b_DiscMaker_mount 12 = .ok (.dup, 1) := by decide +kernel
theorem d_DiscMaker_mount_13 : decode b_DiscMaker_mount 13 = .ok (.invokespecial 135, 3) := by decide +kernel
theorem d_DiscMaker_mount_16 : decode b_DiscMaker_mount 16 = .ok (.athrow, 1) := by decide +kernel
set_option maxHeartbeats 4000000 in
set_option maxRecDepth 100000 in
theorem c_t_mount (l : Launch) (htl : l.stackTraces = false) (D : va_G) (cB cI cJ cZ cN cF : ClassId) (sz : Nat) (h0 tx tr im mk rd : Nat) (rp rr : Nat) (n : Int32) (hv : ¬ (¬ n < 0 ∧ n ≤ 2)) : MetT l y_DiscMaker_mount w_DiscMaker_mount ({ frames := 6, cells := 1, slots := 6, locals := 100 }) (va_Pc [.ref h0, .int n] (fun U => U.heap.size = sz ∧ va_P D CL [(h0, .inr (0, [.ref tx, .ref tr, .ref im, .ref mk, .ref rd])), (rd, .inr (7, [.ref im, .ref rp, .ref rr, .int 0, .int 0, .int 0]))] U.heap ∧ va_K D CL (TY cB cI cJ cZ cN cF) U ∧ NN U ∧ va_D (fun _ => True) [(h0, .inr (0, [.ref tx, .ref tr, .ref im, .ref mk, .ref rd])), (rd, .inr (7, [.ref im, .ref rp, .ref rr, .int 0, .int 0, .int 0]))] ∧ TX (va_A [(h0, .inr (0, [.ref tx, .ref tr, .ref im, .ref mk, .ref rd])), (rd, .inr (7, [.ref im, .ref rp, .ref rr, .int 0, .int 0, .int 0]))] sz) U U.heap)) "java/lang/IllegalArgumentException" (va_A [(h0, .inr (0, [.ref tx, .ref tr, .ref im, .ref mk, .ref rd])), (rd, .inr (7, [.ref im, .ref rp, .ref rr, .int 0, .int 0, .int 0]))] sz) 1 6 (va_A [(h0, .inr (0, [.ref tx, .ref tr, .ref im, .ref mk, .ref rd])), (rd, .inr (7, [.ref im, .ref rp, .ref rr, .int 0, .int 0, .int 0]))] sz) := by
  refine MetT.ofW (cc := b_DiscMaker_mount) (maxL := 2) (ret := some .int) (by decide) rfl ?_
  intro p e s m args below meth c s₁ B hml hv
  obtain ⟨rfl, hsz, hP, hK, hN, hD0, hZ⟩ := hv
  have hx := B.exec
  have hb := B.bytes
  have hr := B.returns
  have hts := atoms_spec (ws := w_DiscMaker_mount) B.pre
  have ht9 := fun (w : Cond) (h : w ∈ lw_g) => hts w (List.mem_cons_of_mem _ h)
  have hown : s.vm.findClass "DiscMaker" = some m.cls := findClass_of_methodNamed B.named
  have hlocks := B.notSynchronized
  subst hsz
  have hD := hD0.self (sz := s.heap.size)
  generalize hAe : va_A [(h0, .inr (0, [.ref tx, .ref tr, .ref im, .ref mk, .ref rd])), (rd, .inr (7, [.ref im, .ref rp, .ref rr, .int 0, .int 0, .int 0]))] s.heap.size = A at hD hZ ⊢
  have hA : ∀ q : Nat, s.heap.size ≤ q → A q := fun q h => by rw [← hAe]; exact Or.inr h
  have hS : va_S A s.heap s.heap [] := va_S.rf
  have hP : va_P D CL [(h0, .inr (0, [.ref tx, .ref tr, .ref im, .ref mk, .ref rd])), (rd, .inr (7, [.ref im, .ref rp, .ref rr, .int 0, .int 0, .int 0]))] s.heap := hP
  have hP0 := hP
  have hemp := B.noHandlers (hts _ List.mem_cons_self)
  have hl := lv_entry [.ref h0, .int n] (n := 2) (Nat.le_of_ble_eq_true rfl)
  rw [lg_entry_eq]
  generalize (lg_sl [.ref h0, .int n] ++ List.replicate (2 - (lg_sl [.ref h0, .int n]).length) Slot.unset).toArray = ls at hl ⊢
  have hl : lv_has ls 2 [(0, .ref h0), (1, .int n)] := hl
  refine lv_iload_n hx hb d_DiscMaker_mount_0 rfl (lv_at hl 1 rfl) ?_
  refine lv_if_lt (tgt := 9) hx hb d_DiscMaker_mount_1 (by decide) (fun h_1 => ?_) (fun h_1 => ?_)
  · skip
    exact zz_throw0 htl hx hb hml hlocks hemp (own := "DiscMaker") (cls := "java/lang/IllegalArgumentException") (ia := 133) (ic := 135) hown (by decide +kernel) (at_of atI_ok ht9 hZ) (zt_locs hK hP0 (fun k q hq => by
      have hk9 : k < 2 := (List.getElem?_eq_some_iff.mp hq).1
      rcases (show k = 0 ∨ k = 1 by omega) with rfl | rfl
      · cases hq; exact ⟨_, _, rfl, rfl⟩
      · cases hq; exact ⟨_, _, rfl, rfl⟩
      ) hAe hS) (ht9 _ k1154) (ht9 _ k130) hS (fun q h => h) hl.1 d_DiscMaker_mount_9 d_DiscMaker_mount_12 d_DiscMaker_mount_13 d_DiscMaker_mount_16 (by decide) (by decide) (by decide) (by decide)
  · skip
    refine lv_iload_n hx hb d_DiscMaker_mount_4 rfl (lv_at hl 1 rfl) ?_
    refine lv_iconst (v := 2) hx hb d_DiscMaker_mount_5 (by decide) ?_
    refine lv_icmp_le (tgt := 17) hx hb d_DiscMaker_mount_6 (by decide) (fun h_6 => absurd h_6 (fun h9 => hv ⟨h_1, h9⟩)) (fun h_6 => ?_)
    exact zz_throw0 htl hx hb hml hlocks hemp (own := "DiscMaker") (cls := "java/lang/IllegalArgumentException") (ia := 133) (ic := 135) hown (by decide +kernel) (at_of atI_ok ht9 hZ) (zt_locs hK hP0 (fun k q hq => by
      have hk9 : k < 2 := (List.getElem?_eq_some_iff.mp hq).1
      rcases (show k = 0 ∨ k = 1 by omega) with rfl | rfl
      · cases hq; exact ⟨_, _, rfl, rfl⟩
      · cases hq; exact ⟨_, _, rfl, rfl⟩
      ) hAe hS) (ht9 _ k1154) (ht9 _ k130) hS (fun q h => h) hl.1 d_DiscMaker_mount_9 d_DiscMaker_mount_12 d_DiscMaker_mount_13 d_DiscMaker_mount_16 (by decide) (by decide) (by decide) (by decide)

theorem d_DiscMaker_mount_17 : decode b_DiscMaker_mount 17 = .ok (.aload_n 0, 1) := by decide +kernel
theorem d_DiscMaker_mount_18 : decode b_DiscMaker_mount 18 = .ok (.getfield 46, 3) := by decide +kernel
theorem d_DiscMaker_mount_21 : decode b_DiscMaker_mount 21 = .ok (.iload_n 1, 1) := by decide +kernel
theorem d_DiscMaker_mount_22 : decode b_DiscMaker_mount 22 = .ok (.invokevirtual 136, 3) := by decide +kernel
theorem d_DiscMaker_mount_25 : decode b_DiscMaker_mount 25 = .ok (.ireturn, 1) := by decide +kernel
set_option maxHeartbeats 4000000 in
set_option maxRecDepth 100000 in
theorem c_mount_ok (l : Launch) (D : va_G) (cB cI cJ cZ cN cF : ClassId) (sz : Nat) (h0 tx tr im mk rd : Nat) (rp rr : Nat) (iq : Nat) (n : Int32) (hv : (¬ n < 0 ∧ n ≤ 2)) : Met l y_DiscMaker_mount w_DiscMaker_mount ({ frames := 2, cells := 0, slots := 0, locals := 45 }) (va_Pc [.ref h0, .int n] (fun U => U.heap.size = sz ∧ va_P D CL [(h0, .inr (0, [.ref tx, .ref tr, .ref im, .ref mk, .ref rd])), (rd, .inr (7, [.ref im, .ref rp, .ref rr, .int 0, .int 0, .int 0])), (im, .inr (1, [.ref iq, .int 0]))] U.heap ∧ va_K D CL (TY cB cI cJ cZ cN cF) U ∧ NN U ∧ va_D (fun _ => True) [(h0, .inr (0, [.ref tx, .ref tr, .ref im, .ref mk, .ref rd])), (rd, .inr (7, [.ref im, .ref rp, .ref rr, .int 0, .int 0, .int 0])), (im, .inr (1, [.ref iq, .int 0]))])) (va_Qi (fun (r : Int32) (u : Unit) => r = (-32769)) (fun (u : Unit) (t : State) => match u with | () => va_P D CL [] t.heap ∧ va_D (va_A [(h0, .inr (0, [.ref tx, .ref tr, .ref im, .ref mk, .ref rd])), (rd, .inr (7, [.ref im, .ref rp, .ref rr, .int 0, .int 0, .int 0])), (im, .inr (1, [.ref iq, .int 0]))] sz) []) (va_A [(h0, .inr (0, [.ref tx, .ref tr, .ref im, .ref mk, .ref rd])), (rd, .inr (7, [.ref im, .ref rp, .ref rr, .int 0, .int 0, .int 0])), (im, .inr (1, [.ref iq, .int 0]))] sz)) 0 0 (va_A [(h0, .inr (0, [.ref tx, .ref tr, .ref im, .ref mk, .ref rd])), (rd, .inr (7, [.ref im, .ref rp, .ref rr, .int 0, .int 0, .int 0])), (im, .inr (1, [.ref iq, .int 0]))] sz) := by
  refine Met.ofW (cc := b_DiscMaker_mount) (maxL := 2) (ret := some .int) (by decide) rfl ?_
  intro p e s m args below meth c s₁ B hml hv
  obtain ⟨rfl, hsz, hP, hK, hN, hD0⟩ := hv
  have hx := B.exec
  have hb := B.bytes
  have hr := B.returns
  have hts := atoms_spec (ws := w_DiscMaker_mount) B.pre
  have ht9 := fun (w : Cond) (h : w ∈ lw_g) => hts w (List.mem_cons_of_mem _ h)
  have hown : s.vm.findClass "DiscMaker" = some m.cls := findClass_of_methodNamed B.named
  have hlocks := B.notSynchronized
  subst hsz
  have hD := hD0.self (sz := s.heap.size)
  generalize hAe : va_A [(h0, .inr (0, [.ref tx, .ref tr, .ref im, .ref mk, .ref rd])), (rd, .inr (7, [.ref im, .ref rp, .ref rr, .int 0, .int 0, .int 0])), (im, .inr (1, [.ref iq, .int 0]))] s.heap.size = A at hD ⊢
  have hA : ∀ q : Nat, s.heap.size ≤ q → A q := fun q h => by rw [← hAe]; exact Or.inr h
  have hS : va_S A s.heap s.heap [] := va_S.rf
  have hP : va_P D CL [(h0, .inr (0, [.ref tx, .ref tr, .ref im, .ref mk, .ref rd])), (rd, .inr (7, [.ref im, .ref rp, .ref rr, .int 0, .int 0, .int 0])), (im, .inr (1, [.ref iq, .int 0]))] s.heap := hP
  have hl := lv_entry [.ref h0, .int n] (n := 2) (Nat.le_of_ble_eq_true rfl)
  rw [lg_entry_eq]
  generalize (lg_sl [.ref h0, .int n] ++ List.replicate (2 - (lg_sl [.ref h0, .int n]).length) Slot.unset).toArray = ls at hl ⊢
  have hl : lv_has ls 2 [(0, .ref h0), (1, .int n)] := hl
  refine lv_iload_n hx hb d_DiscMaker_mount_0 rfl (lv_at hl 1 rfl) ?_
  refine lv_if_lt (tgt := 9) hx hb d_DiscMaker_mount_1 (by decide) (fun h_1 => absurd h_1 (hv.1)) (fun h_1 => ?_)
  refine lv_iload_n hx hb d_DiscMaker_mount_4 rfl (lv_at hl 1 rfl) ?_
  refine lv_iconst (v := 2) hx hb d_DiscMaker_mount_5 (by decide) ?_
  refine lv_icmp_le (tgt := 17) hx hb d_DiscMaker_mount_6 (by decide) (fun h_6 => ?_) (fun h_6 => absurd (hv.2) h_6)
  refine lv_aload_n hx hb d_DiscMaker_mount_17 rfl (lv_at hl 0 rfl) ?_
  refine va_get (D := D) (ci := 0) (v := .ref rd) (C := "DiscMaker") (T := F_DiscMaker) (N := 5) hx hb ht9 in_DiscMaker hown hK hP 0 rfl rfl 4 (by decide) (ht9 _ k435) (fun _ h9 => h9) rfl d_DiscMaker_mount_18 ?_
  refine lv_iload_n hx hb d_DiscMaker_mount_21 rfl (lv_at hl 1 rfl) ?_
  have hPc := hP.sub (ws' := [(rd, .inr (7, [.ref im, .ref rp, .ref rr, .int 0, .int 0, .int 0])), (im, .inr (1, [.ref iq, .int 0]))]) [1, 2] rfl
  have hDc := hD.sub (ws' := [(rd, .inr (7, [.ref im, .ref rp, .ref rr, .int 0, .int 0, .int 0])), (im, .inr (1, [.ref iq, .int 0]))]) [1, 2] (by decide) rfl
  have hFc := va_free (wc := [(rd, .inr (7, [.ref im, .ref rp, .ref rr, .int 0, .int 0, .int 0])), (im, .inr (1, [.ref iq, .int 0]))]) hD hS hA [1, 2] rfl
  have hkc : 0 ≤ 0 := by decide
  have hks : 0 ≤ 0 := by decide
  refine va_calli (va_runV (C := "DiscMaker$Reader") (As := [.int n]) (rest := []) ⟨hx, hb, hml, hown, hts⟩ (c_open l D cB cI cJ cZ cN cF s.heap.size rd im rp rr iq n) (cwV 1 hts (lg_goodV k1165 k1166 k1167 k123 kc_Reader_open) rfl rfl rfl (by decide +kernel) ⟨Nat.le_of_ble_eq_true rfl, Nat.le_of_ble_eq_true rfl⟩) ⟨fun a U g mk q => by obtain ⟨q0, q1, qP, qK, qN, qD⟩ := q; exact ⟨q0, q1, qP, va_K.moved (u := U) (U := U.calling g mk a) (Vm.Alike.refl U.vm) qK, qN.calling, qD⟩, va_recv hK hP (ci := 7) (q0 := 1) rfl rfl, fun U hU hW => ⟨rfl, by rw [hU], by rw [hU]; exact hPc, va_K.moved hW.alike hK, NN.warm hW hN, hDc.weaken (fun _ _ _ _ => trivial)⟩⟩ rfl rfl hl.1 rfl (lv_room (Nat.le_of_ble_eq_true rfl)) d_DiscMaker_mount_22 ⟨hkc, hks⟩) hS (fun q _ h => hFc q h) hFc (fun r22 u t H1 locs ht hvm hp_22 hB hz1 hk1 hS => ?_)
  obtain ⟨hP1, hD1⟩ := hB
  rw [ht] at hP1
  try dsimp only at hp_22
  obtain ⟨hP, hD⟩ := va_join (wr := [(h0, .inr (0, [.ref tx, .ref tr, .ref im, .ref mk, .ref rd]))]) (w1 := []) hP hD [1, 2] [0] rfl rfl (by decide) (by decide) hk1 hFc hP1 hD1
  clear hPc hDc hFc hP1 hD1 hk1 hz1
  generalize H1 = H at hP hS ⊢
  have hP : va_P D CL [(h0, .inr (0, [.ref tx, .ref tr, .ref im, .ref mk, .ref rd]))] H := hP
  have hD : va_D A [(h0, .inr (0, [.ref tx, .ref tr, .ref im, .ref mk, .ref rd]))] := hD
  have hP9 := hP.sub (ws' := []) [] rfl
  have hD9 := hD.sub (ws' := []) [] (by decide) rfl
  exact W.iret (v := r22) hx hb hr (fun t ht hW => ⟨⟨r22, (), rfl, hp_22, by rw [ht]; exact hP9, hD9⟩, hS.F ht⟩) hS.2.2 d_DiscMaker_mount_25

theorem d_DiscMakerLaw_node_0 : decode b_DiscMakerLaw_node 0 = .ok (.aload_n 3, 1) := by decide +kernel
theorem d_DiscMakerLaw_node_1 : decode b_DiscMakerLaw_node 1 = .ok (.iconst 0, 1) := by decide +kernel
theorem d_DiscMakerLaw_node_2 : decode b_DiscMakerLaw_node 2 = .ok (.aload_n 0, 1) := by decide +kernel
theorem d_DiscMakerLaw_node_3 : decode b_DiscMakerLaw_node 3 = .ok (.iload_n 1, 1) := by decide +kernel
theorem d_DiscMakerLaw_node_4 : decode b_DiscMakerLaw_node 4 = .ok (.iload_n 2, 1) := by decide +kernel
theorem d_DiscMakerLaw_node_5 : decode b_DiscMakerLaw_node 5 = .ok (.invokevirtual 15, 3) := by decide +kernel
theorem d_DiscMakerLaw_node_13 : decode b_DiscMakerLaw_node 13 = .ok (.astore 4, 2) := by decide +kernel
theorem d_DiscMakerLaw_node_15 : decode b_DiscMakerLaw_node 15 = .ok (.iconst 1, 1) := by decide +kernel
theorem d_DiscMakerLaw_node_16 : decode b_DiscMakerLaw_node 16 = .ok (.ireturn, 1) := by decide +kernel
set_option maxHeartbeats 4000000 in
set_option maxRecDepth 100000 in
theorem c_l_node (l : Launch) (htl : l.stackTraces = false) (D : va_G) (cB cI cJ cZ cN cF : ClassId) (sz : Nat) (h0 tx tr im mk rd : Nat) (rp rr : Nat) (xq : Nat) (F : Nat → Int64) (n v : Int32) : Met l y_DiscMakerLaw_node w_DiscMakerLaw_node ({ frames := 7, cells := 1, slots := 6, locals := 123 }) (va_Pc [.ref h0, .int n, .int v, .ref xq] (fun U => U.heap.size = sz ∧ va_P D CL [(h0, .inr (0, [.ref tx, .ref tr, .ref im, .ref mk, .ref rd])), (rd, .inr (7, [.ref im, .ref rp, .ref rr, .int 0, .int 0, .int 0])), (xq, .inl (cJ, 1, .inr (.inl F)))] U.heap ∧ va_K D CL (TY cB cI cJ cZ cN cF) U ∧ NN U ∧ va_D (fun _ => True) [(h0, .inr (0, [.ref tx, .ref tr, .ref im, .ref mk, .ref rd])), (rd, .inr (7, [.ref im, .ref rp, .ref rr, .int 0, .int 0, .int 0])), (xq, .inl (cJ, 1, .inr (.inl F)))] ∧ TX (va_A [(h0, .inr (0, [.ref tx, .ref tr, .ref im, .ref mk, .ref rd])), (rd, .inr (7, [.ref im, .ref rp, .ref rr, .int 0, .int 0, .int 0])), (xq, .inl (cJ, 1, .inr (.inl F)))] sz) U U.heap)) (va_Qi (fun (r : Int32) (u : Unit) => r = 1) (fun (u : Unit) (t : State) => match u with | () => va_P D CL [(xq, .inl (cJ, 1, .inr (.inl F)))] t.heap ∧ va_D (va_A [(h0, .inr (0, [.ref tx, .ref tr, .ref im, .ref mk, .ref rd])), (rd, .inr (7, [.ref im, .ref rp, .ref rr, .int 0, .int 0, .int 0])), (xq, .inl (cJ, 1, .inr (.inl F)))] sz) [(xq, .inl (cJ, 1, .inr (.inl F)))]) (va_A [(h0, .inr (0, [.ref tx, .ref tr, .ref im, .ref mk, .ref rd])), (rd, .inr (7, [.ref im, .ref rp, .ref rr, .int 0, .int 0, .int 0])), (xq, .inl (cJ, 1, .inr (.inl F)))] sz)) 1 6 (va_A [(h0, .inr (0, [.ref tx, .ref tr, .ref im, .ref mk, .ref rd])), (rd, .inr (7, [.ref im, .ref rp, .ref rr, .int 0, .int 0, .int 0])), (xq, .inl (cJ, 1, .inr (.inl F)))] sz) := by
  refine va_MetW (cc := b_DiscMakerLaw_node) (maxL := 5) (ret := some .int) (hh := [((0 : Nat), (10 : Nat), (13 : Nat), (19 : Nat))]) (by decide) rfl ?_
  intro p e s m args below meth c s₁ B hml hv
  obtain ⟨rfl, hsz, hP, hK, hN, hD0, hZ⟩ := hv
  have hx := B.exec
  have hb := B.bytes
  have hr := B.returns
  have hts := atoms_spec (ws := w_DiscMakerLaw_node) B.pre
  have ht9 := fun (w : Cond) (h : w ∈ lw_g) => hts w (List.mem_cons_of_mem _ h)
  have hown : s.vm.findClass "DiscMakerLaw" = some m.cls := findClass_of_methodNamed B.named
  have hlocks := B.notSynchronized
  subst hsz
  have hD := hD0.self (sz := s.heap.size)
  generalize hAe : va_A [(h0, .inr (0, [.ref tx, .ref tr, .ref im, .ref mk, .ref rd])), (rd, .inr (7, [.ref im, .ref rp, .ref rr, .int 0, .int 0, .int 0])), (xq, .inl (cJ, 1, .inr (.inl F)))] s.heap.size = A at hD hZ ⊢
  have hA : ∀ q : Nat, s.heap.size ≤ q → A q := fun q h => by rw [← hAe]; exact Or.inr h
  have hS : va_S A s.heap s.heap [] := va_S.rf
  have hP : va_P D CL [(h0, .inr (0, [.ref tx, .ref tr, .ref im, .ref mk, .ref rd])), (rd, .inr (7, [.ref im, .ref rp, .ref rr, .int 0, .int 0, .int 0])), (xq, .inl (cJ, 1, .inr (.inl F)))] s.heap := hP
  have hone := zw_one B (hts _ List.mem_cons_self)
  have hl := lv_entry [.ref h0, .int n, .int v, .ref xq] (n := 5) (Nat.le_of_ble_eq_true rfl)
  rw [lg_entry_eq]
  generalize (lg_sl [.ref h0, .int n, .int v, .ref xq] ++ List.replicate (5 - (lg_sl [.ref h0, .int n, .int v, .ref xq]).length) Slot.unset).toArray = ls at hl ⊢
  have hl : lv_has ls 5 [(0, .ref h0), (1, .int n), (2, .int v), (3, .ref xq)] := hl
  refine lv_aload_n hx hb d_DiscMakerLaw_node_0 rfl (lv_at hl 3 rfl) ?_
  refine lv_iconst (v := 0) hx hb d_DiscMakerLaw_node_1 (by decide) ?_
  refine lv_aload_n hx hb d_DiscMakerLaw_node_2 rfl (lv_at hl 0 rfl) ?_
  refine lv_iload_n hx hb d_DiscMakerLaw_node_3 rfl (lv_at hl 1 rfl) ?_
  refine lv_iload_n hx hb d_DiscMakerLaw_node_4 rfl (lv_at hl 2 rfl) ?_
  have hPc := hP.sub (ws' := [(h0, .inr (0, [.ref tx, .ref tr, .ref im, .ref mk, .ref rd])), (rd, .inr (7, [.ref im, .ref rp, .ref rr, .int 0, .int 0, .int 0]))]) [0, 1] rfl
  have hDc := hD.sub (ws' := [(h0, .inr (0, [.ref tx, .ref tr, .ref im, .ref mk, .ref rd])), (rd, .inr (7, [.ref im, .ref rp, .ref rr, .int 0, .int 0, .int 0]))]) [0, 1] (by decide) rfl
  have hFc := va_free (wc := [(h0, .inr (0, [.ref tx, .ref tr, .ref im, .ref mk, .ref rd])), (rd, .inr (7, [.ref im, .ref rp, .ref rr, .int 0, .int 0, .int 0]))]) hD hS hA [0, 1] rfl
  have hkc : 1 ≤ 1 := by decide
  have hks : 6 ≤ 6 := by decide
  refine W.eq (g2 := F0 m 5 ls ([.int n, .int v].reverse ++ .ref h0 :: [.int 0, .ref xq])) rfl ?_
  refine zz_callT (As := [.int n, .int v]) (rest := [.int 0, .ref xq]) (Cr := "DiscMaker") ⟨hx, hb, hml, hown, hts⟩ (c_t_node l htl D cB cI cJ cZ cN cF s.heap.size h0 tx tr im mk rd rp rr n v) (cwV 2 hts (lg_goodV k1375 k1376 k1377 k115 kc_DiscMaker_node) rfl rfl rfl (by decide +kernel) ⟨Nat.le_of_ble_eq_true rfl, Nat.le_of_ble_eq_true rfl⟩) ⟨fun a U g mk q => by obtain ⟨q0, q1, qP, qK, qN, qD, qZ⟩ := q; exact ⟨q0, q1, qP, va_K.moved (u := U) (U := U.calling g mk a) (Vm.Alike.refl U.vm) qK, qN.calling, qD, TX_blind qZ⟩, va_recv hK hP (ci := 0) (q0 := 0) rfl rfl, fun U hU hW => ⟨rfl, by rw [hU], by rw [hU]; exact hPc, va_K.moved hW.alike hK, NN.warm hW hN, hDc.weaken (fun _ _ _ _ => trivial), TX_pass (hZ) hS hFc hW.alike hU⟩⟩ hone ⟨by decide, by decide⟩ (by decide) (ht9 _ k1374) rfl hl.1 (Nat.le_of_ble_eq_true rfl) d_DiscMakerLaw_node_5 ⟨hkc, hks⟩ hS (fun q _ h => hFc q h) hFc (fun x5 H1 locs hz1 hk1 hS => ?_)
  obtain ⟨hP, hD⟩ := va_join (wr := [(xq, .inl (cJ, 1, .inr (.inl F)))]) (w1 := []) hP hD [0, 1] [2] rfl rfl (by decide) (by decide) hk1 hFc (fun k q h => by simp at h) ⟨fun i j p q h => by simp at h, fun k q h => by simp at h⟩
  clear hPc hDc hFc hk1 hz1
  generalize H1 = H at hP hS ⊢
  have hP : va_P D CL [(xq, .inl (cJ, 1, .inr (.inl F)))] H := hP
  have hD : va_D A [(xq, .inl (cJ, 1, .inr (.inl F)))] := hD
  refine W.widen (k := 1) (n := 6) (by decide) (by decide) ?_
  refine lv_astore hx hb d_DiscMakerLaw_node_13 hl (by decide) rfl (fun ls hl => ?_)
  have hl : lv_has ls 5 [(4, .ref x5), (0, .ref h0), (1, .int n), (2, .int v), (3, .ref xq)] := hl
  refine lv_iconst (v := 1) hx hb d_DiscMakerLaw_node_15 (by decide) ?_
  have hP9 := hP.sub (ws' := [(xq, .inl (cJ, 1, .inr (.inl F)))]) [0] rfl
  have hD9 := hD.sub (ws' := [(xq, .inl (cJ, 1, .inr (.inl F)))]) [0] (by decide) rfl
  exact W.iret (v := 1) hx hb hr (fun t ht hW => ⟨⟨1, (), rfl, rfl, by rw [ht]; exact hP9, hD9⟩, hS.F ht⟩) hS.2.2 d_DiscMakerLaw_node_16

theorem d_DiscMakerLaw_name_0 : decode b_DiscMakerLaw_name 0 = .ok (.aload_n 3, 1) := by decide +kernel
theorem d_DiscMakerLaw_name_1 : decode b_DiscMakerLaw_name 1 = .ok (.iconst 0, 1) := by decide +kernel
theorem d_DiscMakerLaw_name_2 : decode b_DiscMakerLaw_name 2 = .ok (.aload_n 0, 1) := by decide +kernel
theorem d_DiscMakerLaw_name_3 : decode b_DiscMakerLaw_name 3 = .ok (.iload_n 1, 1) := by decide +kernel
theorem d_DiscMakerLaw_name_4 : decode b_DiscMakerLaw_name 4 = .ok (.iload_n 2, 1) := by decide +kernel
theorem d_DiscMakerLaw_name_5 : decode b_DiscMakerLaw_name 5 = .ok (.invokevirtual 21, 3) := by decide +kernel
theorem d_DiscMakerLaw_name_13 : decode b_DiscMakerLaw_name 13 = .ok (.astore 4, 2) := by decide +kernel
theorem d_DiscMakerLaw_name_15 : decode b_DiscMakerLaw_name 15 = .ok (.iconst 1, 1) := by decide +kernel
theorem d_DiscMakerLaw_name_16 : decode b_DiscMakerLaw_name 16 = .ok (.ireturn, 1) := by decide +kernel
set_option maxHeartbeats 4000000 in
set_option maxRecDepth 100000 in
theorem c_l_name (l : Launch) (htl : l.stackTraces = false) (D : va_G) (cB cI cJ cZ cN cF : ClassId) (sz : Nat) (h0 tx tr im mk rd : Nat) (rp rr : Nat) (xq : Nat) (F : Nat → Int64) (n v : Int32) : Met l y_DiscMakerLaw_name w_DiscMakerLaw_name ({ frames := 7, cells := 1, slots := 6, locals := 123 }) (va_Pc [.ref h0, .int n, .int v, .ref xq] (fun U => U.heap.size = sz ∧ va_P D CL [(h0, .inr (0, [.ref tx, .ref tr, .ref im, .ref mk, .ref rd])), (rd, .inr (7, [.ref im, .ref rp, .ref rr, .int 0, .int 0, .int 0])), (xq, .inl (cJ, 1, .inr (.inl F)))] U.heap ∧ va_K D CL (TY cB cI cJ cZ cN cF) U ∧ NN U ∧ va_D (fun _ => True) [(h0, .inr (0, [.ref tx, .ref tr, .ref im, .ref mk, .ref rd])), (rd, .inr (7, [.ref im, .ref rp, .ref rr, .int 0, .int 0, .int 0])), (xq, .inl (cJ, 1, .inr (.inl F)))] ∧ TX (va_A [(h0, .inr (0, [.ref tx, .ref tr, .ref im, .ref mk, .ref rd])), (rd, .inr (7, [.ref im, .ref rp, .ref rr, .int 0, .int 0, .int 0])), (xq, .inl (cJ, 1, .inr (.inl F)))] sz) U U.heap)) (va_Qi (fun (r : Int32) (u : Unit) => r = 1) (fun (u : Unit) (t : State) => match u with | () => va_P D CL [(xq, .inl (cJ, 1, .inr (.inl F)))] t.heap ∧ va_D (va_A [(h0, .inr (0, [.ref tx, .ref tr, .ref im, .ref mk, .ref rd])), (rd, .inr (7, [.ref im, .ref rp, .ref rr, .int 0, .int 0, .int 0])), (xq, .inl (cJ, 1, .inr (.inl F)))] sz) [(xq, .inl (cJ, 1, .inr (.inl F)))]) (va_A [(h0, .inr (0, [.ref tx, .ref tr, .ref im, .ref mk, .ref rd])), (rd, .inr (7, [.ref im, .ref rp, .ref rr, .int 0, .int 0, .int 0])), (xq, .inl (cJ, 1, .inr (.inl F)))] sz)) 1 6 (va_A [(h0, .inr (0, [.ref tx, .ref tr, .ref im, .ref mk, .ref rd])), (rd, .inr (7, [.ref im, .ref rp, .ref rr, .int 0, .int 0, .int 0])), (xq, .inl (cJ, 1, .inr (.inl F)))] sz) := by
  refine va_MetW (cc := b_DiscMakerLaw_name) (maxL := 5) (ret := some .int) (hh := [((0 : Nat), (10 : Nat), (13 : Nat), (19 : Nat))]) (by decide) rfl ?_
  intro p e s m args below meth c s₁ B hml hv
  obtain ⟨rfl, hsz, hP, hK, hN, hD0, hZ⟩ := hv
  have hx := B.exec
  have hb := B.bytes
  have hr := B.returns
  have hts := atoms_spec (ws := w_DiscMakerLaw_name) B.pre
  have ht9 := fun (w : Cond) (h : w ∈ lw_g) => hts w (List.mem_cons_of_mem _ h)
  have hown : s.vm.findClass "DiscMakerLaw" = some m.cls := findClass_of_methodNamed B.named
  have hlocks := B.notSynchronized
  subst hsz
  have hD := hD0.self (sz := s.heap.size)
  generalize hAe : va_A [(h0, .inr (0, [.ref tx, .ref tr, .ref im, .ref mk, .ref rd])), (rd, .inr (7, [.ref im, .ref rp, .ref rr, .int 0, .int 0, .int 0])), (xq, .inl (cJ, 1, .inr (.inl F)))] s.heap.size = A at hD hZ ⊢
  have hA : ∀ q : Nat, s.heap.size ≤ q → A q := fun q h => by rw [← hAe]; exact Or.inr h
  have hS : va_S A s.heap s.heap [] := va_S.rf
  have hP : va_P D CL [(h0, .inr (0, [.ref tx, .ref tr, .ref im, .ref mk, .ref rd])), (rd, .inr (7, [.ref im, .ref rp, .ref rr, .int 0, .int 0, .int 0])), (xq, .inl (cJ, 1, .inr (.inl F)))] s.heap := hP
  have hone := zw_one B (hts _ List.mem_cons_self)
  have hl := lv_entry [.ref h0, .int n, .int v, .ref xq] (n := 5) (Nat.le_of_ble_eq_true rfl)
  rw [lg_entry_eq]
  generalize (lg_sl [.ref h0, .int n, .int v, .ref xq] ++ List.replicate (5 - (lg_sl [.ref h0, .int n, .int v, .ref xq]).length) Slot.unset).toArray = ls at hl ⊢
  have hl : lv_has ls 5 [(0, .ref h0), (1, .int n), (2, .int v), (3, .ref xq)] := hl
  refine lv_aload_n hx hb d_DiscMakerLaw_name_0 rfl (lv_at hl 3 rfl) ?_
  refine lv_iconst (v := 0) hx hb d_DiscMakerLaw_name_1 (by decide) ?_
  refine lv_aload_n hx hb d_DiscMakerLaw_name_2 rfl (lv_at hl 0 rfl) ?_
  refine lv_iload_n hx hb d_DiscMakerLaw_name_3 rfl (lv_at hl 1 rfl) ?_
  refine lv_iload_n hx hb d_DiscMakerLaw_name_4 rfl (lv_at hl 2 rfl) ?_
  have hPc := hP.sub (ws' := [(h0, .inr (0, [.ref tx, .ref tr, .ref im, .ref mk, .ref rd])), (rd, .inr (7, [.ref im, .ref rp, .ref rr, .int 0, .int 0, .int 0]))]) [0, 1] rfl
  have hDc := hD.sub (ws' := [(h0, .inr (0, [.ref tx, .ref tr, .ref im, .ref mk, .ref rd])), (rd, .inr (7, [.ref im, .ref rp, .ref rr, .int 0, .int 0, .int 0]))]) [0, 1] (by decide) rfl
  have hFc := va_free (wc := [(h0, .inr (0, [.ref tx, .ref tr, .ref im, .ref mk, .ref rd])), (rd, .inr (7, [.ref im, .ref rp, .ref rr, .int 0, .int 0, .int 0]))]) hD hS hA [0, 1] rfl
  have hkc : 1 ≤ 1 := by decide
  have hks : 6 ≤ 6 := by decide
  refine W.eq (g2 := F0 m 5 ls ([.int n, .int v].reverse ++ .ref h0 :: [.int 0, .ref xq])) rfl ?_
  refine zz_callT (As := [.int n, .int v]) (rest := [.int 0, .ref xq]) (Cr := "DiscMaker") ⟨hx, hb, hml, hown, hts⟩ (c_t_name l htl D cB cI cJ cZ cN cF s.heap.size h0 tx tr im mk rd rp rr n v) (cwV 2 hts (lg_goodV k1405 k1406 k1407 k115 kc_DiscMaker_name) rfl rfl rfl (by decide +kernel) ⟨Nat.le_of_ble_eq_true rfl, Nat.le_of_ble_eq_true rfl⟩) ⟨fun a U g mk q => by obtain ⟨q0, q1, qP, qK, qN, qD, qZ⟩ := q; exact ⟨q0, q1, qP, va_K.moved (u := U) (U := U.calling g mk a) (Vm.Alike.refl U.vm) qK, qN.calling, qD, TX_blind qZ⟩, va_recv hK hP (ci := 0) (q0 := 0) rfl rfl, fun U hU hW => ⟨rfl, by rw [hU], by rw [hU]; exact hPc, va_K.moved hW.alike hK, NN.warm hW hN, hDc.weaken (fun _ _ _ _ => trivial), TX_pass (hZ) hS hFc hW.alike hU⟩⟩ hone ⟨by decide, by decide⟩ (by decide) (ht9 _ k1374) rfl hl.1 (Nat.le_of_ble_eq_true rfl) d_DiscMakerLaw_name_5 ⟨hkc, hks⟩ hS (fun q _ h => hFc q h) hFc (fun x5 H1 locs hz1 hk1 hS => ?_)
  obtain ⟨hP, hD⟩ := va_join (wr := [(xq, .inl (cJ, 1, .inr (.inl F)))]) (w1 := []) hP hD [0, 1] [2] rfl rfl (by decide) (by decide) hk1 hFc (fun k q h => by simp at h) ⟨fun i j p q h => by simp at h, fun k q h => by simp at h⟩
  clear hPc hDc hFc hk1 hz1
  generalize H1 = H at hP hS ⊢
  have hP : va_P D CL [(xq, .inl (cJ, 1, .inr (.inl F)))] H := hP
  have hD : va_D A [(xq, .inl (cJ, 1, .inr (.inl F)))] := hD
  refine W.widen (k := 1) (n := 6) (by decide) (by decide) ?_
  refine lv_astore hx hb d_DiscMakerLaw_name_13 hl (by decide) rfl (fun ls hl => ?_)
  have hl : lv_has ls 5 [(4, .ref x5), (0, .ref h0), (1, .int n), (2, .int v), (3, .ref xq)] := hl
  refine lv_iconst (v := 1) hx hb d_DiscMakerLaw_name_15 (by decide) ?_
  have hP9 := hP.sub (ws' := [(xq, .inl (cJ, 1, .inr (.inl F)))]) [0] rfl
  have hD9 := hD.sub (ws' := [(xq, .inl (cJ, 1, .inr (.inl F)))]) [0] (by decide) rfl
  exact W.iret (v := 1) hx hb hr (fun t ht hW => ⟨⟨1, (), rfl, rfl, by rw [ht]; exact hP9, hD9⟩, hS.F ht⟩) hS.2.2 d_DiscMakerLaw_name_16

theorem d_DiscMakerLaw_target_0 : decode b_DiscMakerLaw_target 0 = .ok (.aload_n 3, 1) := by decide +kernel
theorem d_DiscMakerLaw_target_1 : decode b_DiscMakerLaw_target 1 = .ok (.iconst 0, 1) := by decide +kernel
theorem d_DiscMakerLaw_target_2 : decode b_DiscMakerLaw_target 2 = .ok (.aload_n 0, 1) := by decide +kernel
theorem d_DiscMakerLaw_target_3 : decode b_DiscMakerLaw_target 3 = .ok (.iload_n 1, 1) := by decide +kernel
theorem d_DiscMakerLaw_target_4 : decode b_DiscMakerLaw_target 4 = .ok (.iload_n 2, 1) := by decide +kernel
theorem d_DiscMakerLaw_target_5 : decode b_DiscMakerLaw_target 5 = .ok (.invokevirtual 24, 3) := by decide +kernel
theorem d_DiscMakerLaw_target_13 : decode b_DiscMakerLaw_target 13 = .ok (.astore 4, 2) := by decide +kernel
theorem d_DiscMakerLaw_target_15 : decode b_DiscMakerLaw_target 15 = .ok (.iconst 1, 1) := by decide +kernel
theorem d_DiscMakerLaw_target_16 : decode b_DiscMakerLaw_target 16 = .ok (.ireturn, 1) := by decide +kernel
set_option maxHeartbeats 4000000 in
set_option maxRecDepth 100000 in
theorem c_l_target (l : Launch) (htl : l.stackTraces = false) (D : va_G) (cB cI cJ cZ cN cF : ClassId) (sz : Nat) (h0 tx tr im mk rd : Nat) (rp rr : Nat) (xq : Nat) (F : Nat → Int64) (n v : Int32) : Met l y_DiscMakerLaw_target w_DiscMakerLaw_target ({ frames := 7, cells := 1, slots := 6, locals := 123 }) (va_Pc [.ref h0, .int n, .int v, .ref xq] (fun U => U.heap.size = sz ∧ va_P D CL [(h0, .inr (0, [.ref tx, .ref tr, .ref im, .ref mk, .ref rd])), (rd, .inr (7, [.ref im, .ref rp, .ref rr, .int 0, .int 0, .int 0])), (xq, .inl (cJ, 1, .inr (.inl F)))] U.heap ∧ va_K D CL (TY cB cI cJ cZ cN cF) U ∧ NN U ∧ va_D (fun _ => True) [(h0, .inr (0, [.ref tx, .ref tr, .ref im, .ref mk, .ref rd])), (rd, .inr (7, [.ref im, .ref rp, .ref rr, .int 0, .int 0, .int 0])), (xq, .inl (cJ, 1, .inr (.inl F)))] ∧ TX (va_A [(h0, .inr (0, [.ref tx, .ref tr, .ref im, .ref mk, .ref rd])), (rd, .inr (7, [.ref im, .ref rp, .ref rr, .int 0, .int 0, .int 0])), (xq, .inl (cJ, 1, .inr (.inl F)))] sz) U U.heap)) (va_Qi (fun (r : Int32) (u : Unit) => r = 1) (fun (u : Unit) (t : State) => match u with | () => va_P D CL [(xq, .inl (cJ, 1, .inr (.inl F)))] t.heap ∧ va_D (va_A [(h0, .inr (0, [.ref tx, .ref tr, .ref im, .ref mk, .ref rd])), (rd, .inr (7, [.ref im, .ref rp, .ref rr, .int 0, .int 0, .int 0])), (xq, .inl (cJ, 1, .inr (.inl F)))] sz) [(xq, .inl (cJ, 1, .inr (.inl F)))]) (va_A [(h0, .inr (0, [.ref tx, .ref tr, .ref im, .ref mk, .ref rd])), (rd, .inr (7, [.ref im, .ref rp, .ref rr, .int 0, .int 0, .int 0])), (xq, .inl (cJ, 1, .inr (.inl F)))] sz)) 1 6 (va_A [(h0, .inr (0, [.ref tx, .ref tr, .ref im, .ref mk, .ref rd])), (rd, .inr (7, [.ref im, .ref rp, .ref rr, .int 0, .int 0, .int 0])), (xq, .inl (cJ, 1, .inr (.inl F)))] sz) := by
  refine va_MetW (cc := b_DiscMakerLaw_target) (maxL := 5) (ret := some .int) (hh := [((0 : Nat), (10 : Nat), (13 : Nat), (19 : Nat))]) (by decide) rfl ?_
  intro p e s m args below meth c s₁ B hml hv
  obtain ⟨rfl, hsz, hP, hK, hN, hD0, hZ⟩ := hv
  have hx := B.exec
  have hb := B.bytes
  have hr := B.returns
  have hts := atoms_spec (ws := w_DiscMakerLaw_target) B.pre
  have ht9 := fun (w : Cond) (h : w ∈ lw_g) => hts w (List.mem_cons_of_mem _ h)
  have hown : s.vm.findClass "DiscMakerLaw" = some m.cls := findClass_of_methodNamed B.named
  have hlocks := B.notSynchronized
  subst hsz
  have hD := hD0.self (sz := s.heap.size)
  generalize hAe : va_A [(h0, .inr (0, [.ref tx, .ref tr, .ref im, .ref mk, .ref rd])), (rd, .inr (7, [.ref im, .ref rp, .ref rr, .int 0, .int 0, .int 0])), (xq, .inl (cJ, 1, .inr (.inl F)))] s.heap.size = A at hD hZ ⊢
  have hA : ∀ q : Nat, s.heap.size ≤ q → A q := fun q h => by rw [← hAe]; exact Or.inr h
  have hS : va_S A s.heap s.heap [] := va_S.rf
  have hP : va_P D CL [(h0, .inr (0, [.ref tx, .ref tr, .ref im, .ref mk, .ref rd])), (rd, .inr (7, [.ref im, .ref rp, .ref rr, .int 0, .int 0, .int 0])), (xq, .inl (cJ, 1, .inr (.inl F)))] s.heap := hP
  have hone := zw_one B (hts _ List.mem_cons_self)
  have hl := lv_entry [.ref h0, .int n, .int v, .ref xq] (n := 5) (Nat.le_of_ble_eq_true rfl)
  rw [lg_entry_eq]
  generalize (lg_sl [.ref h0, .int n, .int v, .ref xq] ++ List.replicate (5 - (lg_sl [.ref h0, .int n, .int v, .ref xq]).length) Slot.unset).toArray = ls at hl ⊢
  have hl : lv_has ls 5 [(0, .ref h0), (1, .int n), (2, .int v), (3, .ref xq)] := hl
  refine lv_aload_n hx hb d_DiscMakerLaw_target_0 rfl (lv_at hl 3 rfl) ?_
  refine lv_iconst (v := 0) hx hb d_DiscMakerLaw_target_1 (by decide) ?_
  refine lv_aload_n hx hb d_DiscMakerLaw_target_2 rfl (lv_at hl 0 rfl) ?_
  refine lv_iload_n hx hb d_DiscMakerLaw_target_3 rfl (lv_at hl 1 rfl) ?_
  refine lv_iload_n hx hb d_DiscMakerLaw_target_4 rfl (lv_at hl 2 rfl) ?_
  have hPc := hP.sub (ws' := [(h0, .inr (0, [.ref tx, .ref tr, .ref im, .ref mk, .ref rd])), (rd, .inr (7, [.ref im, .ref rp, .ref rr, .int 0, .int 0, .int 0]))]) [0, 1] rfl
  have hDc := hD.sub (ws' := [(h0, .inr (0, [.ref tx, .ref tr, .ref im, .ref mk, .ref rd])), (rd, .inr (7, [.ref im, .ref rp, .ref rr, .int 0, .int 0, .int 0]))]) [0, 1] (by decide) rfl
  have hFc := va_free (wc := [(h0, .inr (0, [.ref tx, .ref tr, .ref im, .ref mk, .ref rd])), (rd, .inr (7, [.ref im, .ref rp, .ref rr, .int 0, .int 0, .int 0]))]) hD hS hA [0, 1] rfl
  have hkc : 1 ≤ 1 := by decide
  have hks : 6 ≤ 6 := by decide
  refine W.eq (g2 := F0 m 5 ls ([.int n, .int v].reverse ++ .ref h0 :: [.int 0, .ref xq])) rfl ?_
  refine zz_callT (As := [.int n, .int v]) (rest := [.int 0, .ref xq]) (Cr := "DiscMaker") ⟨hx, hb, hml, hown, hts⟩ (c_t_target l htl D cB cI cJ cZ cN cF s.heap.size h0 tx tr im mk rd rp rr n v) (cwV 2 hts (lg_goodV k1412 k1413 k1414 k115 kc_DiscMaker_target) rfl rfl rfl (by decide +kernel) ⟨Nat.le_of_ble_eq_true rfl, Nat.le_of_ble_eq_true rfl⟩) ⟨fun a U g mk q => by obtain ⟨q0, q1, qP, qK, qN, qD, qZ⟩ := q; exact ⟨q0, q1, qP, va_K.moved (u := U) (U := U.calling g mk a) (Vm.Alike.refl U.vm) qK, qN.calling, qD, TX_blind qZ⟩, va_recv hK hP (ci := 0) (q0 := 0) rfl rfl, fun U hU hW => ⟨rfl, by rw [hU], by rw [hU]; exact hPc, va_K.moved hW.alike hK, NN.warm hW hN, hDc.weaken (fun _ _ _ _ => trivial), TX_pass (hZ) hS hFc hW.alike hU⟩⟩ hone ⟨by decide, by decide⟩ (by decide) (ht9 _ k1374) rfl hl.1 (Nat.le_of_ble_eq_true rfl) d_DiscMakerLaw_target_5 ⟨hkc, hks⟩ hS (fun q _ h => hFc q h) hFc (fun x5 H1 locs hz1 hk1 hS => ?_)
  obtain ⟨hP, hD⟩ := va_join (wr := [(xq, .inl (cJ, 1, .inr (.inl F)))]) (w1 := []) hP hD [0, 1] [2] rfl rfl (by decide) (by decide) hk1 hFc (fun k q h => by simp at h) ⟨fun i j p q h => by simp at h, fun k q h => by simp at h⟩
  clear hPc hDc hFc hk1 hz1
  generalize H1 = H at hP hS ⊢
  have hP : va_P D CL [(xq, .inl (cJ, 1, .inr (.inl F)))] H := hP
  have hD : va_D A [(xq, .inl (cJ, 1, .inr (.inl F)))] := hD
  refine W.widen (k := 1) (n := 6) (by decide) (by decide) ?_
  refine lv_astore hx hb d_DiscMakerLaw_target_13 hl (by decide) rfl (fun ls hl => ?_)
  have hl : lv_has ls 5 [(4, .ref x5), (0, .ref h0), (1, .int n), (2, .int v), (3, .ref xq)] := hl
  refine lv_iconst (v := 1) hx hb d_DiscMakerLaw_target_15 (by decide) ?_
  have hP9 := hP.sub (ws' := [(xq, .inl (cJ, 1, .inr (.inl F)))]) [0] rfl
  have hD9 := hD.sub (ws' := [(xq, .inl (cJ, 1, .inr (.inl F)))]) [0] (by decide) rfl
  exact W.iret (v := 1) hx hb hr (fun t ht hW => ⟨⟨1, (), rfl, rfl, by rw [ht]; exact hP9, hD9⟩, hS.F ht⟩) hS.2.2 d_DiscMakerLaw_target_16

theorem d_DiscMakerLaw_read_0 : decode b_DiscMakerLaw_read 0 = .ok (.aload_n 3, 1) := by decide +kernel
theorem d_DiscMakerLaw_read_1 : decode b_DiscMakerLaw_read 1 = .ok (.iconst 0, 1) := by decide +kernel
theorem d_DiscMakerLaw_read_2 : decode b_DiscMakerLaw_read 2 = .ok (.aload_n 0, 1) := by decide +kernel
theorem d_DiscMakerLaw_read_3 : decode b_DiscMakerLaw_read 3 = .ok (.iload_n 1, 1) := by decide +kernel
theorem d_DiscMakerLaw_read_4 : decode b_DiscMakerLaw_read 4 = .ok (.iload_n 2, 1) := by decide +kernel
theorem d_DiscMakerLaw_read_5 : decode b_DiscMakerLaw_read 5 = .ok (.invokevirtual 27, 3) := by decide +kernel
theorem d_DiscMakerLaw_read_13 : decode b_DiscMakerLaw_read 13 = .ok (.astore 4, 2) := by decide +kernel
theorem d_DiscMakerLaw_read_15 : decode b_DiscMakerLaw_read 15 = .ok (.iconst 1, 1) := by decide +kernel
theorem d_DiscMakerLaw_read_16 : decode b_DiscMakerLaw_read 16 = .ok (.ireturn, 1) := by decide +kernel
set_option maxHeartbeats 4000000 in
set_option maxRecDepth 100000 in
theorem c_l_read (l : Launch) (htl : l.stackTraces = false) (D : va_G) (cB cI cJ cZ cN cF : ClassId) (sz : Nat) (h0 tx tr im mk rd : Nat) (rp rr : Nat) (xq : Nat) (F : Nat → Int64) (n v : Int32) : Met l y_DiscMakerLaw_read w_DiscMakerLaw_read ({ frames := 7, cells := 1, slots := 6, locals := 123 }) (va_Pc [.ref h0, .int n, .int v, .ref xq] (fun U => U.heap.size = sz ∧ va_P D CL [(h0, .inr (0, [.ref tx, .ref tr, .ref im, .ref mk, .ref rd])), (rd, .inr (7, [.ref im, .ref rp, .ref rr, .int 0, .int 0, .int 0])), (xq, .inl (cJ, 1, .inr (.inl F)))] U.heap ∧ va_K D CL (TY cB cI cJ cZ cN cF) U ∧ NN U ∧ va_D (fun _ => True) [(h0, .inr (0, [.ref tx, .ref tr, .ref im, .ref mk, .ref rd])), (rd, .inr (7, [.ref im, .ref rp, .ref rr, .int 0, .int 0, .int 0])), (xq, .inl (cJ, 1, .inr (.inl F)))] ∧ TX (va_A [(h0, .inr (0, [.ref tx, .ref tr, .ref im, .ref mk, .ref rd])), (rd, .inr (7, [.ref im, .ref rp, .ref rr, .int 0, .int 0, .int 0])), (xq, .inl (cJ, 1, .inr (.inl F)))] sz) U U.heap)) (va_Qi (fun (r : Int32) (u : Unit) => r = 1) (fun (u : Unit) (t : State) => match u with | () => va_P D CL [(xq, .inl (cJ, 1, .inr (.inl F)))] t.heap ∧ va_D (va_A [(h0, .inr (0, [.ref tx, .ref tr, .ref im, .ref mk, .ref rd])), (rd, .inr (7, [.ref im, .ref rp, .ref rr, .int 0, .int 0, .int 0])), (xq, .inl (cJ, 1, .inr (.inl F)))] sz) [(xq, .inl (cJ, 1, .inr (.inl F)))]) (va_A [(h0, .inr (0, [.ref tx, .ref tr, .ref im, .ref mk, .ref rd])), (rd, .inr (7, [.ref im, .ref rp, .ref rr, .int 0, .int 0, .int 0])), (xq, .inl (cJ, 1, .inr (.inl F)))] sz)) 1 6 (va_A [(h0, .inr (0, [.ref tx, .ref tr, .ref im, .ref mk, .ref rd])), (rd, .inr (7, [.ref im, .ref rp, .ref rr, .int 0, .int 0, .int 0])), (xq, .inl (cJ, 1, .inr (.inl F)))] sz) := by
  refine va_MetW (cc := b_DiscMakerLaw_read) (maxL := 5) (ret := some .int) (hh := [((0 : Nat), (10 : Nat), (13 : Nat), (19 : Nat))]) (by decide) rfl ?_
  intro p e s m args below meth c s₁ B hml hv
  obtain ⟨rfl, hsz, hP, hK, hN, hD0, hZ⟩ := hv
  have hx := B.exec
  have hb := B.bytes
  have hr := B.returns
  have hts := atoms_spec (ws := w_DiscMakerLaw_read) B.pre
  have ht9 := fun (w : Cond) (h : w ∈ lw_g) => hts w (List.mem_cons_of_mem _ h)
  have hown : s.vm.findClass "DiscMakerLaw" = some m.cls := findClass_of_methodNamed B.named
  have hlocks := B.notSynchronized
  subst hsz
  have hD := hD0.self (sz := s.heap.size)
  generalize hAe : va_A [(h0, .inr (0, [.ref tx, .ref tr, .ref im, .ref mk, .ref rd])), (rd, .inr (7, [.ref im, .ref rp, .ref rr, .int 0, .int 0, .int 0])), (xq, .inl (cJ, 1, .inr (.inl F)))] s.heap.size = A at hD hZ ⊢
  have hA : ∀ q : Nat, s.heap.size ≤ q → A q := fun q h => by rw [← hAe]; exact Or.inr h
  have hS : va_S A s.heap s.heap [] := va_S.rf
  have hP : va_P D CL [(h0, .inr (0, [.ref tx, .ref tr, .ref im, .ref mk, .ref rd])), (rd, .inr (7, [.ref im, .ref rp, .ref rr, .int 0, .int 0, .int 0])), (xq, .inl (cJ, 1, .inr (.inl F)))] s.heap := hP
  have hone := zw_one B (hts _ List.mem_cons_self)
  have hl := lv_entry [.ref h0, .int n, .int v, .ref xq] (n := 5) (Nat.le_of_ble_eq_true rfl)
  rw [lg_entry_eq]
  generalize (lg_sl [.ref h0, .int n, .int v, .ref xq] ++ List.replicate (5 - (lg_sl [.ref h0, .int n, .int v, .ref xq]).length) Slot.unset).toArray = ls at hl ⊢
  have hl : lv_has ls 5 [(0, .ref h0), (1, .int n), (2, .int v), (3, .ref xq)] := hl
  refine lv_aload_n hx hb d_DiscMakerLaw_read_0 rfl (lv_at hl 3 rfl) ?_
  refine lv_iconst (v := 0) hx hb d_DiscMakerLaw_read_1 (by decide) ?_
  refine lv_aload_n hx hb d_DiscMakerLaw_read_2 rfl (lv_at hl 0 rfl) ?_
  refine lv_iload_n hx hb d_DiscMakerLaw_read_3 rfl (lv_at hl 1 rfl) ?_
  refine lv_iload_n hx hb d_DiscMakerLaw_read_4 rfl (lv_at hl 2 rfl) ?_
  have hPc := hP.sub (ws' := [(h0, .inr (0, [.ref tx, .ref tr, .ref im, .ref mk, .ref rd])), (rd, .inr (7, [.ref im, .ref rp, .ref rr, .int 0, .int 0, .int 0]))]) [0, 1] rfl
  have hDc := hD.sub (ws' := [(h0, .inr (0, [.ref tx, .ref tr, .ref im, .ref mk, .ref rd])), (rd, .inr (7, [.ref im, .ref rp, .ref rr, .int 0, .int 0, .int 0]))]) [0, 1] (by decide) rfl
  have hFc := va_free (wc := [(h0, .inr (0, [.ref tx, .ref tr, .ref im, .ref mk, .ref rd])), (rd, .inr (7, [.ref im, .ref rp, .ref rr, .int 0, .int 0, .int 0]))]) hD hS hA [0, 1] rfl
  have hkc : 1 ≤ 1 := by decide
  have hks : 6 ≤ 6 := by decide
  refine W.eq (g2 := F0 m 5 ls ([.int n, .int v].reverse ++ .ref h0 :: [.int 0, .ref xq])) rfl ?_
  refine zz_callT (As := [.int n, .int v]) (rest := [.int 0, .ref xq]) (Cr := "DiscMaker") ⟨hx, hb, hml, hown, hts⟩ (c_t_read l htl D cB cI cJ cZ cN cF s.heap.size h0 tx tr im mk rd rp rr n v) (cwV 2 hts (lg_goodV k1419 k1420 k1421 k115 kc_DiscMaker_read) rfl rfl rfl (by decide +kernel) ⟨Nat.le_of_ble_eq_true rfl, Nat.le_of_ble_eq_true rfl⟩) ⟨fun a U g mk q => by obtain ⟨q0, q1, qP, qK, qN, qD, qZ⟩ := q; exact ⟨q0, q1, qP, va_K.moved (u := U) (U := U.calling g mk a) (Vm.Alike.refl U.vm) qK, qN.calling, qD, TX_blind qZ⟩, va_recv hK hP (ci := 0) (q0 := 0) rfl rfl, fun U hU hW => ⟨rfl, by rw [hU], by rw [hU]; exact hPc, va_K.moved hW.alike hK, NN.warm hW hN, hDc.weaken (fun _ _ _ _ => trivial), TX_pass (hZ) hS hFc hW.alike hU⟩⟩ hone ⟨by decide, by decide⟩ (by decide) (ht9 _ k1374) rfl hl.1 (Nat.le_of_ble_eq_true rfl) d_DiscMakerLaw_read_5 ⟨hkc, hks⟩ hS (fun q _ h => hFc q h) hFc (fun x5 H1 locs hz1 hk1 hS => ?_)
  obtain ⟨hP, hD⟩ := va_join (wr := [(xq, .inl (cJ, 1, .inr (.inl F)))]) (w1 := []) hP hD [0, 1] [2] rfl rfl (by decide) (by decide) hk1 hFc (fun k q h => by simp at h) ⟨fun i j p q h => by simp at h, fun k q h => by simp at h⟩
  clear hPc hDc hFc hk1 hz1
  generalize H1 = H at hP hS ⊢
  have hP : va_P D CL [(xq, .inl (cJ, 1, .inr (.inl F)))] H := hP
  have hD : va_D A [(xq, .inl (cJ, 1, .inr (.inl F)))] := hD
  refine W.widen (k := 1) (n := 6) (by decide) (by decide) ?_
  refine lv_astore hx hb d_DiscMakerLaw_read_13 hl (by decide) rfl (fun ls hl => ?_)
  have hl : lv_has ls 5 [(4, .ref x5), (0, .ref h0), (1, .int n), (2, .int v), (3, .ref xq)] := hl
  refine lv_iconst (v := 1) hx hb d_DiscMakerLaw_read_15 (by decide) ?_
  have hP9 := hP.sub (ws' := [(xq, .inl (cJ, 1, .inr (.inl F)))]) [0] rfl
  have hD9 := hD.sub (ws' := [(xq, .inl (cJ, 1, .inr (.inl F)))]) [0] (by decide) rfl
  exact W.iret (v := 1) hx hb hr (fun t ht hW => ⟨⟨1, (), rfl, rfl, by rw [ht]; exact hP9, hD9⟩, hS.F ht⟩) hS.2.2 d_DiscMakerLaw_read_16

theorem d_DiscMakerLaw_mount_0 : decode b_DiscMakerLaw_mount 0 = .ok (.aload_n 2, 1) := by decide +kernel
theorem d_DiscMakerLaw_mount_1 : decode b_DiscMakerLaw_mount 1 = .ok (.iconst 0, 1) := by decide +kernel
theorem d_DiscMakerLaw_mount_2 : decode b_DiscMakerLaw_mount 2 = .ok (.aload_n 0, 1) := by decide +kernel
theorem d_DiscMakerLaw_mount_3 : decode b_DiscMakerLaw_mount 3 = .ok (.iload_n 1, 1) := by decide +kernel
theorem d_DiscMakerLaw_mount_4 : decode b_DiscMakerLaw_mount 4 = .ok (.invokevirtual 7, 3) := by decide +kernel
theorem d_DiscMakerLaw_mount_7 : decode b_DiscMakerLaw_mount 7 = .ok (.i2l, 1) := by decide +kernel
theorem d_DiscMakerLaw_mount_8 : decode b_DiscMakerLaw_mount 8 = .ok (.lastore, 1) := by decide +kernel
theorem d_DiscMakerLaw_mount_9 : decode b_DiscMakerLaw_mount 9 = .ok (.goto 6, 3) := by decide +kernel
theorem d_DiscMakerLaw_mount_12 : decode b_DiscMakerLaw_mount 12 = .ok (.astore_n 3, 1) := by decide +kernel
theorem d_DiscMakerLaw_mount_13 : decode b_DiscMakerLaw_mount 13 = .ok (.iconst 1, 1) := by decide +kernel
theorem d_DiscMakerLaw_mount_14 : decode b_DiscMakerLaw_mount 14 = .ok (.ireturn, 1) := by decide +kernel
theorem d_DiscMakerLaw_mount_15 : decode b_DiscMakerLaw_mount 15 = .ok (.iconst 0, 1) := by decide +kernel
theorem d_DiscMakerLaw_mount_16 : decode b_DiscMakerLaw_mount 16 = .ok (.ireturn, 1) := by decide +kernel
set_option maxHeartbeats 4000000 in
set_option maxRecDepth 100000 in
theorem c_l_mount (l : Launch) (htl : l.stackTraces = false) (D : va_G) (cB cI cJ cZ cN cF : ClassId) (sz : Nat) (h0 tx tr im mk rd : Nat) (rp rr : Nat) (iq xq : Nat) (F : Nat → Int64) (n : Int32) : Met l y_DiscMakerLaw_mount w_DiscMakerLaw_mount ({ frames := 7, cells := 1, slots := 6, locals := 121 }) (va_Pc [.ref h0, .int n, .ref xq] (fun U => U.heap.size = sz ∧ va_P D CL [(h0, .inr (0, [.ref tx, .ref tr, .ref im, .ref mk, .ref rd])), (rd, .inr (7, [.ref im, .ref rp, .ref rr, .int 0, .int 0, .int 0])), (im, .inr (1, [.ref iq, .int 0])), (xq, .inl (cJ, 1, .inr (.inl F)))] U.heap ∧ va_K D CL (TY cB cI cJ cZ cN cF) U ∧ NN U ∧ va_D (fun _ => True) [(h0, .inr (0, [.ref tx, .ref tr, .ref im, .ref mk, .ref rd])), (rd, .inr (7, [.ref im, .ref rp, .ref rr, .int 0, .int 0, .int 0])), (im, .inr (1, [.ref iq, .int 0])), (xq, .inl (cJ, 1, .inr (.inl F)))] ∧ TX (va_A [(h0, .inr (0, [.ref tx, .ref tr, .ref im, .ref mk, .ref rd])), (rd, .inr (7, [.ref im, .ref rp, .ref rr, .int 0, .int 0, .int 0])), (im, .inr (1, [.ref iq, .int 0])), (xq, .inl (cJ, 1, .inr (.inl F)))] sz) U U.heap)) (va_Qi (fun (r : Int32) (u : Nat → Int64) => (r = 0 ∧ u 0 = (-32769 : Int32).toInt64 ∧ (¬ n < 0 ∧ n ≤ 2)) ∨ (r = 1 ∧ ¬ (¬ n < 0 ∧ n ≤ 2))) (fun (u : Nat → Int64) (t : State) => match u with | G => va_P D CL [(xq, .inl (cJ, 1, .inr (.inl G)))] t.heap ∧ va_D (va_A [(h0, .inr (0, [.ref tx, .ref tr, .ref im, .ref mk, .ref rd])), (rd, .inr (7, [.ref im, .ref rp, .ref rr, .int 0, .int 0, .int 0])), (im, .inr (1, [.ref iq, .int 0])), (xq, .inl (cJ, 1, .inr (.inl F)))] sz) [(xq, .inl (cJ, 1, .inr (.inl G)))]) (va_A [(h0, .inr (0, [.ref tx, .ref tr, .ref im, .ref mk, .ref rd])), (rd, .inr (7, [.ref im, .ref rp, .ref rr, .int 0, .int 0, .int 0])), (im, .inr (1, [.ref iq, .int 0])), (xq, .inl (cJ, 1, .inr (.inl F)))] sz)) 1 6 (va_A [(h0, .inr (0, [.ref tx, .ref tr, .ref im, .ref mk, .ref rd])), (rd, .inr (7, [.ref im, .ref rp, .ref rr, .int 0, .int 0, .int 0])), (im, .inr (1, [.ref iq, .int 0])), (xq, .inl (cJ, 1, .inr (.inl F)))] sz) := by
  refine va_MetW (cc := b_DiscMakerLaw_mount) (maxL := 4) (ret := some .int) (hh := [((0 : Nat), (9 : Nat), (12 : Nat), (13 : Nat))]) (by decide) rfl ?_
  intro p e s m args below meth c s₁ B hml hv
  obtain ⟨rfl, hsz, hP, hK, hN, hD0, hZ⟩ := hv
  have hx := B.exec
  have hb := B.bytes
  have hr := B.returns
  have hts := atoms_spec (ws := w_DiscMakerLaw_mount) B.pre
  have ht9 := fun (w : Cond) (h : w ∈ lw_g) => hts w (List.mem_cons_of_mem _ h)
  have hown : s.vm.findClass "DiscMakerLaw" = some m.cls := findClass_of_methodNamed B.named
  have hlocks := B.notSynchronized
  subst hsz
  have hD := hD0.self (sz := s.heap.size)
  generalize hAe : va_A [(h0, .inr (0, [.ref tx, .ref tr, .ref im, .ref mk, .ref rd])), (rd, .inr (7, [.ref im, .ref rp, .ref rr, .int 0, .int 0, .int 0])), (im, .inr (1, [.ref iq, .int 0])), (xq, .inl (cJ, 1, .inr (.inl F)))] s.heap.size = A at hD hZ ⊢
  have hA : ∀ q : Nat, s.heap.size ≤ q → A q := fun q h => by rw [← hAe]; exact Or.inr h
  have hS : va_S A s.heap s.heap [] := va_S.rf
  have hP : va_P D CL [(h0, .inr (0, [.ref tx, .ref tr, .ref im, .ref mk, .ref rd])), (rd, .inr (7, [.ref im, .ref rp, .ref rr, .int 0, .int 0, .int 0])), (im, .inr (1, [.ref iq, .int 0])), (xq, .inl (cJ, 1, .inr (.inl F)))] s.heap := hP
  have hone := zw_one B (hts _ List.mem_cons_self)
  have hl := lv_entry [.ref h0, .int n, .ref xq] (n := 4) (Nat.le_of_ble_eq_true rfl)
  rw [lg_entry_eq]
  generalize (lg_sl [.ref h0, .int n, .ref xq] ++ List.replicate (4 - (lg_sl [.ref h0, .int n, .ref xq]).length) Slot.unset).toArray = ls at hl ⊢
  have hl : lv_has ls 4 [(0, .ref h0), (1, .int n), (2, .ref xq)] := hl
  refine lv_aload_n hx hb d_DiscMakerLaw_mount_0 rfl (lv_at hl 2 rfl) ?_
  refine lv_iconst (v := 0) hx hb d_DiscMakerLaw_mount_1 (by decide) ?_
  refine lv_aload_n hx hb d_DiscMakerLaw_mount_2 rfl (lv_at hl 0 rfl) ?_
  refine lv_iload_n hx hb d_DiscMakerLaw_mount_3 rfl (lv_at hl 1 rfl) ?_
  by_cases hv : (¬ n < 0 ∧ n ≤ 2)
  · skip
    have hPc := hP.sub (ws' := [(h0, .inr (0, [.ref tx, .ref tr, .ref im, .ref mk, .ref rd])), (rd, .inr (7, [.ref im, .ref rp, .ref rr, .int 0, .int 0, .int 0])), (im, .inr (1, [.ref iq, .int 0]))]) [0, 1, 2] rfl
    have hDc := hD.sub (ws' := [(h0, .inr (0, [.ref tx, .ref tr, .ref im, .ref mk, .ref rd])), (rd, .inr (7, [.ref im, .ref rp, .ref rr, .int 0, .int 0, .int 0])), (im, .inr (1, [.ref iq, .int 0]))]) [0, 1, 2] (by decide) rfl
    have hFc := va_free (wc := [(h0, .inr (0, [.ref tx, .ref tr, .ref im, .ref mk, .ref rd])), (rd, .inr (7, [.ref im, .ref rp, .ref rr, .int 0, .int 0, .int 0])), (im, .inr (1, [.ref iq, .int 0]))]) hD hS hA [0, 1, 2] rfl
    have hkc : 0 ≤ 1 := by decide
    have hks : 0 ≤ 6 := by decide
    refine va_calli (va_runV (C := "DiscMaker") (As := [.int n]) (rest := [.int 0, .ref xq]) ⟨hx, hb, hml, hown, hts⟩ (c_mount_ok l D cB cI cJ cZ cN cF s.heap.size h0 tx tr im mk rd rp rr iq n hv) (cwV 1 hts (lg_goodV k1150 k1151 k1152 k115 kc_DiscMaker_mount) rfl rfl rfl (by decide +kernel) ⟨Nat.le_of_ble_eq_true rfl, Nat.le_of_ble_eq_true rfl⟩) ⟨fun a U g mk q => by obtain ⟨q0, q1, qP, qK, qN, qD⟩ := q; exact ⟨q0, q1, qP, va_K.moved (u := U) (U := U.calling g mk a) (Vm.Alike.refl U.vm) qK, qN.calling, qD⟩, va_recv hK hP (ci := 0) (q0 := 0) rfl rfl, fun U hU hW => ⟨rfl, by rw [hU], by rw [hU]; exact hPc, va_K.moved hW.alike hK, NN.warm hW hN, hDc.weaken (fun _ _ _ _ => trivial)⟩⟩ rfl rfl hl.1 rfl (lv_room (Nat.le_of_ble_eq_true rfl)) d_DiscMakerLaw_mount_4 ⟨hkc, hks⟩) hS (fun q _ h => hFc q h) hFc (fun r4 u t H1 locs ht hvm hp_4 hB hz1 hk1 hS => ?_)
    obtain ⟨hP1, hD1⟩ := hB
    rw [ht] at hP1
    try dsimp only at hp_4
    obtain ⟨hP, hD⟩ := va_join (wr := [(xq, .inl (cJ, 1, .inr (.inl F)))]) (w1 := []) hP hD [0, 1, 2] [3] rfl rfl (by decide) (by decide) hk1 hFc hP1 hD1
    clear hPc hDc hFc hP1 hD1 hk1 hz1
    generalize H1 = H at hP hS ⊢
    have hP : va_P D CL [(xq, .inl (cJ, 1, .inr (.inl F)))] H := hP
    have hD : va_D A [(xq, .inl (cJ, 1, .inr (.inl F)))] := hD
    refine W.eq (g2 := F0 m 7 ls [.int (-32769), .int 0, .ref xq]) (by rw [show r4 = (-32769) from hp_4]) ?_
    refine lv_i2l hx hb d_DiscMakerLaw_mount_7 rfl ?_
    refine va_last hx hb hK hP hD hS 0 2 rfl rfl (by unfold vp_in; decide) d_DiscMakerLaw_mount_8 (fun H locs hP hD hS => ?_)
    have hP : va_P D CL [(xq, .inl (cJ, 1, .inr (.inl (vp_updL F 0 (((-32769) : Int32).toInt64)))))] H := hP
    have hD : va_D A [(xq, .inl (cJ, 1, .inr (.inl (vp_updL F 0 (((-32769) : Int32).toInt64)))))] := hD
    refine lv_goto (tgt := 15) hx hb d_DiscMakerLaw_mount_9 (by decide) ?_
    refine lv_iconst (v := 0) hx hb d_DiscMakerLaw_mount_15 (by decide) ?_
    have hP9 := hP.sub (ws' := [(xq, .inl (cJ, 1, .inr (.inl (vp_updL F 0 (((-32769) : Int32).toInt64)))))]) [0] rfl
    have hD9 := hD.sub (ws' := [(xq, .inl (cJ, 1, .inr (.inl (vp_updL F 0 (((-32769) : Int32).toInt64)))))]) [0] (by decide) rfl
    refine W.widen (k := 1) (n := 6) (by decide) (by decide) ?_
    exact W.iret (v := 0) hx hb hr (fun t ht hW => ⟨⟨0, (vp_updL F 0 (((-32769) : Int32).toInt64)), rfl, Or.inl ⟨rfl, rfl, hv⟩, by rw [ht]; exact hP9, hD9⟩, hS.F ht⟩) hS.2.2 d_DiscMakerLaw_mount_16
  · skip
    have hPc := hP.sub (ws' := [(h0, .inr (0, [.ref tx, .ref tr, .ref im, .ref mk, .ref rd])), (rd, .inr (7, [.ref im, .ref rp, .ref rr, .int 0, .int 0, .int 0]))]) [0, 1] rfl
    have hDc := hD.sub (ws' := [(h0, .inr (0, [.ref tx, .ref tr, .ref im, .ref mk, .ref rd])), (rd, .inr (7, [.ref im, .ref rp, .ref rr, .int 0, .int 0, .int 0]))]) [0, 1] (by decide) rfl
    have hFc := va_free (wc := [(h0, .inr (0, [.ref tx, .ref tr, .ref im, .ref mk, .ref rd])), (rd, .inr (7, [.ref im, .ref rp, .ref rr, .int 0, .int 0, .int 0]))]) hD hS hA [0, 1] rfl
    have hkc : 1 ≤ 1 := by decide
    have hks : 6 ≤ 6 := by decide
    refine W.eq (g2 := F0 m 4 ls ([.int n].reverse ++ .ref h0 :: [.int 0, .ref xq])) rfl ?_
    refine zz_callT (As := [.int n]) (rest := [.int 0, .ref xq]) (Cr := "DiscMaker") ⟨hx, hb, hml, hown, hts⟩ (c_t_mount l htl D cB cI cJ cZ cN cF s.heap.size h0 tx tr im mk rd rp rr n hv) (cwV 1 hts (lg_goodV k1150 k1151 k1152 k115 kc_DiscMaker_mount) rfl rfl rfl (by decide +kernel) ⟨Nat.le_of_ble_eq_true rfl, Nat.le_of_ble_eq_true rfl⟩) ⟨fun a U g mk q => by obtain ⟨q0, q1, qP, qK, qN, qD, qZ⟩ := q; exact ⟨q0, q1, qP, va_K.moved (u := U) (U := U.calling g mk a) (Vm.Alike.refl U.vm) qK, qN.calling, qD, TX_blind qZ⟩, va_recv hK hP (ci := 0) (q0 := 0) rfl rfl, fun U hU hW => ⟨rfl, by rw [hU], by rw [hU]; exact hPc, va_K.moved hW.alike hK, NN.warm hW hN, hDc.weaken (fun _ _ _ _ => trivial), TX_pass (hZ) hS hFc hW.alike hU⟩⟩ hone ⟨by decide, by decide⟩ (by decide) (ht9 _ k1149) rfl hl.1 (Nat.le_of_ble_eq_true rfl) d_DiscMakerLaw_mount_4 ⟨hkc, hks⟩ hS (fun q _ h => hFc q h) hFc (fun x4 H1 locs hz1 hk1 hS => ?_)
    obtain ⟨hP, hD⟩ := va_join (wr := [(im, .inr (1, [.ref iq, .int 0])), (xq, .inl (cJ, 1, .inr (.inl F)))]) (w1 := []) hP hD [0, 1] [2, 3] rfl rfl (by decide) (by decide) hk1 hFc (fun k q h => by simp at h) ⟨fun i j p q h => by simp at h, fun k q h => by simp at h⟩
    clear hPc hDc hFc hk1 hz1
    generalize H1 = H at hP hS ⊢
    have hP : va_P D CL [(im, .inr (1, [.ref iq, .int 0])), (xq, .inl (cJ, 1, .inr (.inl F)))] H := hP
    have hD : va_D A [(im, .inr (1, [.ref iq, .int 0])), (xq, .inl (cJ, 1, .inr (.inl F)))] := hD
    refine W.widen (k := 1) (n := 6) (by decide) (by decide) ?_
    refine lv_astore_n hx hb d_DiscMakerLaw_mount_12 rfl hl (by decide) rfl (fun ls hl => ?_)
    have hl : lv_has ls 4 [(3, .ref x4), (0, .ref h0), (1, .int n), (2, .ref xq)] := hl
    refine lv_iconst (v := 1) hx hb d_DiscMakerLaw_mount_13 (by decide) ?_
    have hP9 := hP.sub (ws' := [(xq, .inl (cJ, 1, .inr (.inl F)))]) [1] rfl
    have hD9 := hD.sub (ws' := [(xq, .inl (cJ, 1, .inr (.inl F)))]) [1] (by decide) rfl
    exact W.iret (v := 1) hx hb hr (fun t ht hW => ⟨⟨1, F, rfl, Or.inr ⟨rfl, hv⟩, by rw [ht]; exact hP9, hD9⟩, hS.F ht⟩) hS.2.2 d_DiscMakerLaw_mount_14
