theorem zw_one {p : Program} {l : Launch} {x : MethodName} {S : Spec} {code : ByteArray} {maxLocals : Nat} {ret : Option FieldType} {e : Env} {s : State} {m : MethodId} {args : Array Value} {below : List Frame} {meth : Method} {c : Code} {s₁ : State} {hh : List (Nat × Nat × Nat × Nat)} (B : BodyLoose p l x S code maxLocals ret e s m args below meth c s₁) (h : (Cond.codeWith x code maxLocals ret hh).before args s = true) : c.exceptionTable.toList.map (fun h => (h.startPc, h.endPc, h.handlerPc, h.catchType)) = hh := by
  obtain ⟨m', meth', c', hn', hm', hc', -, -, he', -⟩ := Cond.codeWith_spec h
  cases B.named.symm.trans hn'
  cases B.method.symm.trans hm'
  cases (Stand.of_body B).code.symm.trans hc'
  exact he'
abbrev b_DiscMakerLaw_mount : ByteArray := method_3_code
abbrev y_DiscMakerLaw_mount : MethodName := ⟨"DiscMakerLaw", "mount", "(LDiscMaker;I[J)I"⟩
abbrev w_DiscMakerLaw_mount : List Cond := .codeWith y_DiscMakerLaw_mount b_DiscMakerLaw_mount 4 (some .int) [((0 : Nat), (9 : Nat), (12 : Nat), (13 : Nat))] :: lw_g
theorem kc_DiscMakerLaw_mount : Cond.codeWith y_DiscMakerLaw_mount b_DiscMakerLaw_mount 4 (some .int) [((0 : Nat), (9 : Nat), (12 : Nat), (13 : Nat))] ∈ lw_g := lg_mem 1148 (by decide +kernel) rfl
abbrev b_DiscMakerLaw_node : ByteArray := method_4_code
abbrev y_DiscMakerLaw_node : MethodName := ⟨"DiscMakerLaw", "node", "(LDiscMaker;II[J)I"⟩
abbrev w_DiscMakerLaw_node : List Cond := .codeWith y_DiscMakerLaw_node b_DiscMakerLaw_node 5 (some .int) [((0 : Nat), (10 : Nat), (13 : Nat), (19 : Nat))] :: lw_g
theorem kc_DiscMakerLaw_node : Cond.codeWith y_DiscMakerLaw_node b_DiscMakerLaw_node 5 (some .int) [((0 : Nat), (10 : Nat), (13 : Nat), (19 : Nat))] ∈ lw_g := lg_mem 1373 (by decide +kernel) rfl
abbrev b_DiscMakerLaw_name : ByteArray := method_5_code
abbrev y_DiscMakerLaw_name : MethodName := ⟨"DiscMakerLaw", "name", "(LDiscMaker;II[J)I"⟩
abbrev w_DiscMakerLaw_name : List Cond := .codeWith y_DiscMakerLaw_name b_DiscMakerLaw_name 5 (some .int) [((0 : Nat), (10 : Nat), (13 : Nat), (19 : Nat))] :: lw_g
theorem kc_DiscMakerLaw_name : Cond.codeWith y_DiscMakerLaw_name b_DiscMakerLaw_name 5 (some .int) [((0 : Nat), (10 : Nat), (13 : Nat), (19 : Nat))] ∈ lw_g := lg_mem 1404 (by decide +kernel) rfl
abbrev b_DiscMakerLaw_target : ByteArray := method_6_code
abbrev y_DiscMakerLaw_target : MethodName := ⟨"DiscMakerLaw", "target", "(LDiscMaker;II[J)I"⟩
abbrev w_DiscMakerLaw_target : List Cond := .codeWith y_DiscMakerLaw_target b_DiscMakerLaw_target 5 (some .int) [((0 : Nat), (10 : Nat), (13 : Nat), (19 : Nat))] :: lw_g
theorem kc_DiscMakerLaw_target : Cond.codeWith y_DiscMakerLaw_target b_DiscMakerLaw_target 5 (some .int) [((0 : Nat), (10 : Nat), (13 : Nat), (19 : Nat))] ∈ lw_g := lg_mem 1411 (by decide +kernel) rfl
abbrev b_DiscMakerLaw_read : ByteArray := method_7_code
abbrev y_DiscMakerLaw_read : MethodName := ⟨"DiscMakerLaw", "read", "(LDiscMaker;II[J)I"⟩
abbrev w_DiscMakerLaw_read : List Cond := .codeWith y_DiscMakerLaw_read b_DiscMakerLaw_read 5 (some .int) [((0 : Nat), (10 : Nat), (13 : Nat), (19 : Nat))] :: lw_g
theorem kc_DiscMakerLaw_read : Cond.codeWith y_DiscMakerLaw_read b_DiscMakerLaw_read 5 (some .int) [((0 : Nat), (10 : Nat), (13 : Nat), (19 : Nat))] ∈ lw_g := lg_mem 1418 (by decide +kernel) rfl
theorem d_DiscMakerLaw_node_0 : decode b_DiscMakerLaw_node 0 = .ok (.aload_n 3, 1) := by decide +kernel
theorem d_DiscMakerLaw_node_1 : decode b_DiscMakerLaw_node 1 = .ok (.iconst 0, 1) := by decide +kernel
theorem d_DiscMakerLaw_node_2 : decode b_DiscMakerLaw_node 2 = .ok (.aload_n 0, 1) := by decide +kernel
theorem d_DiscMakerLaw_node_3 : decode b_DiscMakerLaw_node 3 = .ok (.iload_n 1, 1) := by decide +kernel
theorem d_DiscMakerLaw_node_4 : decode b_DiscMakerLaw_node 4 = .ok (.iload_n 2, 1) := by decide +kernel
theorem d_DiscMakerLaw_node_5 : decode b_DiscMakerLaw_node 5 = .ok (.invokevirtual 15, 3) := by decide +kernel
theorem d_DiscMakerLaw_node_8 : decode b_DiscMakerLaw_node 8 = .ok (.i2l, 1) := by decide +kernel
theorem d_DiscMakerLaw_node_9 : decode b_DiscMakerLaw_node 9 = .ok (.lastore, 1) := by decide +kernel
theorem d_DiscMakerLaw_node_10 : decode b_DiscMakerLaw_node 10 = .ok (.goto 7, 3) := by decide +kernel
theorem d_DiscMakerLaw_node_13 : decode b_DiscMakerLaw_node 13 = .ok (.astore 4, 2) := by decide +kernel
theorem d_DiscMakerLaw_node_15 : decode b_DiscMakerLaw_node 15 = .ok (.iconst 1, 1) := by decide +kernel
theorem d_DiscMakerLaw_node_16 : decode b_DiscMakerLaw_node 16 = .ok (.ireturn, 1) := by decide +kernel
theorem d_DiscMakerLaw_node_17 : decode b_DiscMakerLaw_node 17 = .ok (.iconst 0, 1) := by decide +kernel
theorem d_DiscMakerLaw_node_18 : decode b_DiscMakerLaw_node 18 = .ok (.ireturn, 1) := by decide +kernel
set_option maxHeartbeats 4000000 in
set_option maxRecDepth 100000 in
theorem c3_l_node (l : Launch) (htl : l.stackTraces = false) (D : va_G) (cB cI cJ cZ cN cF : ClassId) (sz : Nat) (d0 : Nat) (tx : Nat) (tr : Nat) (im : Nat) (m0 : Nat) (rd : Nat) (pr : Nat) (ra : Nat) (rc : Int32) (vw : Int32) (wr : Int32) (fa : Nat → Nat → Nat) (ga : Nat → Nat → Int32) (cf : Nat → Nat → Nat → Int32) (md : Nat) (xq : Nat) (F : Nat → Int64) (x : Int32) (y : Int32) (hrc : 0 ≤ rc.toInt ∧ rc.toInt ≤ md) (hmd : md ≤ 99) (hron : ROn rc.toInt ga) : Met l y_DiscMakerLaw_node w_DiscMakerLaw_node ({ frames := 7, cells := 1, slots := 6, locals := 129 }) (va_Pc [.ref d0, .int x, .int y, .ref xq] (fun U => U.heap.size = sz ∧ va_P D CL [(xq, .inl (cJ, 1, .inr (.inl F)))] U.heap ∧ va_K D CL (TY cB cI cJ cZ cN cF) U ∧ NN U ∧ va_D (fun _ => True) [(xq, .inl (cJ, 1, .inr (.inl F)))] ∧ TX (va_A [(xq, .inl (cJ, 1, .inr (.inl F)))] sz) U U.heap ∧ RO D (([(d0, .inr (0, [.ref tx, .ref tr, .ref im, .ref m0, .ref rd])), (rd, .inr (7, [.ref im, .ref pr, .ref ra, .int rc, .int vw, .int wr])), (ra, .inl (cF, 99, .inr (.inr (.inr (.inr (rowF fa md))))))] : va_W) ++ (PL (FC cB fa ga cf) md)) (va_A [(xq, .inl (cJ, 1, .inr (.inl F)))] sz) U U.heap)) (va_Qi (fun (r : Int32) (u : (Nat → Int64)) => True) (fun (u : (Nat → Int64)) (t : State) => match u with | G => va_P D CL [(xq, .inl (cJ, 1, .inr (.inl G)))] t.heap ∧ va_D (va_A [(xq, .inl (cJ, 1, .inr (.inl F)))] sz) [(xq, .inl (cJ, 1, .inr (.inl G)))]) (va_A [(xq, .inl (cJ, 1, .inr (.inl F)))] sz)) 1 6 (va_A [(xq, .inl (cJ, 1, .inr (.inl F)))] sz) := by
  refine va_MetW (cc := b_DiscMakerLaw_node) (maxL := 5) (ret := some .int) (hh := [((0 : Nat), (10 : Nat), (13 : Nat), (19 : Nat))]) (by decide +kernel) rfl ?_
  intro p e s m args below meth c s₁ B hml hv
  obtain ⟨rfl, hsz, hP, hK, hN, hD0, hZx, hZr⟩ := hv
  have hx := B.exec
  have hb := B.bytes
  have hr := B.returns
  have hts := atoms_spec (ws := w_DiscMakerLaw_node) B.pre
  have ht9 := fun (w : Cond) (h : w ∈ lw_g) => hts w (List.mem_cons_of_mem _ h)
  have hown : s.vm.findClass "DiscMakerLaw" = some m.cls := findClass_of_methodNamed B.named
  have hlocks := B.notSynchronized
  subst hsz
  have hD := hD0.self (sz := s.heap.size)
  generalize hAe : va_A [(xq, .inl (cJ, 1, .inr (.inl F)))] s.heap.size = A at hD hZx hZr ⊢
  have hA : ∀ q : Nat, s.heap.size ≤ q → A q := fun q h => by rw [← hAe]; exact Or.inr h
  have hS : va_S A s.heap s.heap [] := va_S.rf
  have hP : va_P D CL [(xq, .inl (cJ, 1, .inr (.inl F)))] s.heap := hP
  have hone := zw_one B (hts _ List.mem_cons_self)
  have hl := lv_entry [.ref d0, .int x, .int y, .ref xq] (n := 5) (Nat.le_of_ble_eq_true rfl)
  rw [lg_entry_eq]
  generalize (lg_sl [.ref d0, .int x, .int y, .ref xq] ++ List.replicate (5 - (lg_sl [.ref d0, .int x, .int y, .ref xq]).length) Slot.unset).toArray = ls at hl ⊢
  have hl : lv_has ls 5 [(0, .ref d0), (1, .int x), (2, .int y), (3, .ref xq)] := hl
  have L_m1 : ((-1) : Int32).toInt = (-1) := by decide
  have L_0 : (0 : Int32).toInt = 0 := by decide
  have L_1 : (1 : Int32).toInt = 1 := by decide
  refine lv_aload_n hx hb d_DiscMakerLaw_node_0 rfl (lv_at hl 3 rfl) ?_
  refine lv_iconst (v := 0) hx hb d_DiscMakerLaw_node_1 (by decide) ?_
  refine lv_aload_n hx hb d_DiscMakerLaw_node_2 rfl (lv_at hl 0 rfl) ?_
  refine lv_iload_n hx hb d_DiscMakerLaw_node_3 rfl (lv_at hl 1 rfl) ?_
  refine lv_iload_n hx hb d_DiscMakerLaw_node_4 rfl (lv_at hl 2 rfl) ?_
  by_cases hv9 : ((0 ≤ x.toInt ∧ x.toInt < rc.toInt) ∧ 0 ≤ y.toInt ∧ y.toInt ≤ 8)
  · skip
    have hPc := hP.sub (ws' := []) [] rfl
    have hDc := hD.sub (ws' := []) [] (by decide +kernel) rfl
    have hFc := va_free (wc := []) hD hS hA [] rfl
    have hPR := RO_at hZr hS
    have hkc : 0 ≤ 1 := by decide
    have hks : 0 ≤ 6 := by decide
    refine va_calli (va_runV (C := "DiscMaker") (As := [.int x, .int y]) (rest := [.int 0, .ref xq]) ⟨hx, hb, hml, hown, hts⟩ (c3_node l D cB cI cJ cZ cN cF s.heap.size d0 tx tr im m0 rd pr ra rc vw wr fa ga cf md x y (by (try dsimp only); first | assumption | omega | trivial) (by (try dsimp only); first | assumption | omega | trivial) (hv9) (hron)) (cwV 2 hts (lg_goodV k1375 k1376 k1377 k115 kc_DiscMaker_node) rfl rfl rfl (by decide +kernel) ⟨Nat.le_of_ble_eq_true rfl, Nat.le_of_ble_eq_true rfl⟩) ⟨fun a U g mk q => by obtain ⟨q0, q1, qP, qK, qN, qD, qZ0⟩ := q; exact ⟨q0, q1, qP, va_K.moved (u := U) (U := U.calling g mk a) (Vm.Alike.refl U.vm) qK, qN.calling, qD, RO_blind qZ0⟩, va_recv hK hPR (ci := 0) (q0 := 0) rfl rfl, fun U hU hW => ⟨rfl, by rw [hU], by rw [hU]; exact hPc, va_K.moved hW.alike hK, NN.warm hW hN, hDc.weaken (fun _ _ _ _ => trivial), (RO_app (w1 := [(d0, .inr (0, [.ref tx, .ref tr, .ref im, .ref m0, .ref rd]))]) (w2 := (([(rd, .inr (7, [.ref im, .ref pr, .ref ra, .int rc, .int vw, .int wr])), (ra, .inl (cF, 99, .inr (.inr (.inr (.inr (rowF fa md))))))] : va_W) ++ (PL (FC cB fa ga cf) md))) (RO_pass (RO_one hZr 0 rfl) hS hFc hU) (RO_app (w1 := [(rd, .inr (7, [.ref im, .ref pr, .ref ra, .int rc, .int vw, .int wr]))]) (w2 := (([(ra, .inl (cF, 99, .inr (.inr (.inr (.inr (rowF fa md))))))] : va_W) ++ (PL (FC cB fa ga cf) md))) (RO_pass (RO_one hZr 1 rfl) hS hFc hU) (RO_app (w1 := [(ra, .inl (cF, 99, .inr (.inr (.inr (.inr (rowF fa md))))))]) (w2 := (PL (FC cB fa ga cf) md)) (RO_pass (RO_one hZr 2 rfl) hS hFc hU) (RO_pass (RO_tail (X := [(d0, .inr (0, [.ref tx, .ref tr, .ref im, .ref m0, .ref rd])), (rd, .inr (7, [.ref im, .ref pr, .ref ra, .int rc, .int vw, .int wr])), (ra, .inl (cF, 99, .inr (.inr (.inr (.inr (rowF fa md))))))]) hZr) hS hFc hU))))⟩⟩ rfl rfl hl.1 rfl (lv_room (Nat.le_of_ble_eq_true rfl)) d_DiscMakerLaw_node_5 ⟨hkc, hks⟩) hS (fun q _ h => hFc q h) hFc (fun r1 u t H1 locs ht hvm hp_r1 hB hz1 hk1 hS => ?_)
    obtain ⟨hP1, hD1⟩ := hB
    rw [ht] at hP1
    obtain ⟨hP, hD⟩ := va_join (wr := [(xq, .inl (cJ, 1, .inr (.inl F)))]) (w1 := []) hP hD [] [0] rfl rfl (by decide +kernel) (by decide +kernel) hk1 hFc hP1 hD1
    clear hPc hDc hFc hP1 hD1 hk1 hz1 hkc hks
    generalize H1 = H at hP hS ⊢
    have hP : va_P D CL [(xq, .inl (cJ, 1, .inr (.inl F)))] H := hP
    have hD : va_D A [(xq, .inl (cJ, 1, .inr (.inl F)))] := hD
    refine lv_i2l hx hb d_DiscMakerLaw_node_8 rfl ?_
    refine lv_topl (fun w2 e_w2 => ?_)
    have t_w2 : w2.toInt = r1.toInt ∧ (-2147483648) ≤ r1.toInt ∧ r1.toInt ≤ 2147483647 := by rw [e_w2]; exact ⟨l_i rfl, i_rng _⟩
    refine zq_last hx hb hK hP hD hS 0 2 rfl rfl (by unfold vp_in; decide) d_DiscMakerLaw_node_9 (fun fz3 e_fz3 H locs hP hD hS => ?_)
    have hP : va_P D CL [(xq, .inl (cJ, 1, .inr (.inl fz3)))] H := hP
    have hD : va_D A [(xq, .inl (cJ, 1, .inr (.inl fz3)))] := hD
    refine lv_goto (tgt := 17) hx hb d_DiscMakerLaw_node_10 (by decide) ?_
    refine lv_iconst (v := 0) hx hb d_DiscMakerLaw_node_17 (by decide) ?_
    have hP9 := hP.sub (ws' := [(xq, .inl (cJ, 1, .inr (.inl fz3)))]) [0] rfl
    have hD9 := hD.sub (ws' := [(xq, .inl (cJ, 1, .inr (.inl fz3)))]) [0] (by decide +kernel) rfl
    refine W.widen (k := 1) (n := 6) (by decide) (by decide) ?_
    exact W.iret (v := 0) hx hb hr (fun t ht hW => ⟨⟨0, fz3, rfl, trivial, by rw [ht]; exact hP9, hD9⟩, hS.F ht⟩) hS.2.2 d_DiscMakerLaw_node_18
  · skip
    have hPc := hP.sub (ws' := []) [] rfl
    have hDc := hD.sub (ws' := []) [] (by decide +kernel) rfl
    have hFc := va_free (wc := []) hD hS hA [] rfl
    have hPR := RO_at hZr hS
    have hkc : 1 ≤ 1 := by decide
    have hks : 6 ≤ 6 := by decide
    refine W.eq (g2 := F0 m 5 ls ([.int x, .int y].reverse ++ .ref d0 :: [.int 0, .ref xq])) rfl ?_
    refine zz_callT (As := [.int x, .int y]) (rest := [.int 0, .ref xq]) (Cr := "DiscMaker") ⟨hx, hb, hml, hown, hts⟩ (c3_t_node l htl D cB cI cJ cZ cN cF s.heap.size d0 tx tr im m0 rd pr ra rc vw wr fa ga cf md x y (by (try dsimp only); first | assumption | omega | trivial) (by (try dsimp only); first | assumption | omega | trivial) (hv9)) (cwV 2 hts (lg_goodV k1375 k1376 k1377 k115 kc_DiscMaker_node) rfl rfl rfl (by decide +kernel) ⟨Nat.le_of_ble_eq_true rfl, Nat.le_of_ble_eq_true rfl⟩) ⟨fun a U g mk q => by obtain ⟨q0, q1, qP, qK, qN, qD, qZ0, qZ1⟩ := q; exact ⟨q0, q1, qP, va_K.moved (u := U) (U := U.calling g mk a) (Vm.Alike.refl U.vm) qK, qN.calling, qD, TX_blind qZ0, RO_blind qZ1⟩, va_recv hK hPR (ci := 0) (q0 := 0) rfl rfl, fun U hU hW => ⟨rfl, by rw [hU], by rw [hU]; exact hPc, va_K.moved hW.alike hK, NN.warm hW hN, hDc.weaken (fun _ _ _ _ => trivial), TX_pass hZx hS hFc hW.alike hU, (RO_app (w1 := [(d0, .inr (0, [.ref tx, .ref tr, .ref im, .ref m0, .ref rd]))]) (w2 := (([(rd, .inr (7, [.ref im, .ref pr, .ref ra, .int rc, .int vw, .int wr])), (ra, .inl (cF, 99, .inr (.inr (.inr (.inr (rowF fa md))))))] : va_W) ++ (PL (FC cB fa ga cf) md))) (RO_pass (RO_one hZr 0 rfl) hS hFc hU) (RO_app (w1 := [(rd, .inr (7, [.ref im, .ref pr, .ref ra, .int rc, .int vw, .int wr]))]) (w2 := (([(ra, .inl (cF, 99, .inr (.inr (.inr (.inr (rowF fa md))))))] : va_W) ++ (PL (FC cB fa ga cf) md))) (RO_pass (RO_one hZr 1 rfl) hS hFc hU) (RO_app (w1 := [(ra, .inl (cF, 99, .inr (.inr (.inr (.inr (rowF fa md))))))]) (w2 := (PL (FC cB fa ga cf) md)) (RO_pass (RO_one hZr 2 rfl) hS hFc hU) (RO_pass (RO_tail (X := [(d0, .inr (0, [.ref tx, .ref tr, .ref im, .ref m0, .ref rd])), (rd, .inr (7, [.ref im, .ref pr, .ref ra, .int rc, .int vw, .int wr])), (ra, .inl (cF, 99, .inr (.inr (.inr (.inr (rowF fa md))))))]) hZr) hS hFc hU))))⟩⟩ hone ⟨by decide, by decide⟩ (by decide) (ht9 _ k1374) rfl hl.1 (Nat.le_of_ble_eq_true rfl) d_DiscMakerLaw_node_5 ⟨hkc, hks⟩ hS (fun q _ h => hFc q h) hFc (fun xx4 H1 locs hz1 hk1 hS => ?_)
    obtain ⟨hP, hD⟩ := va_join (wr := [(xq, .inl (cJ, 1, .inr (.inl F)))]) (w1 := []) hP hD [] [0] rfl rfl (by decide +kernel) (by decide +kernel) hk1 hFc (fun k q h => by simp at h) ⟨fun i j p q h => by simp at h, fun k q h => by simp at h⟩
    clear hPc hDc hFc hk1 hz1 hkc hks
    generalize H1 = H at hP hS ⊢
    have hP : va_P D CL [(xq, .inl (cJ, 1, .inr (.inl F)))] H := hP
    have hD : va_D A [(xq, .inl (cJ, 1, .inr (.inl F)))] := hD
    refine W.widen (k := 1) (n := 6) (by decide) (by decide) ?_
    refine lv_astore hx hb d_DiscMakerLaw_node_13 hl (by decide) rfl (fun ls hl => ?_)
    have hl : lv_has ls 5 [(4, .ref xx4), (0, .ref d0), (1, .int x), (2, .int y), (3, .ref xq)] := hl
    refine lv_iconst (v := 1) hx hb d_DiscMakerLaw_node_15 (by decide) ?_
    have hP9 := hP.sub (ws' := [(xq, .inl (cJ, 1, .inr (.inl F)))]) [0] rfl
    have hD9 := hD.sub (ws' := [(xq, .inl (cJ, 1, .inr (.inl F)))]) [0] (by decide +kernel) rfl
    exact W.iret (v := 1) hx hb hr (fun t ht hW => ⟨⟨1, F, rfl, trivial, by rw [ht]; exact hP9, hD9⟩, hS.F ht⟩) hS.2.2 d_DiscMakerLaw_node_16

theorem d_DiscMakerLaw_name_0 : decode b_DiscMakerLaw_name 0 = .ok (.aload_n 3, 1) := by decide +kernel
theorem d_DiscMakerLaw_name_1 : decode b_DiscMakerLaw_name 1 = .ok (.iconst 0, 1) := by decide +kernel
theorem d_DiscMakerLaw_name_2 : decode b_DiscMakerLaw_name 2 = .ok (.aload_n 0, 1) := by decide +kernel
theorem d_DiscMakerLaw_name_3 : decode b_DiscMakerLaw_name 3 = .ok (.iload_n 1, 1) := by decide +kernel
theorem d_DiscMakerLaw_name_4 : decode b_DiscMakerLaw_name 4 = .ok (.iload_n 2, 1) := by decide +kernel
theorem d_DiscMakerLaw_name_5 : decode b_DiscMakerLaw_name 5 = .ok (.invokevirtual 21, 3) := by decide +kernel
theorem d_DiscMakerLaw_name_8 : decode b_DiscMakerLaw_name 8 = .ok (.i2l, 1) := by decide +kernel
theorem d_DiscMakerLaw_name_9 : decode b_DiscMakerLaw_name 9 = .ok (.lastore, 1) := by decide +kernel
theorem d_DiscMakerLaw_name_10 : decode b_DiscMakerLaw_name 10 = .ok (.goto 7, 3) := by decide +kernel
theorem d_DiscMakerLaw_name_13 : decode b_DiscMakerLaw_name 13 = .ok (.astore 4, 2) := by decide +kernel
theorem d_DiscMakerLaw_name_15 : decode b_DiscMakerLaw_name 15 = .ok (.iconst 1, 1) := by decide +kernel
theorem d_DiscMakerLaw_name_16 : decode b_DiscMakerLaw_name 16 = .ok (.ireturn, 1) := by decide +kernel
theorem d_DiscMakerLaw_name_17 : decode b_DiscMakerLaw_name 17 = .ok (.iconst 0, 1) := by decide +kernel
theorem d_DiscMakerLaw_name_18 : decode b_DiscMakerLaw_name 18 = .ok (.ireturn, 1) := by decide +kernel
set_option maxHeartbeats 4000000 in
set_option maxRecDepth 100000 in
theorem c3_l_name (l : Launch) (htl : l.stackTraces = false) (D : va_G) (cB cI cJ cZ cN cF : ClassId) (sz : Nat) (d0 : Nat) (tx : Nat) (tr : Nat) (im : Nat) (m0 : Nat) (rd : Nat) (pr : Nat) (ra : Nat) (rc : Int32) (vw : Int32) (wr : Int32) (fa : Nat → Nat → Nat) (ga : Nat → Nat → Int32) (cf : Nat → Nat → Nat → Int32) (md : Nat) (xq : Nat) (F : Nat → Int64) (x : Int32) (y : Int32) (hrc : 0 ≤ rc.toInt ∧ rc.toInt ≤ md) (hmd : md ≤ 99) (hron : ROn rc.toInt ga) : Met l y_DiscMakerLaw_name w_DiscMakerLaw_name ({ frames := 7, cells := 1, slots := 6, locals := 129 }) (va_Pc [.ref d0, .int x, .int y, .ref xq] (fun U => U.heap.size = sz ∧ va_P D CL [(xq, .inl (cJ, 1, .inr (.inl F)))] U.heap ∧ va_K D CL (TY cB cI cJ cZ cN cF) U ∧ NN U ∧ va_D (fun _ => True) [(xq, .inl (cJ, 1, .inr (.inl F)))] ∧ TX (va_A [(xq, .inl (cJ, 1, .inr (.inl F)))] sz) U U.heap ∧ RO D (([(d0, .inr (0, [.ref tx, .ref tr, .ref im, .ref m0, .ref rd])), (rd, .inr (7, [.ref im, .ref pr, .ref ra, .int rc, .int vw, .int wr])), (ra, .inl (cF, 99, .inr (.inr (.inr (.inr (rowF fa md))))))] : va_W) ++ (PL (FC cB fa ga cf) md)) (va_A [(xq, .inl (cJ, 1, .inr (.inl F)))] sz) U U.heap)) (va_Qi (fun (r : Int32) (u : (Nat → Int64)) => True) (fun (u : (Nat → Int64)) (t : State) => match u with | G => va_P D CL [(xq, .inl (cJ, 1, .inr (.inl G)))] t.heap ∧ va_D (va_A [(xq, .inl (cJ, 1, .inr (.inl F)))] sz) [(xq, .inl (cJ, 1, .inr (.inl G)))]) (va_A [(xq, .inl (cJ, 1, .inr (.inl F)))] sz)) 1 6 (va_A [(xq, .inl (cJ, 1, .inr (.inl F)))] sz) := by
  refine va_MetW (cc := b_DiscMakerLaw_name) (maxL := 5) (ret := some .int) (hh := [((0 : Nat), (10 : Nat), (13 : Nat), (19 : Nat))]) (by decide +kernel) rfl ?_
  intro p e s m args below meth c s₁ B hml hv
  obtain ⟨rfl, hsz, hP, hK, hN, hD0, hZx, hZr⟩ := hv
  have hx := B.exec
  have hb := B.bytes
  have hr := B.returns
  have hts := atoms_spec (ws := w_DiscMakerLaw_name) B.pre
  have ht9 := fun (w : Cond) (h : w ∈ lw_g) => hts w (List.mem_cons_of_mem _ h)
  have hown : s.vm.findClass "DiscMakerLaw" = some m.cls := findClass_of_methodNamed B.named
  have hlocks := B.notSynchronized
  subst hsz
  have hD := hD0.self (sz := s.heap.size)
  generalize hAe : va_A [(xq, .inl (cJ, 1, .inr (.inl F)))] s.heap.size = A at hD hZx hZr ⊢
  have hA : ∀ q : Nat, s.heap.size ≤ q → A q := fun q h => by rw [← hAe]; exact Or.inr h
  have hS : va_S A s.heap s.heap [] := va_S.rf
  have hP : va_P D CL [(xq, .inl (cJ, 1, .inr (.inl F)))] s.heap := hP
  have hone := zw_one B (hts _ List.mem_cons_self)
  have hl := lv_entry [.ref d0, .int x, .int y, .ref xq] (n := 5) (Nat.le_of_ble_eq_true rfl)
  rw [lg_entry_eq]
  generalize (lg_sl [.ref d0, .int x, .int y, .ref xq] ++ List.replicate (5 - (lg_sl [.ref d0, .int x, .int y, .ref xq]).length) Slot.unset).toArray = ls at hl ⊢
  have hl : lv_has ls 5 [(0, .ref d0), (1, .int x), (2, .int y), (3, .ref xq)] := hl
  have L_m1 : ((-1) : Int32).toInt = (-1) := by decide
  have L_0 : (0 : Int32).toInt = 0 := by decide
  have L_1 : (1 : Int32).toInt = 1 := by decide
  refine lv_aload_n hx hb d_DiscMakerLaw_name_0 rfl (lv_at hl 3 rfl) ?_
  refine lv_iconst (v := 0) hx hb d_DiscMakerLaw_name_1 (by decide) ?_
  refine lv_aload_n hx hb d_DiscMakerLaw_name_2 rfl (lv_at hl 0 rfl) ?_
  refine lv_iload_n hx hb d_DiscMakerLaw_name_3 rfl (lv_at hl 1 rfl) ?_
  refine lv_iload_n hx hb d_DiscMakerLaw_name_4 rfl (lv_at hl 2 rfl) ?_
  by_cases hv9 : ((0 ≤ x.toInt ∧ x.toInt < rc.toInt) ∧ 0 ≤ y.toInt ∧ y.toInt < (ga x.toNatClampNeg 8).toInt)
  · skip
    have hPc := hP.sub (ws' := []) [] rfl
    have hDc := hD.sub (ws' := []) [] (by decide +kernel) rfl
    have hFc := va_free (wc := []) hD hS hA [] rfl
    have hPR := RO_at hZr hS
    have hkc : 0 ≤ 1 := by decide
    have hks : 0 ≤ 6 := by decide
    refine va_calli (va_runV (C := "DiscMaker") (As := [.int x, .int y]) (rest := [.int 0, .ref xq]) ⟨hx, hb, hml, hown, hts⟩ (c3_name l D cB cI cJ cZ cN cF s.heap.size d0 tx tr im m0 rd pr ra rc vw wr fa ga cf md x y (by (try dsimp only); first | assumption | omega | trivial) (by (try dsimp only); first | assumption | omega | trivial) (hv9) (hron)) (cwV 2 hts (lg_goodV k1405 k1406 k1407 k115 kc_DiscMaker_name) rfl rfl rfl (by decide +kernel) ⟨Nat.le_of_ble_eq_true rfl, Nat.le_of_ble_eq_true rfl⟩) ⟨fun a U g mk q => by obtain ⟨q0, q1, qP, qK, qN, qD, qZ0⟩ := q; exact ⟨q0, q1, qP, va_K.moved (u := U) (U := U.calling g mk a) (Vm.Alike.refl U.vm) qK, qN.calling, qD, RO_blind qZ0⟩, va_recv hK hPR (ci := 0) (q0 := 0) rfl rfl, fun U hU hW => ⟨rfl, by rw [hU], by rw [hU]; exact hPc, va_K.moved hW.alike hK, NN.warm hW hN, hDc.weaken (fun _ _ _ _ => trivial), (RO_app (w1 := [(d0, .inr (0, [.ref tx, .ref tr, .ref im, .ref m0, .ref rd]))]) (w2 := (([(rd, .inr (7, [.ref im, .ref pr, .ref ra, .int rc, .int vw, .int wr])), (ra, .inl (cF, 99, .inr (.inr (.inr (.inr (rowF fa md))))))] : va_W) ++ (PL (FC cB fa ga cf) md))) (RO_pass (RO_one hZr 0 rfl) hS hFc hU) (RO_app (w1 := [(rd, .inr (7, [.ref im, .ref pr, .ref ra, .int rc, .int vw, .int wr]))]) (w2 := (([(ra, .inl (cF, 99, .inr (.inr (.inr (.inr (rowF fa md))))))] : va_W) ++ (PL (FC cB fa ga cf) md))) (RO_pass (RO_one hZr 1 rfl) hS hFc hU) (RO_app (w1 := [(ra, .inl (cF, 99, .inr (.inr (.inr (.inr (rowF fa md))))))]) (w2 := (PL (FC cB fa ga cf) md)) (RO_pass (RO_one hZr 2 rfl) hS hFc hU) (RO_pass (RO_tail (X := [(d0, .inr (0, [.ref tx, .ref tr, .ref im, .ref m0, .ref rd])), (rd, .inr (7, [.ref im, .ref pr, .ref ra, .int rc, .int vw, .int wr])), (ra, .inl (cF, 99, .inr (.inr (.inr (.inr (rowF fa md))))))]) hZr) hS hFc hU))))⟩⟩ rfl rfl hl.1 rfl (lv_room (Nat.le_of_ble_eq_true rfl)) d_DiscMakerLaw_name_5 ⟨hkc, hks⟩) hS (fun q _ h => hFc q h) hFc (fun r1 u t H1 locs ht hvm hp_r1 hB hz1 hk1 hS => ?_)
    obtain ⟨hP1, hD1⟩ := hB
    rw [ht] at hP1
    obtain ⟨hP, hD⟩ := va_join (wr := [(xq, .inl (cJ, 1, .inr (.inl F)))]) (w1 := []) hP hD [] [0] rfl rfl (by decide +kernel) (by decide +kernel) hk1 hFc hP1 hD1
    clear hPc hDc hFc hP1 hD1 hk1 hz1 hkc hks
    generalize H1 = H at hP hS ⊢
    have hP : va_P D CL [(xq, .inl (cJ, 1, .inr (.inl F)))] H := hP
    have hD : va_D A [(xq, .inl (cJ, 1, .inr (.inl F)))] := hD
    refine lv_i2l hx hb d_DiscMakerLaw_name_8 rfl ?_
    refine lv_topl (fun w2 e_w2 => ?_)
    have t_w2 : w2.toInt = r1.toInt ∧ (-2147483648) ≤ r1.toInt ∧ r1.toInt ≤ 2147483647 := by rw [e_w2]; exact ⟨l_i rfl, i_rng _⟩
    refine zq_last hx hb hK hP hD hS 0 2 rfl rfl (by unfold vp_in; decide) d_DiscMakerLaw_name_9 (fun fz3 e_fz3 H locs hP hD hS => ?_)
    have hP : va_P D CL [(xq, .inl (cJ, 1, .inr (.inl fz3)))] H := hP
    have hD : va_D A [(xq, .inl (cJ, 1, .inr (.inl fz3)))] := hD
    refine lv_goto (tgt := 17) hx hb d_DiscMakerLaw_name_10 (by decide) ?_
    refine lv_iconst (v := 0) hx hb d_DiscMakerLaw_name_17 (by decide) ?_
    have hP9 := hP.sub (ws' := [(xq, .inl (cJ, 1, .inr (.inl fz3)))]) [0] rfl
    have hD9 := hD.sub (ws' := [(xq, .inl (cJ, 1, .inr (.inl fz3)))]) [0] (by decide +kernel) rfl
    refine W.widen (k := 1) (n := 6) (by decide) (by decide) ?_
    exact W.iret (v := 0) hx hb hr (fun t ht hW => ⟨⟨0, fz3, rfl, trivial, by rw [ht]; exact hP9, hD9⟩, hS.F ht⟩) hS.2.2 d_DiscMakerLaw_name_18
  · skip
    have hPc := hP.sub (ws' := []) [] rfl
    have hDc := hD.sub (ws' := []) [] (by decide +kernel) rfl
    have hFc := va_free (wc := []) hD hS hA [] rfl
    have hPR := RO_at hZr hS
    have hkc : 1 ≤ 1 := by decide
    have hks : 6 ≤ 6 := by decide
    refine W.eq (g2 := F0 m 5 ls ([.int x, .int y].reverse ++ .ref d0 :: [.int 0, .ref xq])) rfl ?_
    refine zz_callT (As := [.int x, .int y]) (rest := [.int 0, .ref xq]) (Cr := "DiscMaker") ⟨hx, hb, hml, hown, hts⟩ (c3_t_name l htl D cB cI cJ cZ cN cF s.heap.size d0 tx tr im m0 rd pr ra rc vw wr fa ga cf md x y (by (try dsimp only); first | assumption | omega | trivial) (by (try dsimp only); first | assumption | omega | trivial) (hv9)) (cwV 2 hts (lg_goodV k1405 k1406 k1407 k115 kc_DiscMaker_name) rfl rfl rfl (by decide +kernel) ⟨Nat.le_of_ble_eq_true rfl, Nat.le_of_ble_eq_true rfl⟩) ⟨fun a U g mk q => by obtain ⟨q0, q1, qP, qK, qN, qD, qZ0, qZ1⟩ := q; exact ⟨q0, q1, qP, va_K.moved (u := U) (U := U.calling g mk a) (Vm.Alike.refl U.vm) qK, qN.calling, qD, TX_blind qZ0, RO_blind qZ1⟩, va_recv hK hPR (ci := 0) (q0 := 0) rfl rfl, fun U hU hW => ⟨rfl, by rw [hU], by rw [hU]; exact hPc, va_K.moved hW.alike hK, NN.warm hW hN, hDc.weaken (fun _ _ _ _ => trivial), TX_pass hZx hS hFc hW.alike hU, (RO_app (w1 := [(d0, .inr (0, [.ref tx, .ref tr, .ref im, .ref m0, .ref rd]))]) (w2 := (([(rd, .inr (7, [.ref im, .ref pr, .ref ra, .int rc, .int vw, .int wr])), (ra, .inl (cF, 99, .inr (.inr (.inr (.inr (rowF fa md))))))] : va_W) ++ (PL (FC cB fa ga cf) md))) (RO_pass (RO_one hZr 0 rfl) hS hFc hU) (RO_app (w1 := [(rd, .inr (7, [.ref im, .ref pr, .ref ra, .int rc, .int vw, .int wr]))]) (w2 := (([(ra, .inl (cF, 99, .inr (.inr (.inr (.inr (rowF fa md))))))] : va_W) ++ (PL (FC cB fa ga cf) md))) (RO_pass (RO_one hZr 1 rfl) hS hFc hU) (RO_app (w1 := [(ra, .inl (cF, 99, .inr (.inr (.inr (.inr (rowF fa md))))))]) (w2 := (PL (FC cB fa ga cf) md)) (RO_pass (RO_one hZr 2 rfl) hS hFc hU) (RO_pass (RO_tail (X := [(d0, .inr (0, [.ref tx, .ref tr, .ref im, .ref m0, .ref rd])), (rd, .inr (7, [.ref im, .ref pr, .ref ra, .int rc, .int vw, .int wr])), (ra, .inl (cF, 99, .inr (.inr (.inr (.inr (rowF fa md))))))]) hZr) hS hFc hU))))⟩⟩ hone ⟨by decide, by decide⟩ (by decide) (ht9 _ k1374) rfl hl.1 (Nat.le_of_ble_eq_true rfl) d_DiscMakerLaw_name_5 ⟨hkc, hks⟩ hS (fun q _ h => hFc q h) hFc (fun xx4 H1 locs hz1 hk1 hS => ?_)
    obtain ⟨hP, hD⟩ := va_join (wr := [(xq, .inl (cJ, 1, .inr (.inl F)))]) (w1 := []) hP hD [] [0] rfl rfl (by decide +kernel) (by decide +kernel) hk1 hFc (fun k q h => by simp at h) ⟨fun i j p q h => by simp at h, fun k q h => by simp at h⟩
    clear hPc hDc hFc hk1 hz1 hkc hks
    generalize H1 = H at hP hS ⊢
    have hP : va_P D CL [(xq, .inl (cJ, 1, .inr (.inl F)))] H := hP
    have hD : va_D A [(xq, .inl (cJ, 1, .inr (.inl F)))] := hD
    refine W.widen (k := 1) (n := 6) (by decide) (by decide) ?_
    refine lv_astore hx hb d_DiscMakerLaw_name_13 hl (by decide) rfl (fun ls hl => ?_)
    have hl : lv_has ls 5 [(4, .ref xx4), (0, .ref d0), (1, .int x), (2, .int y), (3, .ref xq)] := hl
    refine lv_iconst (v := 1) hx hb d_DiscMakerLaw_name_15 (by decide) ?_
    have hP9 := hP.sub (ws' := [(xq, .inl (cJ, 1, .inr (.inl F)))]) [0] rfl
    have hD9 := hD.sub (ws' := [(xq, .inl (cJ, 1, .inr (.inl F)))]) [0] (by decide +kernel) rfl
    exact W.iret (v := 1) hx hb hr (fun t ht hW => ⟨⟨1, F, rfl, trivial, by rw [ht]; exact hP9, hD9⟩, hS.F ht⟩) hS.2.2 d_DiscMakerLaw_name_16

theorem d_DiscMakerLaw_target_0 : decode b_DiscMakerLaw_target 0 = .ok (.aload_n 3, 1) := by decide +kernel
theorem d_DiscMakerLaw_target_1 : decode b_DiscMakerLaw_target 1 = .ok (.iconst 0, 1) := by decide +kernel
theorem d_DiscMakerLaw_target_2 : decode b_DiscMakerLaw_target 2 = .ok (.aload_n 0, 1) := by decide +kernel
theorem d_DiscMakerLaw_target_3 : decode b_DiscMakerLaw_target 3 = .ok (.iload_n 1, 1) := by decide +kernel
theorem d_DiscMakerLaw_target_4 : decode b_DiscMakerLaw_target 4 = .ok (.iload_n 2, 1) := by decide +kernel
theorem d_DiscMakerLaw_target_5 : decode b_DiscMakerLaw_target 5 = .ok (.invokevirtual 24, 3) := by decide +kernel
theorem d_DiscMakerLaw_target_8 : decode b_DiscMakerLaw_target 8 = .ok (.i2l, 1) := by decide +kernel
theorem d_DiscMakerLaw_target_9 : decode b_DiscMakerLaw_target 9 = .ok (.lastore, 1) := by decide +kernel
theorem d_DiscMakerLaw_target_10 : decode b_DiscMakerLaw_target 10 = .ok (.goto 7, 3) := by decide +kernel
theorem d_DiscMakerLaw_target_13 : decode b_DiscMakerLaw_target 13 = .ok (.astore 4, 2) := by decide +kernel
theorem d_DiscMakerLaw_target_15 : decode b_DiscMakerLaw_target 15 = .ok (.iconst 1, 1) := by decide +kernel
theorem d_DiscMakerLaw_target_16 : decode b_DiscMakerLaw_target 16 = .ok (.ireturn, 1) := by decide +kernel
theorem d_DiscMakerLaw_target_17 : decode b_DiscMakerLaw_target 17 = .ok (.iconst 0, 1) := by decide +kernel
theorem d_DiscMakerLaw_target_18 : decode b_DiscMakerLaw_target 18 = .ok (.ireturn, 1) := by decide +kernel
set_option maxHeartbeats 4000000 in
set_option maxRecDepth 100000 in
theorem c3_l_target (l : Launch) (htl : l.stackTraces = false) (D : va_G) (cB cI cJ cZ cN cF : ClassId) (sz : Nat) (d0 : Nat) (tx : Nat) (tr : Nat) (im : Nat) (m0 : Nat) (rd : Nat) (pr : Nat) (ra : Nat) (rc : Int32) (vw : Int32) (wr : Int32) (fa : Nat → Nat → Nat) (ga : Nat → Nat → Int32) (cf : Nat → Nat → Nat → Int32) (md : Nat) (xq : Nat) (F : Nat → Int64) (x : Int32) (y : Int32) (hrc : 0 ≤ rc.toInt ∧ rc.toInt ≤ md) (hmd : md ≤ 99) (hron : ROn rc.toInt ga) : Met l y_DiscMakerLaw_target w_DiscMakerLaw_target ({ frames := 7, cells := 1, slots := 6, locals := 129 }) (va_Pc [.ref d0, .int x, .int y, .ref xq] (fun U => U.heap.size = sz ∧ va_P D CL [(xq, .inl (cJ, 1, .inr (.inl F)))] U.heap ∧ va_K D CL (TY cB cI cJ cZ cN cF) U ∧ NN U ∧ va_D (fun _ => True) [(xq, .inl (cJ, 1, .inr (.inl F)))] ∧ TX (va_A [(xq, .inl (cJ, 1, .inr (.inl F)))] sz) U U.heap ∧ RO D (([(d0, .inr (0, [.ref tx, .ref tr, .ref im, .ref m0, .ref rd])), (rd, .inr (7, [.ref im, .ref pr, .ref ra, .int rc, .int vw, .int wr])), (ra, .inl (cF, 99, .inr (.inr (.inr (.inr (rowF fa md))))))] : va_W) ++ (PL (FC cB fa ga cf) md)) (va_A [(xq, .inl (cJ, 1, .inr (.inl F)))] sz) U U.heap)) (va_Qi (fun (r : Int32) (u : (Nat → Int64)) => True) (fun (u : (Nat → Int64)) (t : State) => match u with | G => va_P D CL [(xq, .inl (cJ, 1, .inr (.inl G)))] t.heap ∧ va_D (va_A [(xq, .inl (cJ, 1, .inr (.inl F)))] sz) [(xq, .inl (cJ, 1, .inr (.inl G)))]) (va_A [(xq, .inl (cJ, 1, .inr (.inl F)))] sz)) 1 6 (va_A [(xq, .inl (cJ, 1, .inr (.inl F)))] sz) := by
  refine va_MetW (cc := b_DiscMakerLaw_target) (maxL := 5) (ret := some .int) (hh := [((0 : Nat), (10 : Nat), (13 : Nat), (19 : Nat))]) (by decide +kernel) rfl ?_
  intro p e s m args below meth c s₁ B hml hv
  obtain ⟨rfl, hsz, hP, hK, hN, hD0, hZx, hZr⟩ := hv
  have hx := B.exec
  have hb := B.bytes
  have hr := B.returns
  have hts := atoms_spec (ws := w_DiscMakerLaw_target) B.pre
  have ht9 := fun (w : Cond) (h : w ∈ lw_g) => hts w (List.mem_cons_of_mem _ h)
  have hown : s.vm.findClass "DiscMakerLaw" = some m.cls := findClass_of_methodNamed B.named
  have hlocks := B.notSynchronized
  subst hsz
  have hD := hD0.self (sz := s.heap.size)
  generalize hAe : va_A [(xq, .inl (cJ, 1, .inr (.inl F)))] s.heap.size = A at hD hZx hZr ⊢
  have hA : ∀ q : Nat, s.heap.size ≤ q → A q := fun q h => by rw [← hAe]; exact Or.inr h
  have hS : va_S A s.heap s.heap [] := va_S.rf
  have hP : va_P D CL [(xq, .inl (cJ, 1, .inr (.inl F)))] s.heap := hP
  have hone := zw_one B (hts _ List.mem_cons_self)
  have hl := lv_entry [.ref d0, .int x, .int y, .ref xq] (n := 5) (Nat.le_of_ble_eq_true rfl)
  rw [lg_entry_eq]
  generalize (lg_sl [.ref d0, .int x, .int y, .ref xq] ++ List.replicate (5 - (lg_sl [.ref d0, .int x, .int y, .ref xq]).length) Slot.unset).toArray = ls at hl ⊢
  have hl : lv_has ls 5 [(0, .ref d0), (1, .int x), (2, .int y), (3, .ref xq)] := hl
  have L_m1 : ((-1) : Int32).toInt = (-1) := by decide
  have L_0 : (0 : Int32).toInt = 0 := by decide
  have L_1 : (1 : Int32).toInt = 1 := by decide
  refine lv_aload_n hx hb d_DiscMakerLaw_target_0 rfl (lv_at hl 3 rfl) ?_
  refine lv_iconst (v := 0) hx hb d_DiscMakerLaw_target_1 (by decide) ?_
  refine lv_aload_n hx hb d_DiscMakerLaw_target_2 rfl (lv_at hl 0 rfl) ?_
  refine lv_iload_n hx hb d_DiscMakerLaw_target_3 rfl (lv_at hl 1 rfl) ?_
  refine lv_iload_n hx hb d_DiscMakerLaw_target_4 rfl (lv_at hl 2 rfl) ?_
  by_cases hv9 : ((0 ≤ x.toInt ∧ x.toInt < rc.toInt) ∧ 0 ≤ y.toInt ∧ y.toInt < (ga x.toNatClampNeg 9).toInt)
  · skip
    have hPc := hP.sub (ws' := []) [] rfl
    have hDc := hD.sub (ws' := []) [] (by decide +kernel) rfl
    have hFc := va_free (wc := []) hD hS hA [] rfl
    have hPR := RO_at hZr hS
    have hkc : 0 ≤ 1 := by decide
    have hks : 0 ≤ 6 := by decide
    refine va_calli (va_runV (C := "DiscMaker") (As := [.int x, .int y]) (rest := [.int 0, .ref xq]) ⟨hx, hb, hml, hown, hts⟩ (c3_target l D cB cI cJ cZ cN cF s.heap.size d0 tx tr im m0 rd pr ra rc vw wr fa ga cf md x y (by (try dsimp only); first | assumption | omega | trivial) (by (try dsimp only); first | assumption | omega | trivial) (hv9) (hron)) (cwV 2 hts (lg_goodV k1412 k1413 k1414 k115 kc_DiscMaker_target) rfl rfl rfl (by decide +kernel) ⟨Nat.le_of_ble_eq_true rfl, Nat.le_of_ble_eq_true rfl⟩) ⟨fun a U g mk q => by obtain ⟨q0, q1, qP, qK, qN, qD, qZ0⟩ := q; exact ⟨q0, q1, qP, va_K.moved (u := U) (U := U.calling g mk a) (Vm.Alike.refl U.vm) qK, qN.calling, qD, RO_blind qZ0⟩, va_recv hK hPR (ci := 0) (q0 := 0) rfl rfl, fun U hU hW => ⟨rfl, by rw [hU], by rw [hU]; exact hPc, va_K.moved hW.alike hK, NN.warm hW hN, hDc.weaken (fun _ _ _ _ => trivial), (RO_app (w1 := [(d0, .inr (0, [.ref tx, .ref tr, .ref im, .ref m0, .ref rd]))]) (w2 := (([(rd, .inr (7, [.ref im, .ref pr, .ref ra, .int rc, .int vw, .int wr])), (ra, .inl (cF, 99, .inr (.inr (.inr (.inr (rowF fa md))))))] : va_W) ++ (PL (FC cB fa ga cf) md))) (RO_pass (RO_one hZr 0 rfl) hS hFc hU) (RO_app (w1 := [(rd, .inr (7, [.ref im, .ref pr, .ref ra, .int rc, .int vw, .int wr]))]) (w2 := (([(ra, .inl (cF, 99, .inr (.inr (.inr (.inr (rowF fa md))))))] : va_W) ++ (PL (FC cB fa ga cf) md))) (RO_pass (RO_one hZr 1 rfl) hS hFc hU) (RO_app (w1 := [(ra, .inl (cF, 99, .inr (.inr (.inr (.inr (rowF fa md))))))]) (w2 := (PL (FC cB fa ga cf) md)) (RO_pass (RO_one hZr 2 rfl) hS hFc hU) (RO_pass (RO_tail (X := [(d0, .inr (0, [.ref tx, .ref tr, .ref im, .ref m0, .ref rd])), (rd, .inr (7, [.ref im, .ref pr, .ref ra, .int rc, .int vw, .int wr])), (ra, .inl (cF, 99, .inr (.inr (.inr (.inr (rowF fa md))))))]) hZr) hS hFc hU))))⟩⟩ rfl rfl hl.1 rfl (lv_room (Nat.le_of_ble_eq_true rfl)) d_DiscMakerLaw_target_5 ⟨hkc, hks⟩) hS (fun q _ h => hFc q h) hFc (fun r1 u t H1 locs ht hvm hp_r1 hB hz1 hk1 hS => ?_)
    obtain ⟨hP1, hD1⟩ := hB
    rw [ht] at hP1
    obtain ⟨hP, hD⟩ := va_join (wr := [(xq, .inl (cJ, 1, .inr (.inl F)))]) (w1 := []) hP hD [] [0] rfl rfl (by decide +kernel) (by decide +kernel) hk1 hFc hP1 hD1
    clear hPc hDc hFc hP1 hD1 hk1 hz1 hkc hks
    generalize H1 = H at hP hS ⊢
    have hP : va_P D CL [(xq, .inl (cJ, 1, .inr (.inl F)))] H := hP
    have hD : va_D A [(xq, .inl (cJ, 1, .inr (.inl F)))] := hD
    refine lv_i2l hx hb d_DiscMakerLaw_target_8 rfl ?_
    refine lv_topl (fun w2 e_w2 => ?_)
    have t_w2 : w2.toInt = r1.toInt ∧ (-2147483648) ≤ r1.toInt ∧ r1.toInt ≤ 2147483647 := by rw [e_w2]; exact ⟨l_i rfl, i_rng _⟩
    refine zq_last hx hb hK hP hD hS 0 2 rfl rfl (by unfold vp_in; decide) d_DiscMakerLaw_target_9 (fun fz3 e_fz3 H locs hP hD hS => ?_)
    have hP : va_P D CL [(xq, .inl (cJ, 1, .inr (.inl fz3)))] H := hP
    have hD : va_D A [(xq, .inl (cJ, 1, .inr (.inl fz3)))] := hD
    refine lv_goto (tgt := 17) hx hb d_DiscMakerLaw_target_10 (by decide) ?_
    refine lv_iconst (v := 0) hx hb d_DiscMakerLaw_target_17 (by decide) ?_
    have hP9 := hP.sub (ws' := [(xq, .inl (cJ, 1, .inr (.inl fz3)))]) [0] rfl
    have hD9 := hD.sub (ws' := [(xq, .inl (cJ, 1, .inr (.inl fz3)))]) [0] (by decide +kernel) rfl
    refine W.widen (k := 1) (n := 6) (by decide) (by decide) ?_
    exact W.iret (v := 0) hx hb hr (fun t ht hW => ⟨⟨0, fz3, rfl, trivial, by rw [ht]; exact hP9, hD9⟩, hS.F ht⟩) hS.2.2 d_DiscMakerLaw_target_18
  · skip
    have hPc := hP.sub (ws' := []) [] rfl
    have hDc := hD.sub (ws' := []) [] (by decide +kernel) rfl
    have hFc := va_free (wc := []) hD hS hA [] rfl
    have hPR := RO_at hZr hS
    have hkc : 1 ≤ 1 := by decide
    have hks : 6 ≤ 6 := by decide
    refine W.eq (g2 := F0 m 5 ls ([.int x, .int y].reverse ++ .ref d0 :: [.int 0, .ref xq])) rfl ?_
    refine zz_callT (As := [.int x, .int y]) (rest := [.int 0, .ref xq]) (Cr := "DiscMaker") ⟨hx, hb, hml, hown, hts⟩ (c3_t_target l htl D cB cI cJ cZ cN cF s.heap.size d0 tx tr im m0 rd pr ra rc vw wr fa ga cf md x y (by (try dsimp only); first | assumption | omega | trivial) (by (try dsimp only); first | assumption | omega | trivial) (hv9)) (cwV 2 hts (lg_goodV k1412 k1413 k1414 k115 kc_DiscMaker_target) rfl rfl rfl (by decide +kernel) ⟨Nat.le_of_ble_eq_true rfl, Nat.le_of_ble_eq_true rfl⟩) ⟨fun a U g mk q => by obtain ⟨q0, q1, qP, qK, qN, qD, qZ0, qZ1⟩ := q; exact ⟨q0, q1, qP, va_K.moved (u := U) (U := U.calling g mk a) (Vm.Alike.refl U.vm) qK, qN.calling, qD, TX_blind qZ0, RO_blind qZ1⟩, va_recv hK hPR (ci := 0) (q0 := 0) rfl rfl, fun U hU hW => ⟨rfl, by rw [hU], by rw [hU]; exact hPc, va_K.moved hW.alike hK, NN.warm hW hN, hDc.weaken (fun _ _ _ _ => trivial), TX_pass hZx hS hFc hW.alike hU, (RO_app (w1 := [(d0, .inr (0, [.ref tx, .ref tr, .ref im, .ref m0, .ref rd]))]) (w2 := (([(rd, .inr (7, [.ref im, .ref pr, .ref ra, .int rc, .int vw, .int wr])), (ra, .inl (cF, 99, .inr (.inr (.inr (.inr (rowF fa md))))))] : va_W) ++ (PL (FC cB fa ga cf) md))) (RO_pass (RO_one hZr 0 rfl) hS hFc hU) (RO_app (w1 := [(rd, .inr (7, [.ref im, .ref pr, .ref ra, .int rc, .int vw, .int wr]))]) (w2 := (([(ra, .inl (cF, 99, .inr (.inr (.inr (.inr (rowF fa md))))))] : va_W) ++ (PL (FC cB fa ga cf) md))) (RO_pass (RO_one hZr 1 rfl) hS hFc hU) (RO_app (w1 := [(ra, .inl (cF, 99, .inr (.inr (.inr (.inr (rowF fa md))))))]) (w2 := (PL (FC cB fa ga cf) md)) (RO_pass (RO_one hZr 2 rfl) hS hFc hU) (RO_pass (RO_tail (X := [(d0, .inr (0, [.ref tx, .ref tr, .ref im, .ref m0, .ref rd])), (rd, .inr (7, [.ref im, .ref pr, .ref ra, .int rc, .int vw, .int wr])), (ra, .inl (cF, 99, .inr (.inr (.inr (.inr (rowF fa md))))))]) hZr) hS hFc hU))))⟩⟩ hone ⟨by decide, by decide⟩ (by decide) (ht9 _ k1374) rfl hl.1 (Nat.le_of_ble_eq_true rfl) d_DiscMakerLaw_target_5 ⟨hkc, hks⟩ hS (fun q _ h => hFc q h) hFc (fun xx4 H1 locs hz1 hk1 hS => ?_)
    obtain ⟨hP, hD⟩ := va_join (wr := [(xq, .inl (cJ, 1, .inr (.inl F)))]) (w1 := []) hP hD [] [0] rfl rfl (by decide +kernel) (by decide +kernel) hk1 hFc (fun k q h => by simp at h) ⟨fun i j p q h => by simp at h, fun k q h => by simp at h⟩
    clear hPc hDc hFc hk1 hz1 hkc hks
    generalize H1 = H at hP hS ⊢
    have hP : va_P D CL [(xq, .inl (cJ, 1, .inr (.inl F)))] H := hP
    have hD : va_D A [(xq, .inl (cJ, 1, .inr (.inl F)))] := hD
    refine W.widen (k := 1) (n := 6) (by decide) (by decide) ?_
    refine lv_astore hx hb d_DiscMakerLaw_target_13 hl (by decide) rfl (fun ls hl => ?_)
    have hl : lv_has ls 5 [(4, .ref xx4), (0, .ref d0), (1, .int x), (2, .int y), (3, .ref xq)] := hl
    refine lv_iconst (v := 1) hx hb d_DiscMakerLaw_target_15 (by decide) ?_
    have hP9 := hP.sub (ws' := [(xq, .inl (cJ, 1, .inr (.inl F)))]) [0] rfl
    have hD9 := hD.sub (ws' := [(xq, .inl (cJ, 1, .inr (.inl F)))]) [0] (by decide +kernel) rfl
    exact W.iret (v := 1) hx hb hr (fun t ht hW => ⟨⟨1, F, rfl, trivial, by rw [ht]; exact hP9, hD9⟩, hS.F ht⟩) hS.2.2 d_DiscMakerLaw_target_16

theorem d_DiscMakerLaw_read_0 : decode b_DiscMakerLaw_read 0 = .ok (.aload_n 3, 1) := by decide +kernel
theorem d_DiscMakerLaw_read_1 : decode b_DiscMakerLaw_read 1 = .ok (.iconst 0, 1) := by decide +kernel
theorem d_DiscMakerLaw_read_2 : decode b_DiscMakerLaw_read 2 = .ok (.aload_n 0, 1) := by decide +kernel
theorem d_DiscMakerLaw_read_3 : decode b_DiscMakerLaw_read 3 = .ok (.iload_n 1, 1) := by decide +kernel
theorem d_DiscMakerLaw_read_4 : decode b_DiscMakerLaw_read 4 = .ok (.iload_n 2, 1) := by decide +kernel
theorem d_DiscMakerLaw_read_5 : decode b_DiscMakerLaw_read 5 = .ok (.invokevirtual 27, 3) := by decide +kernel
theorem d_DiscMakerLaw_read_8 : decode b_DiscMakerLaw_read 8 = .ok (.i2l, 1) := by decide +kernel
theorem d_DiscMakerLaw_read_9 : decode b_DiscMakerLaw_read 9 = .ok (.lastore, 1) := by decide +kernel
theorem d_DiscMakerLaw_read_10 : decode b_DiscMakerLaw_read 10 = .ok (.goto 7, 3) := by decide +kernel
theorem d_DiscMakerLaw_read_13 : decode b_DiscMakerLaw_read 13 = .ok (.astore 4, 2) := by decide +kernel
theorem d_DiscMakerLaw_read_15 : decode b_DiscMakerLaw_read 15 = .ok (.iconst 1, 1) := by decide +kernel
theorem d_DiscMakerLaw_read_16 : decode b_DiscMakerLaw_read 16 = .ok (.ireturn, 1) := by decide +kernel
theorem d_DiscMakerLaw_read_17 : decode b_DiscMakerLaw_read 17 = .ok (.iconst 0, 1) := by decide +kernel
theorem d_DiscMakerLaw_read_18 : decode b_DiscMakerLaw_read 18 = .ok (.ireturn, 1) := by decide +kernel
set_option maxHeartbeats 4000000 in
set_option maxRecDepth 100000 in
theorem c3_l_read (l : Launch) (htl : l.stackTraces = false) (D : va_G) (cB cI cJ cZ cN cF : ClassId) (sz : Nat) (d0 : Nat) (tx : Nat) (tr : Nat) (im : Nat) (m0 : Nat) (rd : Nat) (pr : Nat) (ra : Nat) (rc : Int32) (vw : Int32) (wr : Int32) (fa : Nat → Nat → Nat) (ga : Nat → Nat → Int32) (cf : Nat → Nat → Nat → Int32) (md : Nat) (xq : Nat) (F : Nat → Int64) (x : Int32) (y : Int32) (iq : Nat) (n : Nat) (L : Int32) (f : Nat → Int32) (hrc : 0 ≤ rc.toInt ∧ rc.toInt ≤ md) (hmd : md ≤ 99) (hron : ROn rc.toInt ga) (hL : 0 ≤ L.toInt ∧ L.toInt ≤ n) (hn : n ≤ 3000000) : Met l y_DiscMakerLaw_read w_DiscMakerLaw_read ({ frames := 7, cells := 1, slots := 6, locals := 129 }) (va_Pc [.ref d0, .int x, .int y, .ref xq] (fun U => U.heap.size = sz ∧ va_P D CL [(im, .inr (1, [.ref iq, .int L])), (iq, .inl (cB, n, .inl f)), (xq, .inl (cJ, 1, .inr (.inl F)))] U.heap ∧ va_K D CL (TY cB cI cJ cZ cN cF) U ∧ NN U ∧ va_D (fun _ => True) [(im, .inr (1, [.ref iq, .int L])), (iq, .inl (cB, n, .inl f)), (xq, .inl (cJ, 1, .inr (.inl F)))] ∧ TX (va_A [(im, .inr (1, [.ref iq, .int L])), (iq, .inl (cB, n, .inl f)), (xq, .inl (cJ, 1, .inr (.inl F)))] sz) U U.heap ∧ RO D (([(d0, .inr (0, [.ref tx, .ref tr, .ref im, .ref m0, .ref rd])), (rd, .inr (7, [.ref im, .ref pr, .ref ra, .int rc, .int vw, .int wr])), (ra, .inl (cF, 99, .inr (.inr (.inr (.inr (rowF fa md))))))] : va_W) ++ (PL (FC cB fa ga cf) md)) (va_A [(im, .inr (1, [.ref iq, .int L])), (iq, .inl (cB, n, .inl f)), (xq, .inl (cJ, 1, .inr (.inl F)))] sz) U U.heap)) (va_Qi (fun (r : Int32) (u : (Nat → Int64)) => True) (fun (u : (Nat → Int64)) (t : State) => match u with | G => va_P D CL [(im, .inr (1, [.ref iq, .int L])), (iq, .inl (cB, n, .inl f)), (xq, .inl (cJ, 1, .inr (.inl G)))] t.heap ∧ va_D (va_A [(im, .inr (1, [.ref iq, .int L])), (iq, .inl (cB, n, .inl f)), (xq, .inl (cJ, 1, .inr (.inl F)))] sz) [(im, .inr (1, [.ref iq, .int L])), (iq, .inl (cB, n, .inl f)), (xq, .inl (cJ, 1, .inr (.inl G)))]) (va_A [(im, .inr (1, [.ref iq, .int L])), (iq, .inl (cB, n, .inl f)), (xq, .inl (cJ, 1, .inr (.inl F)))] sz)) 1 6 (va_A [(im, .inr (1, [.ref iq, .int L])), (iq, .inl (cB, n, .inl f)), (xq, .inl (cJ, 1, .inr (.inl F)))] sz) := by
  refine va_MetW (cc := b_DiscMakerLaw_read) (maxL := 5) (ret := some .int) (hh := [((0 : Nat), (10 : Nat), (13 : Nat), (19 : Nat))]) (by decide +kernel) rfl ?_
  intro p e s m args below meth c s₁ B hml hv
  obtain ⟨rfl, hsz, hP, hK, hN, hD0, hZx, hZr⟩ := hv
  have hx := B.exec
  have hb := B.bytes
  have hr := B.returns
  have hts := atoms_spec (ws := w_DiscMakerLaw_read) B.pre
  have ht9 := fun (w : Cond) (h : w ∈ lw_g) => hts w (List.mem_cons_of_mem _ h)
  have hown : s.vm.findClass "DiscMakerLaw" = some m.cls := findClass_of_methodNamed B.named
  have hlocks := B.notSynchronized
  subst hsz
  have hD := hD0.self (sz := s.heap.size)
  generalize hAe : va_A [(im, .inr (1, [.ref iq, .int L])), (iq, .inl (cB, n, .inl f)), (xq, .inl (cJ, 1, .inr (.inl F)))] s.heap.size = A at hD hZx hZr ⊢
  have hA : ∀ q : Nat, s.heap.size ≤ q → A q := fun q h => by rw [← hAe]; exact Or.inr h
  have hS : va_S A s.heap s.heap [] := va_S.rf
  have hP : va_P D CL [(im, .inr (1, [.ref iq, .int L])), (iq, .inl (cB, n, .inl f)), (xq, .inl (cJ, 1, .inr (.inl F)))] s.heap := hP
  have hone := zw_one B (hts _ List.mem_cons_self)
  have hl := lv_entry [.ref d0, .int x, .int y, .ref xq] (n := 5) (Nat.le_of_ble_eq_true rfl)
  rw [lg_entry_eq]
  generalize (lg_sl [.ref d0, .int x, .int y, .ref xq] ++ List.replicate (5 - (lg_sl [.ref d0, .int x, .int y, .ref xq]).length) Slot.unset).toArray = ls at hl ⊢
  have hl : lv_has ls 5 [(0, .ref d0), (1, .int x), (2, .int y), (3, .ref xq)] := hl
  have L_m1 : ((-1) : Int32).toInt = (-1) := by decide
  have L_0 : (0 : Int32).toInt = 0 := by decide
  have L_1 : (1 : Int32).toInt = 1 := by decide
  refine lv_aload_n hx hb d_DiscMakerLaw_read_0 rfl (lv_at hl 3 rfl) ?_
  refine lv_iconst (v := 0) hx hb d_DiscMakerLaw_read_1 (by decide) ?_
  refine lv_aload_n hx hb d_DiscMakerLaw_read_2 rfl (lv_at hl 0 rfl) ?_
  refine lv_iload_n hx hb d_DiscMakerLaw_read_3 rfl (lv_at hl 1 rfl) ?_
  refine lv_iload_n hx hb d_DiscMakerLaw_read_4 rfl (lv_at hl 2 rfl) ?_
  by_cases hv9 : ((0 ≤ x.toInt ∧ x.toInt < rc.toInt) ∧ (ga x.toNatClampNeg 2).toInt = 1 ∧ 0 ≤ y.toInt ∧ y.toInt < (ga x.toNatClampNeg 3).toInt)
  · skip
    have hPc := hP.sub (ws' := [(im, .inr (1, [.ref iq, .int L])), (iq, .inl (cB, n, .inl f))]) [0, 1] rfl
    have hDc := hD.sub (ws' := [(im, .inr (1, [.ref iq, .int L])), (iq, .inl (cB, n, .inl f))]) [0, 1] (by decide +kernel) rfl
    have hFc := va_free (wc := [(im, .inr (1, [.ref iq, .int L])), (iq, .inl (cB, n, .inl f))]) hD hS hA [0, 1] rfl
    have hPR := RO_at hZr hS
    have hkc : 0 ≤ 1 := by decide
    have hks : 0 ≤ 6 := by decide
    refine va_calli (va_runV (C := "DiscMaker") (As := [.int x, .int y]) (rest := [.int 0, .ref xq]) ⟨hx, hb, hml, hown, hts⟩ (c3_read l D cB cI cJ cZ cN cF s.heap.size d0 tx tr im m0 rd pr ra rc vw wr fa ga cf md x y iq n L f (by (try dsimp only); first | assumption | omega | trivial) (by (try dsimp only); first | assumption | omega | trivial) (hv9) (hron) (by (try dsimp only); first | assumption | omega | trivial) (by (try dsimp only); first | assumption | omega | trivial)) (cwV 2 hts (lg_goodV k1419 k1420 k1421 k115 kc_DiscMaker_read) rfl rfl rfl (by decide +kernel) ⟨Nat.le_of_ble_eq_true rfl, Nat.le_of_ble_eq_true rfl⟩) ⟨fun a U g mk q => by obtain ⟨q0, q1, qP, qK, qN, qD, qZ0⟩ := q; exact ⟨q0, q1, qP, va_K.moved (u := U) (U := U.calling g mk a) (Vm.Alike.refl U.vm) qK, qN.calling, qD, RO_blind qZ0⟩, va_recv hK hPR (ci := 0) (q0 := 0) rfl rfl, fun U hU hW => ⟨rfl, by rw [hU], by rw [hU]; exact hPc, va_K.moved hW.alike hK, NN.warm hW hN, hDc.weaken (fun _ _ _ _ => trivial), (RO_app (w1 := [(d0, .inr (0, [.ref tx, .ref tr, .ref im, .ref m0, .ref rd]))]) (w2 := (([(rd, .inr (7, [.ref im, .ref pr, .ref ra, .int rc, .int vw, .int wr])), (ra, .inl (cF, 99, .inr (.inr (.inr (.inr (rowF fa md))))))] : va_W) ++ (PL (FC cB fa ga cf) md))) (RO_pass (RO_one hZr 0 rfl) hS hFc hU) (RO_app (w1 := [(rd, .inr (7, [.ref im, .ref pr, .ref ra, .int rc, .int vw, .int wr]))]) (w2 := (([(ra, .inl (cF, 99, .inr (.inr (.inr (.inr (rowF fa md))))))] : va_W) ++ (PL (FC cB fa ga cf) md))) (RO_pass (RO_one hZr 1 rfl) hS hFc hU) (RO_app (w1 := [(ra, .inl (cF, 99, .inr (.inr (.inr (.inr (rowF fa md))))))]) (w2 := (PL (FC cB fa ga cf) md)) (RO_pass (RO_one hZr 2 rfl) hS hFc hU) (RO_pass (RO_tail (X := [(d0, .inr (0, [.ref tx, .ref tr, .ref im, .ref m0, .ref rd])), (rd, .inr (7, [.ref im, .ref pr, .ref ra, .int rc, .int vw, .int wr])), (ra, .inl (cF, 99, .inr (.inr (.inr (.inr (rowF fa md))))))]) hZr) hS hFc hU))))⟩⟩ rfl rfl hl.1 rfl (lv_room (Nat.le_of_ble_eq_true rfl)) d_DiscMakerLaw_read_5 ⟨hkc, hks⟩) hS (fun q _ h => hFc q h) hFc (fun r1 u t H1 locs ht hvm hp_r1 hB hz1 hk1 hS => ?_)
    obtain ⟨hP1, hD1⟩ := hB
    rw [ht] at hP1
    obtain ⟨hP, hD⟩ := va_join (wr := [(xq, .inl (cJ, 1, .inr (.inl F)))]) (w1 := [(im, .inr (1, [.ref iq, .int L])), (iq, .inl (cB, n, .inl f))]) hP hD [0, 1] [2] rfl rfl (by decide +kernel) (by decide +kernel) hk1 hFc hP1 hD1
    clear hPc hDc hFc hP1 hD1 hk1 hz1 hkc hks
    generalize H1 = H at hP hS ⊢
    have hP : va_P D CL [(xq, .inl (cJ, 1, .inr (.inl F))), (im, .inr (1, [.ref iq, .int L])), (iq, .inl (cB, n, .inl f))] H := hP
    have hD : va_D A [(xq, .inl (cJ, 1, .inr (.inl F))), (im, .inr (1, [.ref iq, .int L])), (iq, .inl (cB, n, .inl f))] := hD
    refine lv_i2l hx hb d_DiscMakerLaw_read_8 rfl ?_
    refine lv_topl (fun w2 e_w2 => ?_)
    have t_w2 : w2.toInt = r1.toInt ∧ (-2147483648) ≤ r1.toInt ∧ r1.toInt ≤ 2147483647 := by rw [e_w2]; exact ⟨l_i rfl, i_rng _⟩
    refine zq_last hx hb hK hP hD hS 0 2 rfl rfl (by unfold vp_in; decide) d_DiscMakerLaw_read_9 (fun fz3 e_fz3 H locs hP hD hS => ?_)
    have hP : va_P D CL [(xq, .inl (cJ, 1, .inr (.inl fz3))), (im, .inr (1, [.ref iq, .int L])), (iq, .inl (cB, n, .inl f))] H := hP
    have hD : va_D A [(xq, .inl (cJ, 1, .inr (.inl fz3))), (im, .inr (1, [.ref iq, .int L])), (iq, .inl (cB, n, .inl f))] := hD
    refine lv_goto (tgt := 17) hx hb d_DiscMakerLaw_read_10 (by decide) ?_
    refine lv_iconst (v := 0) hx hb d_DiscMakerLaw_read_17 (by decide) ?_
    have hP9 := hP.sub (ws' := [(im, .inr (1, [.ref iq, .int L])), (iq, .inl (cB, n, .inl f)), (xq, .inl (cJ, 1, .inr (.inl fz3)))]) [1, 2, 0] rfl
    have hD9 := hD.sub (ws' := [(im, .inr (1, [.ref iq, .int L])), (iq, .inl (cB, n, .inl f)), (xq, .inl (cJ, 1, .inr (.inl fz3)))]) [1, 2, 0] (by decide +kernel) rfl
    refine W.widen (k := 1) (n := 6) (by decide) (by decide) ?_
    exact W.iret (v := 0) hx hb hr (fun t ht hW => ⟨⟨0, fz3, rfl, trivial, by rw [ht]; exact hP9, hD9⟩, hS.F ht⟩) hS.2.2 d_DiscMakerLaw_read_18
  · skip
    have hPc := hP.sub (ws' := []) [] rfl
    have hDc := hD.sub (ws' := []) [] (by decide +kernel) rfl
    have hFc := va_free (wc := []) hD hS hA [] rfl
    have hPR := RO_at hZr hS
    have hkc : 1 ≤ 1 := by decide
    have hks : 6 ≤ 6 := by decide
    refine W.eq (g2 := F0 m 5 ls ([.int x, .int y].reverse ++ .ref d0 :: [.int 0, .ref xq])) rfl ?_
    refine zz_callT (As := [.int x, .int y]) (rest := [.int 0, .ref xq]) (Cr := "DiscMaker") ⟨hx, hb, hml, hown, hts⟩ (c3_t_read l htl D cB cI cJ cZ cN cF s.heap.size d0 tx tr im m0 rd pr ra rc vw wr fa ga cf md x y (by (try dsimp only); first | assumption | omega | trivial) (by (try dsimp only); first | assumption | omega | trivial) (hv9)) (cwV 2 hts (lg_goodV k1419 k1420 k1421 k115 kc_DiscMaker_read) rfl rfl rfl (by decide +kernel) ⟨Nat.le_of_ble_eq_true rfl, Nat.le_of_ble_eq_true rfl⟩) ⟨fun a U g mk q => by obtain ⟨q0, q1, qP, qK, qN, qD, qZ0, qZ1⟩ := q; exact ⟨q0, q1, qP, va_K.moved (u := U) (U := U.calling g mk a) (Vm.Alike.refl U.vm) qK, qN.calling, qD, TX_blind qZ0, RO_blind qZ1⟩, va_recv hK hPR (ci := 0) (q0 := 0) rfl rfl, fun U hU hW => ⟨rfl, by rw [hU], by rw [hU]; exact hPc, va_K.moved hW.alike hK, NN.warm hW hN, hDc.weaken (fun _ _ _ _ => trivial), TX_pass hZx hS hFc hW.alike hU, (RO_app (w1 := [(d0, .inr (0, [.ref tx, .ref tr, .ref im, .ref m0, .ref rd]))]) (w2 := (([(rd, .inr (7, [.ref im, .ref pr, .ref ra, .int rc, .int vw, .int wr])), (ra, .inl (cF, 99, .inr (.inr (.inr (.inr (rowF fa md))))))] : va_W) ++ (PL (FC cB fa ga cf) md))) (RO_pass (RO_one hZr 0 rfl) hS hFc hU) (RO_app (w1 := [(rd, .inr (7, [.ref im, .ref pr, .ref ra, .int rc, .int vw, .int wr]))]) (w2 := (([(ra, .inl (cF, 99, .inr (.inr (.inr (.inr (rowF fa md))))))] : va_W) ++ (PL (FC cB fa ga cf) md))) (RO_pass (RO_one hZr 1 rfl) hS hFc hU) (RO_app (w1 := [(ra, .inl (cF, 99, .inr (.inr (.inr (.inr (rowF fa md))))))]) (w2 := (PL (FC cB fa ga cf) md)) (RO_pass (RO_one hZr 2 rfl) hS hFc hU) (RO_pass (RO_tail (X := [(d0, .inr (0, [.ref tx, .ref tr, .ref im, .ref m0, .ref rd])), (rd, .inr (7, [.ref im, .ref pr, .ref ra, .int rc, .int vw, .int wr])), (ra, .inl (cF, 99, .inr (.inr (.inr (.inr (rowF fa md))))))]) hZr) hS hFc hU))))⟩⟩ hone ⟨by decide, by decide⟩ (by decide) (ht9 _ k1374) rfl hl.1 (Nat.le_of_ble_eq_true rfl) d_DiscMakerLaw_read_5 ⟨hkc, hks⟩ hS (fun q _ h => hFc q h) hFc (fun xx4 H1 locs hz1 hk1 hS => ?_)
    obtain ⟨hP, hD⟩ := va_join (wr := [(im, .inr (1, [.ref iq, .int L])), (iq, .inl (cB, n, .inl f)), (xq, .inl (cJ, 1, .inr (.inl F)))]) (w1 := []) hP hD [] [0, 1, 2] rfl rfl (by decide +kernel) (by decide +kernel) hk1 hFc (fun k q h => by simp at h) ⟨fun i j p q h => by simp at h, fun k q h => by simp at h⟩
    clear hPc hDc hFc hk1 hz1 hkc hks
    generalize H1 = H at hP hS ⊢
    have hP : va_P D CL [(im, .inr (1, [.ref iq, .int L])), (iq, .inl (cB, n, .inl f)), (xq, .inl (cJ, 1, .inr (.inl F)))] H := hP
    have hD : va_D A [(im, .inr (1, [.ref iq, .int L])), (iq, .inl (cB, n, .inl f)), (xq, .inl (cJ, 1, .inr (.inl F)))] := hD
    refine W.widen (k := 1) (n := 6) (by decide) (by decide) ?_
    refine lv_astore hx hb d_DiscMakerLaw_read_13 hl (by decide) rfl (fun ls hl => ?_)
    have hl : lv_has ls 5 [(4, .ref xx4), (0, .ref d0), (1, .int x), (2, .int y), (3, .ref xq)] := hl
    refine lv_iconst (v := 1) hx hb d_DiscMakerLaw_read_15 (by decide) ?_
    have hP9 := hP.sub (ws' := [(im, .inr (1, [.ref iq, .int L])), (iq, .inl (cB, n, .inl f)), (xq, .inl (cJ, 1, .inr (.inl F)))]) [0, 1, 2] rfl
    have hD9 := hD.sub (ws' := [(im, .inr (1, [.ref iq, .int L])), (iq, .inl (cB, n, .inl f)), (xq, .inl (cJ, 1, .inr (.inl F)))]) [0, 1, 2] (by decide +kernel) rfl
    exact W.iret (v := 1) hx hb hr (fun t ht hW => ⟨⟨1, F, rfl, trivial, by rw [ht]; exact hP9, hD9⟩, hS.F ht⟩) hS.2.2 d_DiscMakerLaw_read_16

theorem d_DiscMakerLaw_mount_0 : decode b_DiscMakerLaw_mount 0 = .ok (.aload_n 2, 1) := by decide +kernel
theorem d_DiscMakerLaw_mount_1 : decode b_DiscMakerLaw_mount 1 = .ok (.iconst 0, 1) := by decide +kernel
theorem d_DiscMakerLaw_mount_2 : decode b_DiscMakerLaw_mount 2 = .ok (.aload_n 0, 1) := by decide +kernel
theorem d_DiscMakerLaw_mount_3 : decode b_DiscMakerLaw_mount 3 = .ok (.iload_n 1, 1) := by decide +kernel
theorem d_DiscMakerLaw_mount_4 : decode b_DiscMakerLaw_mount 4 = .ok (.invokevirtual 7, 3) := by decide +kernel
theorem d_DiscMakerLaw_mount_7 : decode b_DiscMakerLaw_mount 7 = .ok (.i2l, 1) := by decide +kernel
theorem d_DiscMakerLaw_mount_8 : decode b_DiscMakerLaw_mount 8 = .ok (.lastore, 1) := by decide +kernel
theorem d_DiscMakerLaw_mount_9 : decode b_DiscMakerLaw_mount 9 = .ok (.goto 6, 3) := by decide +kernel
theorem d_DiscMakerLaw_mount_12 : decode b_DiscMakerLaw_mount 12 = .ok (.astore_n 3, 1) := by decide +kernel
theorem d_DiscMakerLaw_mount_13 : decode b_DiscMakerLaw_mount 13 = .ok (.iconst 1, 1) := by decide +kernel
theorem d_DiscMakerLaw_mount_14 : decode b_DiscMakerLaw_mount 14 = .ok (.ireturn, 1) := by decide +kernel
theorem d_DiscMakerLaw_mount_15 : decode b_DiscMakerLaw_mount 15 = .ok (.iconst 0, 1) := by decide +kernel
theorem d_DiscMakerLaw_mount_16 : decode b_DiscMakerLaw_mount 16 = .ok (.ireturn, 1) := by decide +kernel
set_option maxHeartbeats 4000000 in
set_option maxRecDepth 100000 in
theorem c3_l_mount (l : Launch) (htl : l.stackTraces = false) (D : va_G) (cB cI cJ cZ cN cF : ClassId) (sz : Nat) (d0 : Nat) (tx : Nat) (tr : Nat) (im : Nat) (m0 : Nat) (rd : Nat) (pr : Nat) (ra : Nat) (iq : Nat) (n : Nat) (L : Int32) (f : Nat → Int32) (rc : Int32) (vw : Int32) (wr : Int32) (fw : Value) (nm : Int32) (co : Int32) (ta : Int32) (lc : Int32) (fa : Nat → Nat → Nat) (ga : Nat → Nat → Int32) (cf : Nat → Nat → Nat → Int32) (md : Nat) (td : Nat) (ts : Nat) (tl : Nat) (gd : Nat → Int32) (gs : Nat → Int32) (gl : Nat → Int32) (T0 : Nat) (x : Int32) (xq : Nat) (F : Nat → Int64) (hL : 0 ≤ L.toInt ∧ L.toInt ≤ n) (hn : n ≤ 3000000) (hcn : 0 ≤ rc.toInt ∧ rc.toInt ≤ md) (hmd : md ≤ 99) (hron0 : ROn rc.toInt ga) : Met l y_DiscMakerLaw_mount w_DiscMakerLaw_mount ({ frames := 8, cells := 597, slots := 94127, locals := 244 }) (va_Pc [.ref d0, .int x, .ref xq] (fun U => U.heap.size = sz ∧ va_P D CL (([(d0, .inr (0, [.ref tx, .ref tr, .ref im, .ref m0, .ref rd])), (rd, .inr (7, [.ref im, .ref pr, .ref ra, .int rc, .int vw, .int wr])), (ra, .inl (cF, 99, .inr (.inr (.inr (.inr (rowF fa md)))))), (pr, .inr (6, [.ref im, fw, .int nm, .int co, .int ta, .int lc])), (im, .inr (1, [.ref iq, .int L])), (iq, .inl (cB, n, .inl f)), (xq, .inl (cJ, 1, .inr (.inl F)))] : va_W) ++ (PL (FC cB fa ga cf) md)) U.heap ∧ va_K D CL (TY cB cI cJ cZ cN cF) U ∧ NN U ∧ va_D (fun _ => True) (([(d0, .inr (0, [.ref tx, .ref tr, .ref im, .ref m0, .ref rd])), (rd, .inr (7, [.ref im, .ref pr, .ref ra, .int rc, .int vw, .int wr])), (ra, .inl (cF, 99, .inr (.inr (.inr (.inr (rowF fa md)))))), (pr, .inr (6, [.ref im, fw, .int nm, .int co, .int ta, .int lc])), (im, .inr (1, [.ref iq, .int L])), (iq, .inl (cB, n, .inl f)), (xq, .inl (cJ, 1, .inr (.inl F)))] : va_W) ++ (PL (FC cB fa ga cf) md)) ∧ SZ td ts tl gd gs gl (va_A (([(d0, .inr (0, [.ref tx, .ref tr, .ref im, .ref m0, .ref rd])), (rd, .inr (7, [.ref im, .ref pr, .ref ra, .int rc, .int vw, .int wr])), (ra, .inl (cF, 99, .inr (.inr (.inr (.inr (rowF fa md)))))), (pr, .inr (6, [.ref im, fw, .int nm, .int co, .int ta, .int lc])), (im, .inr (1, [.ref iq, .int L])), (iq, .inl (cB, n, .inl f)), (xq, .inl (cJ, 1, .inr (.inl F)))] : va_W) ++ (PL (FC cB fa ga cf) md)) sz) U U.heap ∧ TOT T0 (va_A (([(d0, .inr (0, [.ref tx, .ref tr, .ref im, .ref m0, .ref rd])), (rd, .inr (7, [.ref im, .ref pr, .ref ra, .int rc, .int vw, .int wr])), (ra, .inl (cF, 99, .inr (.inr (.inr (.inr (rowF fa md)))))), (pr, .inr (6, [.ref im, fw, .int nm, .int co, .int ta, .int lc])), (im, .inr (1, [.ref iq, .int L])), (iq, .inl (cB, n, .inl f)), (xq, .inl (cJ, 1, .inr (.inl F)))] : va_W) ++ (PL (FC cB fa ga cf) md)) sz) U U.heap ∧ TX (va_A (([(d0, .inr (0, [.ref tx, .ref tr, .ref im, .ref m0, .ref rd])), (rd, .inr (7, [.ref im, .ref pr, .ref ra, .int rc, .int vw, .int wr])), (ra, .inl (cF, 99, .inr (.inr (.inr (.inr (rowF fa md)))))), (pr, .inr (6, [.ref im, fw, .int nm, .int co, .int ta, .int lc])), (im, .inr (1, [.ref iq, .int L])), (iq, .inl (cB, n, .inl f)), (xq, .inl (cJ, 1, .inr (.inl F)))] : va_W) ++ (PL (FC cB fa ga cf) md)) sz) U U.heap)) (va_Qi (fun (r : Int32) (u : Value × Int32 × Int32 × Int32 × Int32 × Int32 × Int32 × (Nat → Nat → Nat) × (Nat → Nat → Int32) × (Nat → Nat → Nat → Int32) × Nat × Int32 × (Nat → Int64)) => match u with | (fw2, nm2, co2, ta2, lc2, cn2, wr2, fa2, ga2, cf2, md2, vw2, G) => (0 ≤ cn2.toInt ∧ cn2.toInt ≤ md2 ∧ md ≤ md2 ∧ md2 ≤ 99) ∧ (ROn cn2.toInt ga2)) (fun (u : Value × Int32 × Int32 × Int32 × Int32 × Int32 × Int32 × (Nat → Nat → Nat) × (Nat → Nat → Int32) × (Nat → Nat → Nat → Int32) × Nat × Int32 × (Nat → Int64)) (t : State) => match u with | (fw2, nm2, co2, ta2, lc2, cn2, wr2, fa2, ga2, cf2, md2, vw2, G) => (t.heap.size ≤ sz + 3 * (md2 - md) + 1 ∧ tot t.heap ≤ T0 + 473 * (md2 - md) + 6) ∧ va_P D CL (([(d0, .inr (0, [.ref tx, .ref tr, .ref im, .ref m0, .ref rd])), (rd, .inr (7, [.ref im, .ref pr, .ref ra, .int cn2, .int vw2, .int wr2])), (ra, .inl (cF, 99, .inr (.inr (.inr (.inr (rowF fa2 md2)))))), (pr, .inr (6, [.ref im, fw2, .int nm2, .int co2, .int ta2, .int lc2])), (im, .inr (1, [.ref iq, .int L])), (iq, .inl (cB, n, .inl f)), (xq, .inl (cJ, 1, .inr (.inl G)))] : va_W) ++ (PL (FC cB fa2 ga2 cf2) md2)) t.heap ∧ va_D (va_A (([(d0, .inr (0, [.ref tx, .ref tr, .ref im, .ref m0, .ref rd])), (rd, .inr (7, [.ref im, .ref pr, .ref ra, .int rc, .int vw, .int wr])), (ra, .inl (cF, 99, .inr (.inr (.inr (.inr (rowF fa md)))))), (pr, .inr (6, [.ref im, fw, .int nm, .int co, .int ta, .int lc])), (im, .inr (1, [.ref iq, .int L])), (iq, .inl (cB, n, .inl f)), (xq, .inl (cJ, 1, .inr (.inl F)))] : va_W) ++ (PL (FC cB fa ga cf) md)) sz) (([(d0, .inr (0, [.ref tx, .ref tr, .ref im, .ref m0, .ref rd])), (rd, .inr (7, [.ref im, .ref pr, .ref ra, .int cn2, .int vw2, .int wr2])), (ra, .inl (cF, 99, .inr (.inr (.inr (.inr (rowF fa2 md2)))))), (pr, .inr (6, [.ref im, fw2, .int nm2, .int co2, .int ta2, .int lc2])), (im, .inr (1, [.ref iq, .int L])), (iq, .inl (cB, n, .inl f)), (xq, .inl (cJ, 1, .inr (.inl G)))] : va_W) ++ (PL (FC cB fa2 ga2 cf2) md2))) (va_A (([(d0, .inr (0, [.ref tx, .ref tr, .ref im, .ref m0, .ref rd])), (rd, .inr (7, [.ref im, .ref pr, .ref ra, .int rc, .int vw, .int wr])), (ra, .inl (cF, 99, .inr (.inr (.inr (.inr (rowF fa md)))))), (pr, .inr (6, [.ref im, fw, .int nm, .int co, .int ta, .int lc])), (im, .inr (1, [.ref iq, .int L])), (iq, .inl (cB, n, .inl f)), (xq, .inl (cJ, 1, .inr (.inl F)))] : va_W) ++ (PL (FC cB fa ga cf) md)) sz)) 597 94127 (va_A (([(d0, .inr (0, [.ref tx, .ref tr, .ref im, .ref m0, .ref rd])), (rd, .inr (7, [.ref im, .ref pr, .ref ra, .int rc, .int vw, .int wr])), (ra, .inl (cF, 99, .inr (.inr (.inr (.inr (rowF fa md)))))), (pr, .inr (6, [.ref im, fw, .int nm, .int co, .int ta, .int lc])), (im, .inr (1, [.ref iq, .int L])), (iq, .inl (cB, n, .inl f)), (xq, .inl (cJ, 1, .inr (.inl F)))] : va_W) ++ (PL (FC cB fa ga cf) md)) sz) := by
  refine va_MetW (cc := b_DiscMakerLaw_mount) (maxL := 4) (ret := some .int) (hh := [((0 : Nat), (9 : Nat), (12 : Nat), (13 : Nat))]) (by decide +kernel) rfl ?_
  intro p e s m args below meth c s₁ B hml hv
  obtain ⟨rfl, hsz, hP, hK, hN, hD0, hZs, hZq, hZx⟩ := hv
  have hx := B.exec
  have hb := B.bytes
  have hr := B.returns
  have hts := atoms_spec (ws := w_DiscMakerLaw_mount) B.pre
  have ht9 := fun (w : Cond) (h : w ∈ lw_g) => hts w (List.mem_cons_of_mem _ h)
  have hown : s.vm.findClass "DiscMakerLaw" = some m.cls := findClass_of_methodNamed B.named
  have hlocks := B.notSynchronized
  subst hsz
  have hD := hD0.self (sz := s.heap.size)
  generalize hAe : va_A (([(d0, .inr (0, [.ref tx, .ref tr, .ref im, .ref m0, .ref rd])), (rd, .inr (7, [.ref im, .ref pr, .ref ra, .int rc, .int vw, .int wr])), (ra, .inl (cF, 99, .inr (.inr (.inr (.inr (rowF fa md)))))), (pr, .inr (6, [.ref im, fw, .int nm, .int co, .int ta, .int lc])), (im, .inr (1, [.ref iq, .int L])), (iq, .inl (cB, n, .inl f)), (xq, .inl (cJ, 1, .inr (.inl F)))] : va_W) ++ (PL (FC cB fa ga cf) md)) s.heap.size = A at hD hZs hZq hZx ⊢
  have hA : ∀ q : Nat, s.heap.size ≤ q → A q := fun q h => by rw [← hAe]; exact Or.inr h
  have hS : va_S A s.heap s.heap [] := va_S.rf
  have hP : va_P D CL (([(d0, .inr (0, [.ref tx, .ref tr, .ref im, .ref m0, .ref rd])), (rd, .inr (7, [.ref im, .ref pr, .ref ra, .int rc, .int vw, .int wr])), (ra, .inl (cF, 99, .inr (.inr (.inr (.inr (rowF fa md)))))), (pr, .inr (6, [.ref im, fw, .int nm, .int co, .int ta, .int lc])), (im, .inr (1, [.ref iq, .int L])), (iq, .inl (cB, n, .inl f)), (xq, .inl (cJ, 1, .inr (.inl F)))] : va_W) ++ (PL (FC cB fa ga cf) md)) s.heap := hP
  have hone := zw_one B (hts _ List.mem_cons_self)
  have hl := lv_entry [.ref d0, .int x, .ref xq] (n := 4) (Nat.le_of_ble_eq_true rfl)
  rw [lg_entry_eq]
  generalize (lg_sl [.ref d0, .int x, .ref xq] ++ List.replicate (4 - (lg_sl [.ref d0, .int x, .ref xq]).length) Slot.unset).toArray = ls at hl ⊢
  have hl : lv_has ls 4 [(0, .ref d0), (1, .int x), (2, .ref xq)] := hl
  have L_m1 : ((-1) : Int32).toInt = (-1) := by decide
  have L_0 : (0 : Int32).toInt = 0 := by decide
  have L_1 : (1 : Int32).toInt = 1 := by decide
  refine zz_know (fun hk1 hn1 => ?_)
  refine lv_aload_n hx hb d_DiscMakerLaw_mount_0 rfl (lv_at hl 2 rfl) ?_
  refine lv_iconst (v := 0) hx hb d_DiscMakerLaw_mount_1 (by decide) ?_
  refine lv_aload_n hx hb d_DiscMakerLaw_mount_2 rfl (lv_at hl 0 rfl) ?_
  refine lv_iload_n hx hb d_DiscMakerLaw_mount_3 rfl (lv_at hl 1 rfl) ?_
  by_cases hv9 : (0 ≤ x.toInt ∧ x.toInt ≤ 2)
  · skip
    have hPc := hP.part (X := [(d0, .inr (0, [.ref tx, .ref tr, .ref im, .ref m0, .ref rd])), (rd, .inr (7, [.ref im, .ref pr, .ref ra, .int rc, .int vw, .int wr])), (ra, .inl (cF, 99, .inr (.inr (.inr (.inr (rowF fa md)))))), (pr, .inr (6, [.ref im, fw, .int nm, .int co, .int ta, .int lc])), (im, .inr (1, [.ref iq, .int L])), (iq, .inl (cB, n, .inl f)), (xq, .inl (cJ, 1, .inr (.inl F)))]) (cx := [(d0, .inr (0, [.ref tx, .ref tr, .ref im, .ref m0, .ref rd])), (rd, .inr (7, [.ref im, .ref pr, .ref ra, .int rc, .int vw, .int wr])), (ra, .inl (cF, 99, .inr (.inr (.inr (.inr (rowF fa md)))))), (pr, .inr (6, [.ref im, fw, .int nm, .int co, .int ta, .int lc])), (im, .inr (1, [.ref iq, .int L])), (iq, .inl (cB, n, .inl f))]) [0, 1, 2, 3, 4, 5] rfl
    have hDc := hD.part (X := [(d0, .inr (0, [.ref tx, .ref tr, .ref im, .ref m0, .ref rd])), (rd, .inr (7, [.ref im, .ref pr, .ref ra, .int rc, .int vw, .int wr])), (ra, .inl (cF, 99, .inr (.inr (.inr (.inr (rowF fa md)))))), (pr, .inr (6, [.ref im, fw, .int nm, .int co, .int ta, .int lc])), (im, .inr (1, [.ref iq, .int L])), (iq, .inl (cB, n, .inl f)), (xq, .inl (cJ, 1, .inr (.inl F)))]) (cx := [(d0, .inr (0, [.ref tx, .ref tr, .ref im, .ref m0, .ref rd])), (rd, .inr (7, [.ref im, .ref pr, .ref ra, .int rc, .int vw, .int wr])), (ra, .inl (cF, 99, .inr (.inr (.inr (.inr (rowF fa md)))))), (pr, .inr (6, [.ref im, fw, .int nm, .int co, .int ta, .int lc])), (im, .inr (1, [.ref iq, .int L])), (iq, .inl (cB, n, .inl f))]) [0, 1, 2, 3, 4, 5] (by decide +kernel) rfl
    have hFc := va_freeP (X := [(d0, .inr (0, [.ref tx, .ref tr, .ref im, .ref m0, .ref rd])), (rd, .inr (7, [.ref im, .ref pr, .ref ra, .int rc, .int vw, .int wr])), (ra, .inl (cF, 99, .inr (.inr (.inr (.inr (rowF fa md)))))), (pr, .inr (6, [.ref im, fw, .int nm, .int co, .int ta, .int lc])), (im, .inr (1, [.ref iq, .int L])), (iq, .inl (cB, n, .inl f)), (xq, .inl (cJ, 1, .inr (.inl F)))]) (cx := [(d0, .inr (0, [.ref tx, .ref tr, .ref im, .ref m0, .ref rd])), (rd, .inr (7, [.ref im, .ref pr, .ref ra, .int rc, .int vw, .int wr])), (ra, .inl (cF, 99, .inr (.inr (.inr (.inr (rowF fa md)))))), (pr, .inr (6, [.ref im, fw, .int nm, .int co, .int ta, .int lc])), (im, .inr (1, [.ref iq, .int L])), (iq, .inl (cB, n, .inl f))]) hD hS hA [0, 1, 2, 3, 4, 5] rfl
    have hkc : 597 ≤ 597 := by decide
    have hks : 94127 ≤ 94127 := by decide
    refine va_calli (va_runV (C := "DiscMaker") (As := [.int x]) (rest := [.int 0, .ref xq]) ⟨hx, hb, hml, hown, hts⟩ (c3_mount l D cB cI cJ cZ cN cF s.heap.size d0 tx tr im m0 rd pr ra iq n L f rc vw wr fw nm co ta lc fa ga cf md td ts tl gd gs gl (tot s.heap) x (by (try dsimp only); first | assumption | omega | trivial) (by (try dsimp only); first | assumption | omega | trivial) (by (try dsimp only); first | assumption | omega | trivial) (by (try dsimp only); first | assumption | omega | trivial) (hv9)) (cwV 1 hts (lg_goodV k1150 k1151 k1152 k115 kc_DiscMaker_mount) rfl rfl rfl (by decide +kernel) ⟨Nat.le_of_ble_eq_true rfl, Nat.le_of_ble_eq_true rfl⟩) ⟨fun a U g mk q => by obtain ⟨q0, q1, qP, qK, qN, qD, qZ0, qZ1⟩ := q; exact ⟨q0, q1, qP, va_K.moved (u := U) (U := U.calling g mk a) (Vm.Alike.refl U.vm) qK, qN.calling, qD, SZ_blind qZ0, TOT_blind qZ1⟩, va_recv hK hP (ci := 0) (q0 := 0) rfl rfl, fun U hU hW => ⟨rfl, by rw [hU], by rw [hU]; exact hPc, va_K.moved hW.alike hK, NN.warm hW hN, hDc.weaken (fun _ _ _ _ => trivial), SZ_pass hZs hS hFc hW.alike hU, congrArg tot hU⟩⟩ rfl rfl hl.1 rfl (lv_room (Nat.le_of_ble_eq_true rfl)) d_DiscMakerLaw_mount_4 ⟨hkc, hks⟩) hS (fun q _ h => hFc q h) hFc (fun r1 u t H1 locs ht hvm hp_r1 hB hz1 hk1 hS => ?_)
    obtain ⟨fw2_2, nm2_3, co2_4, ta2_5, lc2_6, cn2_7, wr2_8, fa2_9, ga2_10, cf2_11, md2_12⟩ := u
    obtain ⟨hq_13, hP1, hD1⟩ := hB
    rw [ht] at hP1
    try rw [ht] at hq_13
    obtain ⟨hP, hD⟩ := va_joinP (X := [(d0, .inr (0, [.ref tx, .ref tr, .ref im, .ref m0, .ref rd])), (rd, .inr (7, [.ref im, .ref pr, .ref ra, .int rc, .int vw, .int wr])), (ra, .inl (cF, 99, .inr (.inr (.inr (.inr (rowF fa md)))))), (pr, .inr (6, [.ref im, fw, .int nm, .int co, .int ta, .int lc])), (im, .inr (1, [.ref iq, .int L])), (iq, .inl (cB, n, .inl f)), (xq, .inl (cJ, 1, .inr (.inl F)))]) (cx := [(d0, .inr (0, [.ref tx, .ref tr, .ref im, .ref m0, .ref rd])), (rd, .inr (7, [.ref im, .ref pr, .ref ra, .int rc, .int vw, .int wr])), (ra, .inl (cF, 99, .inr (.inr (.inr (.inr (rowF fa md)))))), (pr, .inr (6, [.ref im, fw, .int nm, .int co, .int ta, .int lc])), (im, .inr (1, [.ref iq, .int L])), (iq, .inl (cB, n, .inl f))]) (wr := [(xq, .inl (cJ, 1, .inr (.inl F)))]) (rx := [(d0, .inr (0, [.ref tx, .ref tr, .ref im, .ref m0, .ref rd])), (rd, .inr (7, [.ref im, .ref pr, .ref ra, .int cn2_7, .int x, .int wr2_8])), (ra, .inl (cF, 99, .inr (.inr (.inr (.inr (rowF fa2_9 md2_12)))))), (pr, .inr (6, [.ref im, fw2_2, .int nm2_3, .int co2_4, .int ta2_5, .int lc2_6])), (im, .inr (1, [.ref iq, .int L])), (iq, .inl (cB, n, .inl f))]) hP hD [0, 1, 2, 3, 4, 5] [6] rfl rfl (by decide +kernel) (by decide +kernel) hk1 hFc hP1 hD1
    clear hPc hDc hFc hP1 hD1 hk1 hz1 hkc hks
    generalize H1 = H at hP hS hq_13 ⊢
    have hP : va_P D CL (([(xq, .inl (cJ, 1, .inr (.inl F))), (d0, .inr (0, [.ref tx, .ref tr, .ref im, .ref m0, .ref rd])), (rd, .inr (7, [.ref im, .ref pr, .ref ra, .int cn2_7, .int x, .int wr2_8])), (ra, .inl (cF, 99, .inr (.inr (.inr (.inr (rowF fa2_9 md2_12)))))), (pr, .inr (6, [.ref im, fw2_2, .int nm2_3, .int co2_4, .int ta2_5, .int lc2_6])), (im, .inr (1, [.ref iq, .int L])), (iq, .inl (cB, n, .inl f))] : va_W) ++ (PL (FC cB fa2_9 ga2_10 cf2_11) md2_12)) H := hP
    have hD : va_D A (([(xq, .inl (cJ, 1, .inr (.inl F))), (d0, .inr (0, [.ref tx, .ref tr, .ref im, .ref m0, .ref rd])), (rd, .inr (7, [.ref im, .ref pr, .ref ra, .int cn2_7, .int x, .int wr2_8])), (ra, .inl (cF, 99, .inr (.inr (.inr (.inr (rowF fa2_9 md2_12)))))), (pr, .inr (6, [.ref im, fw2_2, .int nm2_3, .int co2_4, .int ta2_5, .int lc2_6])), (im, .inr (1, [.ref iq, .int L])), (iq, .inl (cB, n, .inl f))] : va_W) ++ (PL (FC cB fa2_9 ga2_10 cf2_11) md2_12)) := hD
    refine W.widen (k := 597) (n := 94127) (by decide) (by decide) ?_
    try dsimp only at hp_r1
    obtain ⟨hm2_14, hron_15⟩ := hp_r1
    refine zz_tightT (k := 3 * (md2_12 - md)) (n := 473 * (md2_12 - md)) (by omega) (by omega) ?_
    refine lv_i2l hx hb d_DiscMakerLaw_mount_7 rfl ?_
    refine lv_topl (fun w16 e_w16 => ?_)
    have t_w16 : w16.toInt = r1.toInt ∧ (-2147483648) ≤ r1.toInt ∧ r1.toInt ≤ 2147483647 := by rw [e_w16]; exact ⟨l_i rfl, i_rng _⟩
    refine zq_last hx hb hK hP hD hS 0 2 rfl rfl (by unfold vp_in; decide) d_DiscMakerLaw_mount_8 (fun fz17 e_fz17 H locs hP hD hS => ?_)
    have hP : va_P D CL (([(xq, .inl (cJ, 1, .inr (.inl fz17))), (d0, .inr (0, [.ref tx, .ref tr, .ref im, .ref m0, .ref rd])), (rd, .inr (7, [.ref im, .ref pr, .ref ra, .int cn2_7, .int x, .int wr2_8])), (ra, .inl (cF, 99, .inr (.inr (.inr (.inr (rowF fa2_9 md2_12)))))), (pr, .inr (6, [.ref im, fw2_2, .int nm2_3, .int co2_4, .int ta2_5, .int lc2_6])), (im, .inr (1, [.ref iq, .int L])), (iq, .inl (cB, n, .inl f))] : va_W) ++ (PL (FC cB fa2_9 ga2_10 cf2_11) md2_12)) H := hP
    have hD : va_D A (([(xq, .inl (cJ, 1, .inr (.inl fz17))), (d0, .inr (0, [.ref tx, .ref tr, .ref im, .ref m0, .ref rd])), (rd, .inr (7, [.ref im, .ref pr, .ref ra, .int cn2_7, .int x, .int wr2_8])), (ra, .inl (cF, 99, .inr (.inr (.inr (.inr (rowF fa2_9 md2_12)))))), (pr, .inr (6, [.ref im, fw2_2, .int nm2_3, .int co2_4, .int ta2_5, .int lc2_6])), (im, .inr (1, [.ref iq, .int L])), (iq, .inl (cB, n, .inl f))] : va_W) ++ (PL (FC cB fa2_9 ga2_10 cf2_11) md2_12)) := hD
    refine lv_goto (tgt := 15) hx hb d_DiscMakerLaw_mount_9 (by decide) ?_
    refine lv_iconst (v := 0) hx hb d_DiscMakerLaw_mount_15 (by decide) ?_
    have hT0 : tot s.heap = T0 := hZq
    refine zz_know (fun hk9 hn9 => ?_)
    have hP9 := hP.part (X := [(xq, .inl (cJ, 1, .inr (.inl fz17))), (d0, .inr (0, [.ref tx, .ref tr, .ref im, .ref m0, .ref rd])), (rd, .inr (7, [.ref im, .ref pr, .ref ra, .int cn2_7, .int x, .int wr2_8])), (ra, .inl (cF, 99, .inr (.inr (.inr (.inr (rowF fa2_9 md2_12)))))), (pr, .inr (6, [.ref im, fw2_2, .int nm2_3, .int co2_4, .int ta2_5, .int lc2_6])), (im, .inr (1, [.ref iq, .int L])), (iq, .inl (cB, n, .inl f))]) (cx := [(d0, .inr (0, [.ref tx, .ref tr, .ref im, .ref m0, .ref rd])), (rd, .inr (7, [.ref im, .ref pr, .ref ra, .int cn2_7, .int x, .int wr2_8])), (ra, .inl (cF, 99, .inr (.inr (.inr (.inr (rowF fa2_9 md2_12)))))), (pr, .inr (6, [.ref im, fw2_2, .int nm2_3, .int co2_4, .int ta2_5, .int lc2_6])), (im, .inr (1, [.ref iq, .int L])), (iq, .inl (cB, n, .inl f)), (xq, .inl (cJ, 1, .inr (.inl fz17)))]) [1, 2, 3, 4, 5, 6, 0] rfl
    have hD9 := hD.part (X := [(xq, .inl (cJ, 1, .inr (.inl fz17))), (d0, .inr (0, [.ref tx, .ref tr, .ref im, .ref m0, .ref rd])), (rd, .inr (7, [.ref im, .ref pr, .ref ra, .int cn2_7, .int x, .int wr2_8])), (ra, .inl (cF, 99, .inr (.inr (.inr (.inr (rowF fa2_9 md2_12)))))), (pr, .inr (6, [.ref im, fw2_2, .int nm2_3, .int co2_4, .int ta2_5, .int lc2_6])), (im, .inr (1, [.ref iq, .int L])), (iq, .inl (cB, n, .inl f))]) (cx := [(d0, .inr (0, [.ref tx, .ref tr, .ref im, .ref m0, .ref rd])), (rd, .inr (7, [.ref im, .ref pr, .ref ra, .int cn2_7, .int x, .int wr2_8])), (ra, .inl (cF, 99, .inr (.inr (.inr (.inr (rowF fa2_9 md2_12)))))), (pr, .inr (6, [.ref im, fw2_2, .int nm2_3, .int co2_4, .int ta2_5, .int lc2_6])), (im, .inr (1, [.ref iq, .int L])), (iq, .inl (cB, n, .inl f)), (xq, .inl (cJ, 1, .inr (.inl fz17)))]) [1, 2, 3, 4, 5, 6, 0] (by decide +kernel) rfl
    refine W.widen (k := 597) (n := 94127) (by omega) (by omega) ?_
    exact W.iret (v := 0) hx hb hr (fun t ht hW => ⟨⟨0, (fw2_2, nm2_3, co2_4, ta2_5, lc2_6, cn2_7, wr2_8, fa2_9, ga2_10, cf2_11, md2_12, x, fz17), rfl, ⟨(by (try dsimp only); first | assumption | omega | trivial), hron_15⟩, ⟨by rw [ht]; omega, by rw [ht]; omega⟩, by rw [ht]; exact hP9, hD9⟩, hS.F ht⟩) hS.2.2 d_DiscMakerLaw_mount_16
  · skip
    have hPc := hP.sub (ws' := []) [] rfl
    have hDc := hD.sub (ws' := []) [] (by decide +kernel) rfl
    have hFc := va_free (wc := []) hD hS hA [] rfl
    have hkc : 1 ≤ 597 := by decide
    have hks : 6 ≤ 94127 := by decide
    refine W.eq (g2 := F0 m 4 ls ([.int x].reverse ++ .ref d0 :: [.int 0, .ref xq])) rfl ?_
    refine zz_callT (As := [.int x]) (rest := [.int 0, .ref xq]) (Cr := "DiscMaker") ⟨hx, hb, hml, hown, hts⟩ (c3_t_mount l htl D cB cI cJ cZ cN cF s.heap.size d0 tx tr im m0 rd x (hv9)) (cwV 1 hts (lg_goodV k1150 k1151 k1152 k115 kc_DiscMaker_mount) rfl rfl rfl (by decide +kernel) ⟨Nat.le_of_ble_eq_true rfl, Nat.le_of_ble_eq_true rfl⟩) ⟨fun a U g mk q => by obtain ⟨q0, q1, qP, qK, qN, qD, qZ0, qZ1⟩ := q; exact ⟨q0, q1, qP, va_K.moved (u := U) (U := U.calling g mk a) (Vm.Alike.refl U.vm) qK, qN.calling, qD, TX_blind qZ0, RO_blind qZ1⟩, va_recv hK hP (ci := 0) (q0 := 0) rfl rfl, fun U hU hW => ⟨rfl, by rw [hU], by rw [hU]; exact hPc, va_K.moved hW.alike hK, NN.warm hW hN, hDc.weaken (fun _ _ _ _ => trivial), TX_pass hZx hS hFc hW.alike hU, (RO_mut hP hD [] rfl 0 rfl (by decide) hU)⟩⟩ hone ⟨by decide, by decide⟩ (by decide) (ht9 _ k1149) rfl hl.1 (Nat.le_of_ble_eq_true rfl) d_DiscMakerLaw_mount_4 ⟨hkc, hks⟩ hS (fun q _ h => hFc q h) hFc (fun xx18 H1 locs hz1 hk1 hS => ?_)
    obtain ⟨hP, hD⟩ := va_joinQ (X := [(d0, .inr (0, [.ref tx, .ref tr, .ref im, .ref m0, .ref rd])), (rd, .inr (7, [.ref im, .ref pr, .ref ra, .int rc, .int vw, .int wr])), (ra, .inl (cF, 99, .inr (.inr (.inr (.inr (rowF fa md)))))), (pr, .inr (6, [.ref im, fw, .int nm, .int co, .int ta, .int lc])), (im, .inr (1, [.ref iq, .int L])), (iq, .inl (cB, n, .inl f)), (xq, .inl (cJ, 1, .inr (.inl F)))]) (cx := []) (wr := [(d0, .inr (0, [.ref tx, .ref tr, .ref im, .ref m0, .ref rd])), (rd, .inr (7, [.ref im, .ref pr, .ref ra, .int rc, .int vw, .int wr])), (ra, .inl (cF, 99, .inr (.inr (.inr (.inr (rowF fa md)))))), (pr, .inr (6, [.ref im, fw, .int nm, .int co, .int ta, .int lc])), (im, .inr (1, [.ref iq, .int L])), (iq, .inl (cB, n, .inl f)), (xq, .inl (cJ, 1, .inr (.inl F)))]) (w1 := []) hP hD [] [0, 1, 2, 3, 4, 5, 6] rfl rfl (by decide +kernel) (by decide +kernel) hk1 hFc (fun k q h => by simp at h) ⟨fun i j p q h => by simp at h, fun k q h => by simp at h⟩
    clear hPc hDc hFc hk1 hz1 hkc hks
    generalize H1 = H at hP hS ⊢
    have hP : va_P D CL (([(d0, .inr (0, [.ref tx, .ref tr, .ref im, .ref m0, .ref rd])), (rd, .inr (7, [.ref im, .ref pr, .ref ra, .int rc, .int vw, .int wr])), (ra, .inl (cF, 99, .inr (.inr (.inr (.inr (rowF fa md)))))), (pr, .inr (6, [.ref im, fw, .int nm, .int co, .int ta, .int lc])), (im, .inr (1, [.ref iq, .int L])), (iq, .inl (cB, n, .inl f)), (xq, .inl (cJ, 1, .inr (.inl F)))] : va_W) ++ (PL (FC cB fa ga cf) md)) H := hP
    have hD : va_D A (([(d0, .inr (0, [.ref tx, .ref tr, .ref im, .ref m0, .ref rd])), (rd, .inr (7, [.ref im, .ref pr, .ref ra, .int rc, .int vw, .int wr])), (ra, .inl (cF, 99, .inr (.inr (.inr (.inr (rowF fa md)))))), (pr, .inr (6, [.ref im, fw, .int nm, .int co, .int ta, .int lc])), (im, .inr (1, [.ref iq, .int L])), (iq, .inl (cB, n, .inl f)), (xq, .inl (cJ, 1, .inr (.inl F)))] : va_W) ++ (PL (FC cB fa ga cf) md)) := hD
    refine W.widen (k := 1) (n := 6) (by decide) (by decide) ?_
    refine lv_astore_n hx hb d_DiscMakerLaw_mount_12 rfl hl (by decide) rfl (fun ls hl => ?_)
    have hl : lv_has ls 4 [(3, .ref xx18), (0, .ref d0), (1, .int x), (2, .ref xq)] := hl
    refine lv_iconst (v := 1) hx hb d_DiscMakerLaw_mount_13 (by decide) ?_
    have hT0 : tot s.heap = T0 := hZq
    refine zz_know (fun hk9 hn9 => ?_)
    have hP9 := hP.part (X := [(d0, .inr (0, [.ref tx, .ref tr, .ref im, .ref m0, .ref rd])), (rd, .inr (7, [.ref im, .ref pr, .ref ra, .int rc, .int vw, .int wr])), (ra, .inl (cF, 99, .inr (.inr (.inr (.inr (rowF fa md)))))), (pr, .inr (6, [.ref im, fw, .int nm, .int co, .int ta, .int lc])), (im, .inr (1, [.ref iq, .int L])), (iq, .inl (cB, n, .inl f)), (xq, .inl (cJ, 1, .inr (.inl F)))]) (cx := [(d0, .inr (0, [.ref tx, .ref tr, .ref im, .ref m0, .ref rd])), (rd, .inr (7, [.ref im, .ref pr, .ref ra, .int rc, .int vw, .int wr])), (ra, .inl (cF, 99, .inr (.inr (.inr (.inr (rowF fa md)))))), (pr, .inr (6, [.ref im, fw, .int nm, .int co, .int ta, .int lc])), (im, .inr (1, [.ref iq, .int L])), (iq, .inl (cB, n, .inl f)), (xq, .inl (cJ, 1, .inr (.inl F)))]) [0, 1, 2, 3, 4, 5, 6] rfl
    have hD9 := hD.part (X := [(d0, .inr (0, [.ref tx, .ref tr, .ref im, .ref m0, .ref rd])), (rd, .inr (7, [.ref im, .ref pr, .ref ra, .int rc, .int vw, .int wr])), (ra, .inl (cF, 99, .inr (.inr (.inr (.inr (rowF fa md)))))), (pr, .inr (6, [.ref im, fw, .int nm, .int co, .int ta, .int lc])), (im, .inr (1, [.ref iq, .int L])), (iq, .inl (cB, n, .inl f)), (xq, .inl (cJ, 1, .inr (.inl F)))]) (cx := [(d0, .inr (0, [.ref tx, .ref tr, .ref im, .ref m0, .ref rd])), (rd, .inr (7, [.ref im, .ref pr, .ref ra, .int rc, .int vw, .int wr])), (ra, .inl (cF, 99, .inr (.inr (.inr (.inr (rowF fa md)))))), (pr, .inr (6, [.ref im, fw, .int nm, .int co, .int ta, .int lc])), (im, .inr (1, [.ref iq, .int L])), (iq, .inl (cB, n, .inl f)), (xq, .inl (cJ, 1, .inr (.inl F)))]) [0, 1, 2, 3, 4, 5, 6] (by decide +kernel) rfl
    refine W.widen (k := 597) (n := 94127) (by decide) (by decide) ?_
    exact W.iret (v := 1) hx hb hr (fun t ht hW => ⟨⟨1, (fw, nm, co, ta, lc, rc, wr, fa, ga, cf, md, vw, F), rfl, ⟨(by (try dsimp only); first | assumption | omega | trivial), hron0⟩, ⟨by rw [ht]; omega, by rw [ht]; omega⟩, by rw [ht]; exact hP9, hD9⟩, hS.F ht⟩) hS.2.2 d_DiscMakerLaw_mount_14
