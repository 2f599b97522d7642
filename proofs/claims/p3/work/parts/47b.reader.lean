theorem d_Reader_readRoot_0 : decode b_Reader_readRoot 0 = .ok (.iload_n 1, 1) := by decide +kernel
theorem d_Reader_readRoot_1 : decode b_Reader_readRoot 1 = .ok (.sipush 128, 3) := by decide +kernel
theorem d_Reader_readRoot_4 : decode b_Reader_readRoot 4 = .ok (.iadd, 1) := by decide +kernel
theorem d_Reader_readRoot_5 : decode b_Reader_readRoot 5 = .ok (.istore_n 2, 1) := by decide +kernel
theorem d_Reader_readRoot_6 : decode b_Reader_readRoot 6 = .ok (.aload_n 0, 1) := by decide +kernel
theorem d_Reader_readRoot_7 : decode b_Reader_readRoot 7 = .ok (.getfield 17, 3) := by decide +kernel
theorem d_Reader_readRoot_10 : decode b_Reader_readRoot 10 = .ok (.iload_n 2, 1) := by decide +kernel
theorem d_Reader_readRoot_11 : decode b_Reader_readRoot 11 = .ok (.iconst 2, 1) := by decide +kernel
theorem d_Reader_readRoot_12 : decode b_Reader_readRoot 12 = .ok (.invokevirtual 78, 3) := by decide +kernel
theorem d_Reader_readRoot_15 : decode b_Reader_readRoot 15 = .ok (.sipush 2048, 3) := by decide +kernel
theorem d_Reader_readRoot_18 : decode b_Reader_readRoot 18 = .ok (.if_icmp .ne 15, 3) := by decide +kernel
theorem d_Reader_readRoot_21 : decode b_Reader_readRoot 21 = .ok (.aload_n 0, 1) := by decide +kernel
theorem d_Reader_readRoot_22 : decode b_Reader_readRoot 22 = .ok (.getfield 17, 3) := by decide +kernel
theorem d_Reader_readRoot_25 : decode b_Reader_readRoot 25 = .ok (.iload_n 2, 1) := by decide +kernel
theorem d_Reader_readRoot_26 : decode b_Reader_readRoot 26 = .ok (.iconst 2, 1) := by decide +kernel
theorem d_Reader_readRoot_27 : decode b_Reader_readRoot 27 = .ok (.invokevirtual 82, 3) := by decide +kernel
theorem d_Reader_readRoot_30 : decode b_Reader_readRoot 30 = .ok (.ifCond .ne 5, 3) := by decide +kernel
theorem d_Reader_readRoot_33 : decode b_Reader_readRoot 33 = .ok (.iload_n 2, 1) := by decide +kernel
theorem d_Reader_readRoot_34 : decode b_Reader_readRoot 34 = .ok (.ireturn, 1) := by decide +kernel
theorem d_Reader_readRoot_35 : decode b_Reader_readRoot 35 = .ok (.iload_n 1, 1) := by decide +kernel
theorem d_Reader_readRoot_36 : decode b_Reader_readRoot 36 = .ok (.sipush 156, 3) := by decide +kernel
theorem d_Reader_readRoot_39 : decode b_Reader_readRoot 39 = .ok (.iadd, 1) := by decide +kernel
theorem d_Reader_readRoot_40 : decode b_Reader_readRoot 40 = .ok (.istore_n 3, 1) := by decide +kernel
theorem d_Reader_readRoot_41 : decode b_Reader_readRoot 41 = .ok (.aload_n 0, 1) := by decide +kernel
theorem d_Reader_readRoot_42 : decode b_Reader_readRoot 42 = .ok (.iload_n 3, 1) := by decide +kernel
theorem d_Reader_readRoot_43 : decode b_Reader_readRoot 43 = .ok (.invokevirtual 86, 3) := by decide +kernel
theorem d_Reader_readRoot_46 : decode b_Reader_readRoot 46 = .ok (.ifCond .eq 11, 3) := by decide +kernel
theorem d_Reader_readRoot_49 : decode b_Reader_readRoot 49 = .ok (.aload_n 0, 1) := by decide +kernel
theorem d_Reader_readRoot_50 : decode b_Reader_readRoot 50 = .ok (.iload_n 3, 1) := by decide +kernel
theorem d_Reader_readRoot_51 : decode b_Reader_readRoot 51 = .ok (.invokevirtual 89, 3) := by decide +kernel
theorem d_Reader_readRoot_54 : decode b_Reader_readRoot 54 = .ok (.ifCond .ne 5, 3) := by decide +kernel
theorem d_Reader_readRoot_57 : decode b_Reader_readRoot 57 = .ok (.iload_n 3, 1) := by decide +kernel
theorem d_Reader_readRoot_58 : decode b_Reader_readRoot 58 = .ok (.ireturn, 1) := by decide +kernel
theorem d_Reader_readRoot_59 : decode b_Reader_readRoot 59 = .ok (.aload_n 0, 1) := by decide +kernel
theorem d_Reader_readRoot_60 : decode b_Reader_readRoot 60 = .ok (.iconst (-1), 1) := by decide +kernel
theorem d_Reader_readRoot_61 : decode b_Reader_readRoot 61 = .ok (.iconst 1, 1) := by decide +kernel
theorem d_Reader_readRoot_62 : decode b_Reader_readRoot 62 = .ok (.iload_n 3, 1) := by decide +kernel
theorem d_Reader_readRoot_63 : decode b_Reader_readRoot 63 = .ok (.invokevirtual 92, 3) := by decide +kernel
theorem d_Reader_readRoot_66 : decode b_Reader_readRoot 66 = .ok (.iconst (-1), 1) := by decide +kernel
theorem d_Reader_readRoot_67 : decode b_Reader_readRoot 67 = .ok (.ireturn, 1) := by decide +kernel
set_option maxHeartbeats 4000000 in
set_option maxRecDepth 100000 in
theorem c3_readRoot (l : Launch) (D : va_G) (cB cI cJ cZ cN cF : ClassId) (sz : Nat) (h0 : Nat) (pr : Nat) (ra : Nat) (im : Nat) (iq : Nat) (n : Nat) (L : Int32) (f : Nat → Int32) (cn : Int32) (vw : Int32) (wr : Int32) (fa : Nat → Nat → Nat) (ga : Nat → Nat → Int32) (cf : Nat → Nat → Nat → Int32) (md : Nat) (T0 : Nat) (x : Int32) (hL : 0 ≤ L.toInt ∧ L.toInt ≤ n) (hn : n ≤ 3000000) (hcn : 0 ≤ cn.toInt ∧ cn.toInt ≤ md) (hmd : md ≤ 99) (hc0 : cn.toInt = 0) (hx : (-1) ≤ x.toInt ∧ x.toInt ≤ 3010000) : Met l y_Reader_readRoot w_Reader_readRoot ({ frames := 3, cells := 3, slots := 473, locals := 90 }) (va_Pc [.ref h0, .int x] (fun U => U.heap.size = sz ∧ va_P D CL (([(h0, .inr (7, [.ref im, .ref pr, .ref ra, .int cn, .int vw, .int wr])), (ra, .inl (cF, 99, .inr (.inr (.inr (.inr (rowF fa md)))))), (im, .inr (1, [.ref iq, .int L])), (iq, .inl (cB, n, .inl f))] : va_W) ++ (PL (FC cB fa ga cf) md)) U.heap ∧ va_K D CL (TY cB cI cJ cZ cN cF) U ∧ NN U ∧ va_D (fun _ => True) (([(h0, .inr (7, [.ref im, .ref pr, .ref ra, .int cn, .int vw, .int wr])), (ra, .inl (cF, 99, .inr (.inr (.inr (.inr (rowF fa md)))))), (im, .inr (1, [.ref iq, .int L])), (iq, .inl (cB, n, .inl f))] : va_W) ++ (PL (FC cB fa ga cf) md)) ∧ TOT T0 (va_A (([(h0, .inr (7, [.ref im, .ref pr, .ref ra, .int cn, .int vw, .int wr])), (ra, .inl (cF, 99, .inr (.inr (.inr (.inr (rowF fa md)))))), (im, .inr (1, [.ref iq, .int L])), (iq, .inl (cB, n, .inl f))] : va_W) ++ (PL (FC cB fa ga cf) md)) sz) U U.heap)) (va_Qi (fun (r : Int32) (u : Int32 × (Nat → Nat → Nat) × (Nat → Nat → Int32) × (Nat → Nat → Nat → Int32) × Nat) => match u with | (cn2, fa2, ga2, cf2, md2) => (0 ≤ cn2.toInt ∧ cn2.toInt ≤ md2 ∧ md ≤ md2 ∧ md2 ≤ 99) ∧ (r.toInt = -1 → ROK L.toInt cn2.toInt ga2) ∧ (r.toInt = -1 → (ga2 0 9).toInt = 0)) (fun (u : Int32 × (Nat → Nat → Nat) × (Nat → Nat → Int32) × (Nat → Nat → Nat → Int32) × Nat) (t : State) => match u with | (cn2, fa2, ga2, cf2, md2) => (t.heap.size ≤ sz + 3 * (md2 - md) ∧ tot t.heap ≤ T0 + 473 * (md2 - md)) ∧ va_P D CL (([(h0, .inr (7, [.ref im, .ref pr, .ref ra, .int cn2, .int vw, .int wr])), (ra, .inl (cF, 99, .inr (.inr (.inr (.inr (rowF fa2 md2)))))), (im, .inr (1, [.ref iq, .int L])), (iq, .inl (cB, n, .inl f))] : va_W) ++ (PL (FC cB fa2 ga2 cf2) md2)) t.heap ∧ va_D (va_A (([(h0, .inr (7, [.ref im, .ref pr, .ref ra, .int cn, .int vw, .int wr])), (ra, .inl (cF, 99, .inr (.inr (.inr (.inr (rowF fa md)))))), (im, .inr (1, [.ref iq, .int L])), (iq, .inl (cB, n, .inl f))] : va_W) ++ (PL (FC cB fa ga cf) md)) sz) (([(h0, .inr (7, [.ref im, .ref pr, .ref ra, .int cn2, .int vw, .int wr])), (ra, .inl (cF, 99, .inr (.inr (.inr (.inr (rowF fa2 md2)))))), (im, .inr (1, [.ref iq, .int L])), (iq, .inl (cB, n, .inl f))] : va_W) ++ (PL (FC cB fa2 ga2 cf2) md2))) (va_A (([(h0, .inr (7, [.ref im, .ref pr, .ref ra, .int cn, .int vw, .int wr])), (ra, .inl (cF, 99, .inr (.inr (.inr (.inr (rowF fa md)))))), (im, .inr (1, [.ref iq, .int L])), (iq, .inl (cB, n, .inl f))] : va_W) ++ (PL (FC cB fa ga cf) md)) sz)) 3 473 (va_A (([(h0, .inr (7, [.ref im, .ref pr, .ref ra, .int cn, .int vw, .int wr])), (ra, .inl (cF, 99, .inr (.inr (.inr (.inr (rowF fa md)))))), (im, .inr (1, [.ref iq, .int L])), (iq, .inl (cB, n, .inl f))] : va_W) ++ (PL (FC cB fa ga cf) md)) sz) := by
  refine Met.ofW (cc := b_Reader_readRoot) (maxL := 4) (ret := some .int) (by decide +kernel) rfl ?_
  intro p e s m args below meth c s₁ B hml hv
  obtain ⟨rfl, hsz, hP, hK, hN, hD0, hZq⟩ := hv
  have hx := B.exec
  have hb := B.bytes
  have hr := B.returns
  have hts := atoms_spec (ws := w_Reader_readRoot) B.pre
  have ht9 := fun (w : Cond) (h : w ∈ lw_g) => hts w (List.mem_cons_of_mem _ h)
  have hown : s.vm.findClass "DiscMaker$Reader" = some m.cls := findClass_of_methodNamed B.named
  have hlocks := B.notSynchronized
  subst hsz
  have hD := hD0.self (sz := s.heap.size)
  generalize hAe : va_A (([(h0, .inr (7, [.ref im, .ref pr, .ref ra, .int cn, .int vw, .int wr])), (ra, .inl (cF, 99, .inr (.inr (.inr (.inr (rowF fa md)))))), (im, .inr (1, [.ref iq, .int L])), (iq, .inl (cB, n, .inl f))] : va_W) ++ (PL (FC cB fa ga cf) md)) s.heap.size = A at hD hZq ⊢
  have hA : ∀ q : Nat, s.heap.size ≤ q → A q := fun q h => by rw [← hAe]; exact Or.inr h
  have hS : va_S A s.heap s.heap [] := va_S.rf
  have hP : va_P D CL (([(h0, .inr (7, [.ref im, .ref pr, .ref ra, .int cn, .int vw, .int wr])), (ra, .inl (cF, 99, .inr (.inr (.inr (.inr (rowF fa md)))))), (im, .inr (1, [.ref iq, .int L])), (iq, .inl (cB, n, .inl f))] : va_W) ++ (PL (FC cB fa ga cf) md)) s.heap := hP
  have hl := lv_entry [.ref h0, .int x] (n := 4) (Nat.le_of_ble_eq_true rfl)
  rw [lg_entry_eq]
  generalize (lg_sl [.ref h0, .int x] ++ List.replicate (4 - (lg_sl [.ref h0, .int x]).length) Slot.unset).toArray = ls at hl ⊢
  have hl : lv_has ls 4 [(0, .ref h0), (1, .int x)] := hl
  have L_m1 : ((-1) : Int32).toInt = (-1) := by decide
  have L_0 : (0 : Int32).toInt = 0 := by decide
  have L_1 : (1 : Int32).toInt = 1 := by decide
  have L_2 : (2 : Int32).toInt = 2 := by decide
  have L_128 : (128 : Int32).toInt = 128 := by decide
  have L_156 : (156 : Int32).toInt = 156 := by decide
  have L_2048 : (2048 : Int32).toInt = 2048 := by decide
  refine lv_iload_n hx hb d_Reader_readRoot_0 rfl (lv_at hl 1 rfl) ?_
  refine lv_sipush (v := 128) hx hb d_Reader_readRoot_1 (by decide) ?_
  refine lv_iadd hx hb d_Reader_readRoot_4 ?_
  refine lv_topi (fun v1 e_v1 => ?_)
  have t_v1 : v1.toInt = x.toInt + 128 := by rw [e_v1]; exact i_add rfl (by decide) (by omega) (by omega)
  refine lv_istore_n hx hb d_Reader_readRoot_5 rfl hl (by decide) rfl (fun ls hl => ?_)
  have hl : lv_has ls 4 [(2, .int v1), (0, .ref h0), (1, .int x)] := hl
  refine lv_aload_n hx hb d_Reader_readRoot_6 rfl (lv_at hl 1 rfl) ?_
  refine va_get (D := D) (ci := 7) (v := .ref im) (C := "DiscMaker$Reader") (T := F_Reader) (N := 6) hx hb ht9 in_Reader hown hK hP 0 rfl rfl 0 (by decide) (ht9 _ k412) (fun _ h9 => h9) rfl d_Reader_readRoot_7 ?_
  refine lv_iload_n hx hb d_Reader_readRoot_10 rfl (lv_at hl 0 rfl) ?_
  refine lv_iconst (v := 2) hx hb d_Reader_readRoot_11 (by decide) ?_
  have hPc := hP.sub (ws' := [(im, .inr (1, [.ref iq, .int L])), (iq, .inl (cB, n, .inl f))]) [2, 3] rfl
  have hDc := hD.sub (ws' := [(im, .inr (1, [.ref iq, .int L])), (iq, .inl (cB, n, .inl f))]) [2, 3] (by decide +kernel) rfl
  have hFc := va_free (wc := [(im, .inr (1, [.ref iq, .int L])), (iq, .inl (cB, n, .inl f))]) hD hS hA [2, 3] rfl
  have hkc : 0 ≤ 3 := by decide
  have hks : 0 ≤ 473 := by decide
  refine va_calli (va_runV (C := "DiscMaker$Bytes") (As := [.int v1, .int 2]) (rest := []) ⟨hx, hb, hml, hown, hts⟩ (c3_low2 l D cB cI cJ cZ cN cF s.heap.size im iq n L f v1 (by (try dsimp only); first | assumption | omega | trivial) (by (try dsimp only); first | assumption | omega | trivial) (by (try dsimp only); first | assumption | omega | trivial)) (cwV 2 hts (lg_goodV k1189 k1190 k1191 k119 kc_Bytes_low) rfl rfl rfl (by decide +kernel) ⟨Nat.le_of_ble_eq_true rfl, Nat.le_of_ble_eq_true rfl⟩) ⟨fun a U g mk q => by obtain ⟨q0, q1, qP, qK, qN, qD⟩ := q; exact ⟨q0, q1, qP, va_K.moved (u := U) (U := U.calling g mk a) (Vm.Alike.refl U.vm) qK, qN.calling, qD⟩, va_recv hK hP (ci := 1) (q0 := 2) rfl rfl, fun U hU hW => ⟨rfl, by rw [hU], by rw [hU]; exact hPc, va_K.moved hW.alike hK, NN.warm hW hN, hDc.weaken (fun _ _ _ _ => trivial)⟩⟩ rfl rfl hl.1 rfl (lv_room (Nat.le_of_ble_eq_true rfl)) d_Reader_readRoot_12 ⟨hkc, hks⟩) hS (fun q _ h => hFc q h) hFc (fun r2 u t H1 locs ht hvm hp_r2 hB hz1 hk1 hS => ?_)
  obtain ⟨hP1, hD1⟩ := hB
  rw [ht] at hP1
  obtain ⟨hP, hD⟩ := va_joinQ (X := [(h0, .inr (7, [.ref im, .ref pr, .ref ra, .int cn, .int vw, .int wr])), (ra, .inl (cF, 99, .inr (.inr (.inr (.inr (rowF fa md)))))), (im, .inr (1, [.ref iq, .int L])), (iq, .inl (cB, n, .inl f))]) (cx := [(im, .inr (1, [.ref iq, .int L])), (iq, .inl (cB, n, .inl f))]) (wr := [(h0, .inr (7, [.ref im, .ref pr, .ref ra, .int cn, .int vw, .int wr])), (ra, .inl (cF, 99, .inr (.inr (.inr (.inr (rowF fa md))))))]) (w1 := [(im, .inr (1, [.ref iq, .int L])), (iq, .inl (cB, n, .inl f))]) hP hD [2, 3] [0, 1] rfl rfl (by decide +kernel) (by decide +kernel) hk1 hFc hP1 hD1
  clear hPc hDc hFc hP1 hD1 hk1 hz1 hkc hks
  generalize H1 = H at hP hS ⊢
  have hP : va_P D CL (([(h0, .inr (7, [.ref im, .ref pr, .ref ra, .int cn, .int vw, .int wr])), (ra, .inl (cF, 99, .inr (.inr (.inr (.inr (rowF fa md)))))), (im, .inr (1, [.ref iq, .int L])), (iq, .inl (cB, n, .inl f))] : va_W) ++ (PL (FC cB fa ga cf) md)) H := hP
  have hD : va_D A (([(h0, .inr (7, [.ref im, .ref pr, .ref ra, .int cn, .int vw, .int wr])), (ra, .inl (cF, 99, .inr (.inr (.inr (.inr (rowF fa md)))))), (im, .inr (1, [.ref iq, .int L])), (iq, .inl (cB, n, .inl f))] : va_W) ++ (PL (FC cB fa ga cf) md)) := hD
  refine lv_sipush (v := 2048) hx hb d_Reader_readRoot_15 (by decide) ?_
  refine lv_icmp_ne (tgt := 33) hx hb d_Reader_readRoot_18 (by decide) (fun h_9 => ?_) (fun h_9 => ?_)
  · skip
    have g18_11 : ¬ r2.toInt = 2048 := fun h8 => h_9 ((i_eq rfl (by decide)).mpr h8)
    refine lv_iload_n hx hb d_Reader_readRoot_33 rfl (lv_at hl 0 rfl) ?_
    have hT0 : tot s.heap = T0 := hZq
    refine zz_know (fun hk9 hn9 => ?_)
    have hP9 := hP.part (X := [(h0, .inr (7, [.ref im, .ref pr, .ref ra, .int cn, .int vw, .int wr])), (ra, .inl (cF, 99, .inr (.inr (.inr (.inr (rowF fa md)))))), (im, .inr (1, [.ref iq, .int L])), (iq, .inl (cB, n, .inl f))]) (cx := [(h0, .inr (7, [.ref im, .ref pr, .ref ra, .int cn, .int vw, .int wr])), (ra, .inl (cF, 99, .inr (.inr (.inr (.inr (rowF fa md)))))), (im, .inr (1, [.ref iq, .int L])), (iq, .inl (cB, n, .inl f))]) [0, 1, 2, 3] rfl
    have hD9 := hD.part (X := [(h0, .inr (7, [.ref im, .ref pr, .ref ra, .int cn, .int vw, .int wr])), (ra, .inl (cF, 99, .inr (.inr (.inr (.inr (rowF fa md)))))), (im, .inr (1, [.ref iq, .int L])), (iq, .inl (cB, n, .inl f))]) (cx := [(h0, .inr (7, [.ref im, .ref pr, .ref ra, .int cn, .int vw, .int wr])), (ra, .inl (cF, 99, .inr (.inr (.inr (.inr (rowF fa md)))))), (im, .inr (1, [.ref iq, .int L])), (iq, .inl (cB, n, .inl f))]) [0, 1, 2, 3] (by decide +kernel) rfl
    refine W.widen (k := 3) (n := 473) (by decide) (by decide) ?_
    exact W.iret (v := v1) hx hb hr (fun t ht hW => ⟨⟨v1, (cn, fa, ga, cf, md), rfl, ⟨(by (try dsimp only); first | assumption | omega | trivial), (by (try dsimp only); intro h7; exfalso; omega), (by (try dsimp only); intro h7; exfalso; omega)⟩, ⟨by rw [ht]; omega, by rw [ht]; omega⟩, by rw [ht]; exact hP9, hD9⟩, hS.F ht⟩) hS.2.2 d_Reader_readRoot_34
  · skip
    have g18_11 : r2.toInt = 2048 := (i_eq rfl (by decide)).mp h_9
    refine lv_aload_n hx hb d_Reader_readRoot_21 rfl (lv_at hl 1 rfl) ?_
    refine va_get (D := D) (ci := 7) (v := .ref im) (C := "DiscMaker$Reader") (T := F_Reader) (N := 6) hx hb ht9 in_Reader hown hK hP 0 rfl rfl 0 (by decide) (ht9 _ k412) (fun _ h9 => h9) rfl d_Reader_readRoot_22 ?_
    refine lv_iload_n hx hb d_Reader_readRoot_25 rfl (lv_at hl 0 rfl) ?_
    refine lv_iconst (v := 2) hx hb d_Reader_readRoot_26 (by decide) ?_
    have hPc := hP.sub (ws' := [(im, .inr (1, [.ref iq, .int L])), (iq, .inl (cB, n, .inl f))]) [2, 3] rfl
    have hDc := hD.sub (ws' := [(im, .inr (1, [.ref iq, .int L])), (iq, .inl (cB, n, .inl f))]) [2, 3] (by decide +kernel) rfl
    have hFc := va_free (wc := [(im, .inr (1, [.ref iq, .int L])), (iq, .inl (cB, n, .inl f))]) hD hS hA [2, 3] rfl
    have hkc : 0 ≤ 3 := by decide
    have hks : 0 ≤ 473 := by decide
    refine va_calli (va_runV (C := "DiscMaker$Bytes") (As := [.int v1, .int 2]) (rest := []) ⟨hx, hb, hml, hown, hts⟩ (c3_halvesAgree l D cB cI cJ cZ cN cF H.size im iq n L f v1 2 (by (try dsimp only); first | assumption | omega | trivial) (by (try dsimp only); first | assumption | omega | trivial) (by (try dsimp only); first | assumption | omega | trivial) (by (try dsimp only); first | assumption | omega | trivial)) (cwV 2 hts (lg_goodV k1193 k1194 k1195 k119 kc_Bytes_halvesAgree) rfl rfl rfl (by decide +kernel) ⟨Nat.le_of_ble_eq_true rfl, Nat.le_of_ble_eq_true rfl⟩) ⟨fun a U g mk q => by obtain ⟨q0, q1, qP, qK, qN, qD⟩ := q; exact ⟨q0, q1, qP, va_K.moved (u := U) (U := U.calling g mk a) (Vm.Alike.refl U.vm) qK, qN.calling, qD⟩, va_recv hK hP (ci := 1) (q0 := 2) rfl rfl, fun U hU hW => ⟨rfl, by rw [hU], by rw [hU]; exact hPc, va_K.moved hW.alike hK, NN.warm hW hN, hDc.weaken (fun _ _ _ _ => trivial)⟩⟩ rfl rfl hl.1 rfl (lv_room (Nat.le_of_ble_eq_true rfl)) d_Reader_readRoot_27 ⟨hkc, hks⟩) hS (fun q _ h => hFc q h) hFc (fun r3 u t H1 locs ht hvm hp_r3 hB hz1 hk1 hS => ?_)
    obtain ⟨hP1, hD1⟩ := hB
    rw [ht] at hP1
    obtain ⟨hP, hD⟩ := va_joinQ (X := [(h0, .inr (7, [.ref im, .ref pr, .ref ra, .int cn, .int vw, .int wr])), (ra, .inl (cF, 99, .inr (.inr (.inr (.inr (rowF fa md)))))), (im, .inr (1, [.ref iq, .int L])), (iq, .inl (cB, n, .inl f))]) (cx := [(im, .inr (1, [.ref iq, .int L])), (iq, .inl (cB, n, .inl f))]) (wr := [(h0, .inr (7, [.ref im, .ref pr, .ref ra, .int cn, .int vw, .int wr])), (ra, .inl (cF, 99, .inr (.inr (.inr (.inr (rowF fa md))))))]) (w1 := [(im, .inr (1, [.ref iq, .int L])), (iq, .inl (cB, n, .inl f))]) hP hD [2, 3] [0, 1] rfl rfl (by decide +kernel) (by decide +kernel) hk1 hFc hP1 hD1
    clear hPc hDc hFc hP1 hD1 hk1 hz1 hkc hks
    generalize H1 = H at hP hS ⊢
    have hP : va_P D CL (([(h0, .inr (7, [.ref im, .ref pr, .ref ra, .int cn, .int vw, .int wr])), (ra, .inl (cF, 99, .inr (.inr (.inr (.inr (rowF fa md)))))), (im, .inr (1, [.ref iq, .int L])), (iq, .inl (cB, n, .inl f))] : va_W) ++ (PL (FC cB fa ga cf) md)) H := hP
    have hD : va_D A (([(h0, .inr (7, [.ref im, .ref pr, .ref ra, .int cn, .int vw, .int wr])), (ra, .inl (cF, 99, .inr (.inr (.inr (.inr (rowF fa md)))))), (im, .inr (1, [.ref iq, .int L])), (iq, .inl (cB, n, .inl f))] : va_W) ++ (PL (FC cB fa ga cf) md)) := hD
    try dsimp only at hp_r3
    have hr_4 := hp_r3
    refine lv_if_ne (tgt := 35) hx hb d_Reader_readRoot_30 (by decide) (fun h_9 => ?_) (fun h_9 => ?_)
    · skip
      have g30_19 : ¬ r3.toInt = 0 := fun h8 => h_9 ((i_eq rfl (by decide)).mpr h8)
      refine lv_iload_n hx hb d_Reader_readRoot_35 rfl (lv_at hl 2 rfl) ?_
      refine lv_sipush (v := 156) hx hb d_Reader_readRoot_36 (by decide) ?_
      refine lv_iadd hx hb d_Reader_readRoot_39 ?_
      refine lv_topi (fun v5 e_v5 => ?_)
      have t_v5 : v5.toInt = x.toInt + 156 := by rw [e_v5]; exact i_add rfl (by decide) (by omega) (by omega)
      refine lv_istore_n hx hb d_Reader_readRoot_40 rfl hl (by decide) rfl (fun ls hl => ?_)
      have hl : lv_has ls 4 [(3, .int v5), (2, .int v1), (0, .ref h0), (1, .int x)] := hl
      refine lv_aload_n hx hb d_Reader_readRoot_41 rfl (lv_at hl 2 rfl) ?_
      refine lv_iload_n hx hb d_Reader_readRoot_42 rfl (lv_at hl 0 rfl) ?_
      have hPc := hP.sub (ws' := [(h0, .inr (7, [.ref im, .ref pr, .ref ra, .int cn, .int vw, .int wr])), (im, .inr (1, [.ref iq, .int L])), (iq, .inl (cB, n, .inl f))]) [0, 2, 3] rfl
      have hDc := hD.sub (ws' := [(h0, .inr (7, [.ref im, .ref pr, .ref ra, .int cn, .int vw, .int wr])), (im, .inr (1, [.ref iq, .int L])), (iq, .inl (cB, n, .inl f))]) [0, 2, 3] (by decide +kernel) rfl
      have hFc := va_free (wc := [(h0, .inr (7, [.ref im, .ref pr, .ref ra, .int cn, .int vw, .int wr])), (im, .inr (1, [.ref iq, .int L])), (iq, .inl (cB, n, .inl f))]) hD hS hA [0, 2, 3] rfl
      have hkc : 0 ≤ 3 := by decide
      have hks : 0 ≤ 473 := by decide
      refine va_calli (va_runV (C := "DiscMaker$Reader") (As := [.int v5]) (rest := []) ⟨hx, hb, hml, hown, hts⟩ (c3_isRecord l D cB cI cJ cZ cN cF H.size h0 pr ra im iq n L f cn vw wr v5 (by (try dsimp only); first | assumption | omega | trivial) (by (try dsimp only); first | assumption | omega | trivial) (by (try dsimp only); first | assumption | omega | trivial)) (cwV 1 hts (lg_goodV k1197 k1199 k34 k123 kc_Reader_isRecord) rfl rfl rfl (by decide +kernel) ⟨Nat.le_of_ble_eq_true rfl, Nat.le_of_ble_eq_true rfl⟩) ⟨fun a U g mk q => by obtain ⟨q0, q1, qP, qK, qN, qD⟩ := q; exact ⟨q0, q1, qP, va_K.moved (u := U) (U := U.calling g mk a) (Vm.Alike.refl U.vm) qK, qN.calling, qD⟩, va_recv hK hP (ci := 7) (q0 := 0) rfl rfl, fun U hU hW => ⟨rfl, by rw [hU], by rw [hU]; exact hPc, va_K.moved hW.alike hK, NN.warm hW hN, hDc.weaken (fun _ _ _ _ => trivial)⟩⟩ rfl rfl hl.1 rfl (lv_room (Nat.le_of_ble_eq_true rfl)) d_Reader_readRoot_43 ⟨hkc, hks⟩) hS (fun q _ h => hFc q h) hFc (fun r6 u t H1 locs ht hvm hp_r6 hB hz1 hk1 hS => ?_)
      obtain ⟨hP1, hD1⟩ := hB
      rw [ht] at hP1
      obtain ⟨hP, hD⟩ := va_joinQ (X := [(h0, .inr (7, [.ref im, .ref pr, .ref ra, .int cn, .int vw, .int wr])), (ra, .inl (cF, 99, .inr (.inr (.inr (.inr (rowF fa md)))))), (im, .inr (1, [.ref iq, .int L])), (iq, .inl (cB, n, .inl f))]) (cx := [(h0, .inr (7, [.ref im, .ref pr, .ref ra, .int cn, .int vw, .int wr])), (im, .inr (1, [.ref iq, .int L])), (iq, .inl (cB, n, .inl f))]) (wr := [(ra, .inl (cF, 99, .inr (.inr (.inr (.inr (rowF fa md))))))]) (w1 := [(h0, .inr (7, [.ref im, .ref pr, .ref ra, .int cn, .int vw, .int wr])), (im, .inr (1, [.ref iq, .int L])), (iq, .inl (cB, n, .inl f))]) hP hD [0, 2, 3] [1] rfl rfl (by decide +kernel) (by decide +kernel) hk1 hFc hP1 hD1
      clear hPc hDc hFc hP1 hD1 hk1 hz1 hkc hks
      generalize H1 = H at hP hS ⊢
      have hP : va_P D CL (([(ra, .inl (cF, 99, .inr (.inr (.inr (.inr (rowF fa md)))))), (h0, .inr (7, [.ref im, .ref pr, .ref ra, .int cn, .int vw, .int wr])), (im, .inr (1, [.ref iq, .int L])), (iq, .inl (cB, n, .inl f))] : va_W) ++ (PL (FC cB fa ga cf) md)) H := hP
      have hD : va_D A (([(ra, .inl (cF, 99, .inr (.inr (.inr (.inr (rowF fa md)))))), (h0, .inr (7, [.ref im, .ref pr, .ref ra, .int cn, .int vw, .int wr])), (im, .inr (1, [.ref iq, .int L])), (iq, .inl (cB, n, .inl f))] : va_W) ++ (PL (FC cB fa ga cf) md)) := hD
      try dsimp only at hp_r6
      obtain ⟨hr_7, hrc_8⟩ := hp_r6
      have hrecq := hrc_8
      refine lv_if_eq (tgt := 57) hx hb d_Reader_readRoot_46 (by decide) (fun h_9 => ?_) (fun h_9 => ?_)
      · skip
        have g46_27 : r6.toInt = 0 := (i_eq rfl (by decide)).mp h_9
        refine lv_iload_n hx hb d_Reader_readRoot_57 rfl (lv_at hl 0 rfl) ?_
        have hT0 : tot s.heap = T0 := hZq
        refine zz_know (fun hk9 hn9 => ?_)
        have hP9 := hP.part (X := [(ra, .inl (cF, 99, .inr (.inr (.inr (.inr (rowF fa md)))))), (h0, .inr (7, [.ref im, .ref pr, .ref ra, .int cn, .int vw, .int wr])), (im, .inr (1, [.ref iq, .int L])), (iq, .inl (cB, n, .inl f))]) (cx := [(h0, .inr (7, [.ref im, .ref pr, .ref ra, .int cn, .int vw, .int wr])), (ra, .inl (cF, 99, .inr (.inr (.inr (.inr (rowF fa md)))))), (im, .inr (1, [.ref iq, .int L])), (iq, .inl (cB, n, .inl f))]) [1, 0, 2, 3] rfl
        have hD9 := hD.part (X := [(ra, .inl (cF, 99, .inr (.inr (.inr (.inr (rowF fa md)))))), (h0, .inr (7, [.ref im, .ref pr, .ref ra, .int cn, .int vw, .int wr])), (im, .inr (1, [.ref iq, .int L])), (iq, .inl (cB, n, .inl f))]) (cx := [(h0, .inr (7, [.ref im, .ref pr, .ref ra, .int cn, .int vw, .int wr])), (ra, .inl (cF, 99, .inr (.inr (.inr (.inr (rowF fa md)))))), (im, .inr (1, [.ref iq, .int L])), (iq, .inl (cB, n, .inl f))]) [1, 0, 2, 3] (by decide +kernel) rfl
        refine W.widen (k := 3) (n := 473) (by decide) (by decide) ?_
        exact W.iret (v := v5) hx hb hr (fun t ht hW => ⟨⟨v5, (cn, fa, ga, cf, md), rfl, ⟨(by (try dsimp only); first | assumption | omega | trivial), (by (try dsimp only); intro h7; exfalso; omega), (by (try dsimp only); intro h7; exfalso; omega)⟩, ⟨by rw [ht]; omega, by rw [ht]; omega⟩, by rw [ht]; exact hP9, hD9⟩, hS.F ht⟩) hS.2.2 d_Reader_readRoot_58
      · skip
        have g46_27 : ¬ r6.toInt = 0 := fun h8 => h_9 ((i_eq rfl (by decide)).mpr h8)
        refine lv_aload_n hx hb d_Reader_readRoot_49 rfl (lv_at hl 2 rfl) ?_
        refine lv_iload_n hx hb d_Reader_readRoot_50 rfl (lv_at hl 0 rfl) ?_
        have hPc := hP.sub (ws' := [(h0, .inr (7, [.ref im, .ref pr, .ref ra, .int cn, .int vw, .int wr])), (im, .inr (1, [.ref iq, .int L])), (iq, .inl (cB, n, .inl f))]) [1, 2, 3] rfl
        have hDc := hD.sub (ws' := [(h0, .inr (7, [.ref im, .ref pr, .ref ra, .int cn, .int vw, .int wr])), (im, .inr (1, [.ref iq, .int L])), (iq, .inl (cB, n, .inl f))]) [1, 2, 3] (by decide +kernel) rfl
        have hFc := va_free (wc := [(h0, .inr (7, [.ref im, .ref pr, .ref ra, .int cn, .int vw, .int wr])), (im, .inr (1, [.ref iq, .int L])), (iq, .inl (cB, n, .inl f))]) hD hS hA [1, 2, 3] rfl
        have hkc : 0 ≤ 3 := by decide
        have hks : 0 ≤ 473 := by decide
        refine va_calli (va_runV (C := "DiscMaker$Reader") (As := [.int v5]) (rest := []) ⟨hx, hb, hml, hown, hts⟩ (c3_isDirectory l D cB cI cJ cZ cN cF H.size h0 pr ra im iq n L f cn vw wr v5 (by (try dsimp only); first | assumption | omega | trivial) (by (try dsimp only); first | assumption | omega | trivial) (by (try dsimp only); first | assumption | omega | trivial)) (cwV 1 hts (lg_goodV k1209 k1211 k37 k123 kc_Reader_isDirectory) rfl rfl rfl (by decide +kernel) ⟨Nat.le_of_ble_eq_true rfl, Nat.le_of_ble_eq_true rfl⟩) ⟨fun a U g mk q => by obtain ⟨q0, q1, qP, qK, qN, qD⟩ := q; exact ⟨q0, q1, qP, va_K.moved (u := U) (U := U.calling g mk a) (Vm.Alike.refl U.vm) qK, qN.calling, qD⟩, va_recv hK hP (ci := 7) (q0 := 1) rfl rfl, fun U hU hW => ⟨rfl, by rw [hU], by rw [hU]; exact hPc, va_K.moved hW.alike hK, NN.warm hW hN, hDc.weaken (fun _ _ _ _ => trivial)⟩⟩ rfl rfl hl.1 rfl (lv_room (Nat.le_of_ble_eq_true rfl)) d_Reader_readRoot_51 ⟨hkc, hks⟩) hS (fun q _ h => hFc q h) hFc (fun r9 u t H1 locs ht hvm hp_r9 hB hz1 hk1 hS => ?_)
        obtain ⟨hP1, hD1⟩ := hB
        rw [ht] at hP1
        obtain ⟨hP, hD⟩ := va_joinQ (X := [(ra, .inl (cF, 99, .inr (.inr (.inr (.inr (rowF fa md)))))), (h0, .inr (7, [.ref im, .ref pr, .ref ra, .int cn, .int vw, .int wr])), (im, .inr (1, [.ref iq, .int L])), (iq, .inl (cB, n, .inl f))]) (cx := [(h0, .inr (7, [.ref im, .ref pr, .ref ra, .int cn, .int vw, .int wr])), (im, .inr (1, [.ref iq, .int L])), (iq, .inl (cB, n, .inl f))]) (wr := [(ra, .inl (cF, 99, .inr (.inr (.inr (.inr (rowF fa md))))))]) (w1 := [(h0, .inr (7, [.ref im, .ref pr, .ref ra, .int cn, .int vw, .int wr])), (im, .inr (1, [.ref iq, .int L])), (iq, .inl (cB, n, .inl f))]) hP hD [1, 2, 3] [0] rfl rfl (by decide +kernel) (by decide +kernel) hk1 hFc hP1 hD1
        clear hPc hDc hFc hP1 hD1 hk1 hz1 hkc hks
        generalize H1 = H at hP hS ⊢
        have hP : va_P D CL (([(ra, .inl (cF, 99, .inr (.inr (.inr (.inr (rowF fa md)))))), (h0, .inr (7, [.ref im, .ref pr, .ref ra, .int cn, .int vw, .int wr])), (im, .inr (1, [.ref iq, .int L])), (iq, .inl (cB, n, .inl f))] : va_W) ++ (PL (FC cB fa ga cf) md)) H := hP
        have hD : va_D A (([(ra, .inl (cF, 99, .inr (.inr (.inr (.inr (rowF fa md)))))), (h0, .inr (7, [.ref im, .ref pr, .ref ra, .int cn, .int vw, .int wr])), (im, .inr (1, [.ref iq, .int L])), (iq, .inl (cB, n, .inl f))] : va_W) ++ (PL (FC cB fa ga cf) md)) := hD
        try dsimp only at hp_r9
        obtain ⟨hr_10, hv_11⟩ := hp_r9
        refine lv_if_ne (tgt := 59) hx hb d_Reader_readRoot_54 (by decide) (fun h_9 => ?_) (fun h_9 => ?_)
        · skip
          have g54_33 : ¬ r9.toInt = 0 := fun h8 => h_9 ((i_eq rfl (by decide)).mpr h8)
          refine lv_aload_n hx hb d_Reader_readRoot_59 rfl (lv_at hl 2 rfl) ?_
          refine lv_iconst (v := (-1)) hx hb d_Reader_readRoot_60 (by decide) ?_
          refine lv_iconst (v := 1) hx hb d_Reader_readRoot_61 (by decide) ?_
          refine lv_iload_n hx hb d_Reader_readRoot_62 rfl (lv_at hl 0 rfl) ?_
          refine zz_know (fun hk8 hn8 => ?_)
          have hPc := hP.part (X := [(ra, .inl (cF, 99, .inr (.inr (.inr (.inr (rowF fa md)))))), (h0, .inr (7, [.ref im, .ref pr, .ref ra, .int cn, .int vw, .int wr])), (im, .inr (1, [.ref iq, .int L])), (iq, .inl (cB, n, .inl f))]) (cx := [(h0, .inr (7, [.ref im, .ref pr, .ref ra, .int cn, .int vw, .int wr])), (ra, .inl (cF, 99, .inr (.inr (.inr (.inr (rowF fa md)))))), (im, .inr (1, [.ref iq, .int L])), (iq, .inl (cB, n, .inl f))]) [1, 0, 2, 3] rfl
          have hDc := hD.part (X := [(ra, .inl (cF, 99, .inr (.inr (.inr (.inr (rowF fa md)))))), (h0, .inr (7, [.ref im, .ref pr, .ref ra, .int cn, .int vw, .int wr])), (im, .inr (1, [.ref iq, .int L])), (iq, .inl (cB, n, .inl f))]) (cx := [(h0, .inr (7, [.ref im, .ref pr, .ref ra, .int cn, .int vw, .int wr])), (ra, .inl (cF, 99, .inr (.inr (.inr (.inr (rowF fa md)))))), (im, .inr (1, [.ref iq, .int L])), (iq, .inl (cB, n, .inl f))]) [1, 0, 2, 3] (by decide +kernel) rfl
          have hFc := va_freeP (X := [(ra, .inl (cF, 99, .inr (.inr (.inr (.inr (rowF fa md)))))), (h0, .inr (7, [.ref im, .ref pr, .ref ra, .int cn, .int vw, .int wr])), (im, .inr (1, [.ref iq, .int L])), (iq, .inl (cB, n, .inl f))]) (cx := [(h0, .inr (7, [.ref im, .ref pr, .ref ra, .int cn, .int vw, .int wr])), (ra, .inl (cF, 99, .inr (.inr (.inr (.inr (rowF fa md)))))), (im, .inr (1, [.ref iq, .int L])), (iq, .inl (cB, n, .inl f))]) hD hS hA [1, 0, 2, 3] rfl
          have hkc : 3 ≤ 3 := by decide
          have hks : 473 ≤ 473 := by decide
          refine va_callv (va_runV (C := "DiscMaker$Reader") (As := [.int (-1), .int 1, .int v5]) (rest := []) ⟨hx, hb, hml, hown, hts⟩ (c3_addRow l D cB cI cJ cZ cN cF H.size h0 pr ra im iq n L f cn vw wr fa ga cf md (tot H) (-1) 1 v5 (by (try dsimp only); first | assumption | omega | trivial) (by (try dsimp only); first | assumption | omega | trivial) (by (try dsimp only); first | assumption | omega | trivial) (by (try dsimp only); first | assumption | omega | trivial) (by (try dsimp only); first | assumption | omega | trivial) (by (try dsimp only); first | assumption | omega | trivial) (hrecq (by omega)) (fun k hk => absurd hk (by omega))) (cwV 3 hts (lg_goodV k1214 k1216 k38 k123 kc_Reader_addRow) rfl rfl rfl (by decide +kernel) ⟨Nat.le_of_ble_eq_true rfl, Nat.le_of_ble_eq_true rfl⟩) ⟨fun a U g mk q => by obtain ⟨q0, q1, qP, qK, qN, qD, qZ0⟩ := q; exact ⟨q0, q1, qP, va_K.moved (u := U) (U := U.calling g mk a) (Vm.Alike.refl U.vm) qK, qN.calling, qD, TOT_blind qZ0⟩, va_recv hK hP (ci := 7) (q0 := 1) rfl rfl, fun U hU hW => ⟨rfl, by rw [hU], by rw [hU]; exact hPc, va_K.moved hW.alike hK, NN.warm hW hN, hDc.weaken (fun _ _ _ _ => trivial), congrArg tot hU⟩⟩ rfl rfl hl.1 rfl (lv_room (Nat.le_of_ble_eq_true rfl)) d_Reader_readRoot_63 ⟨hkc, hks⟩) hS (fun q _ h => hFc q h) hFc (fun u t H1 locs ht hvm hp_r12 hB hz1 hk1 hS => ?_)
          obtain ⟨cn2_13, fa2_14, ga2_15, cf2_16, md2_17⟩ := u
          obtain ⟨hq_18, hP1, hD1⟩ := hB
          rw [ht] at hP1
          try rw [ht] at hq_18
          obtain ⟨hP, hD⟩ := va_joinP (X := [(ra, .inl (cF, 99, .inr (.inr (.inr (.inr (rowF fa md)))))), (h0, .inr (7, [.ref im, .ref pr, .ref ra, .int cn, .int vw, .int wr])), (im, .inr (1, [.ref iq, .int L])), (iq, .inl (cB, n, .inl f))]) (cx := [(h0, .inr (7, [.ref im, .ref pr, .ref ra, .int cn, .int vw, .int wr])), (ra, .inl (cF, 99, .inr (.inr (.inr (.inr (rowF fa md)))))), (im, .inr (1, [.ref iq, .int L])), (iq, .inl (cB, n, .inl f))]) (wr := []) (rx := [(h0, .inr (7, [.ref im, .ref pr, .ref ra, .int cn2_13, .int vw, .int wr])), (ra, .inl (cF, 99, .inr (.inr (.inr (.inr (rowF fa2_14 md2_17)))))), (im, .inr (1, [.ref iq, .int L])), (iq, .inl (cB, n, .inl f))]) hP hD [1, 0, 2, 3] [] rfl rfl (by decide +kernel) (by decide +kernel) hk1 hFc hP1 hD1
          clear hPc hDc hFc hP1 hD1 hk1 hz1 hkc hks
          generalize H1 = H at hP hS hq_18 ⊢
          have hP : va_P D CL (([(h0, .inr (7, [.ref im, .ref pr, .ref ra, .int cn2_13, .int vw, .int wr])), (ra, .inl (cF, 99, .inr (.inr (.inr (.inr (rowF fa2_14 md2_17)))))), (im, .inr (1, [.ref iq, .int L])), (iq, .inl (cB, n, .inl f))] : va_W) ++ (PL (FC cB fa2_14 ga2_15 cf2_16) md2_17)) H := hP
          have hD : va_D A (([(h0, .inr (7, [.ref im, .ref pr, .ref ra, .int cn2_13, .int vw, .int wr])), (ra, .inl (cF, 99, .inr (.inr (.inr (.inr (rowF fa2_14 md2_17)))))), (im, .inr (1, [.ref iq, .int L])), (iq, .inl (cB, n, .inl f))] : va_W) ++ (PL (FC cB fa2_14 ga2_15 cf2_16) md2_17)) := hD
          refine W.widen (k := 3) (n := 473) (by decide) (by decide) ?_
          try dsimp only at hp_r12
          obtain ⟨hcn2_19, hrok2_20, hnew_21⟩ := hp_r12
          refine lv_iconst (v := (-1)) hx hb d_Reader_readRoot_66 (by decide) ?_
          have hT0 : tot s.heap = T0 := hZq
          have hnw := hnew_21
          rw [show cn.toNatClampNeg = 0 by have := i_cl (a := cn) (by omega); omega] at hnw
          have hP9 := hP.part (X := [(h0, .inr (7, [.ref im, .ref pr, .ref ra, .int cn2_13, .int vw, .int wr])), (ra, .inl (cF, 99, .inr (.inr (.inr (.inr (rowF fa2_14 md2_17)))))), (im, .inr (1, [.ref iq, .int L])), (iq, .inl (cB, n, .inl f))]) (cx := [(h0, .inr (7, [.ref im, .ref pr, .ref ra, .int cn2_13, .int vw, .int wr])), (ra, .inl (cF, 99, .inr (.inr (.inr (.inr (rowF fa2_14 md2_17)))))), (im, .inr (1, [.ref iq, .int L])), (iq, .inl (cB, n, .inl f))]) [0, 1, 2, 3] rfl
          have hD9 := hD.part (X := [(h0, .inr (7, [.ref im, .ref pr, .ref ra, .int cn2_13, .int vw, .int wr])), (ra, .inl (cF, 99, .inr (.inr (.inr (.inr (rowF fa2_14 md2_17)))))), (im, .inr (1, [.ref iq, .int L])), (iq, .inl (cB, n, .inl f))]) (cx := [(h0, .inr (7, [.ref im, .ref pr, .ref ra, .int cn2_13, .int vw, .int wr])), (ra, .inl (cF, 99, .inr (.inr (.inr (.inr (rowF fa2_14 md2_17)))))), (im, .inr (1, [.ref iq, .int L])), (iq, .inl (cB, n, .inl f))]) [0, 1, 2, 3] (by decide +kernel) rfl
          exact W.iret (v := (-1)) hx hb hr (fun t ht hW => ⟨⟨(-1), (cn2_13, fa2_14, ga2_15, cf2_16, md2_17), rfl, ⟨(by (try dsimp only); first | assumption | omega | trivial), (fun _ => hrok2_20), (fun _ => hnw.2)⟩, ⟨by rw [ht]; omega, by rw [ht]; omega⟩, by rw [ht]; exact hP9, hD9⟩, hS.F ht⟩) hS.2.2 d_Reader_readRoot_67
        · skip
          have g54_33 : r9.toInt = 0 := (i_eq rfl (by decide)).mp h_9
          refine lv_iload_n hx hb d_Reader_readRoot_57 rfl (lv_at hl 0 rfl) ?_
          have hT0 : tot s.heap = T0 := hZq
          refine zz_know (fun hk9 hn9 => ?_)
          have hP9 := hP.part (X := [(ra, .inl (cF, 99, .inr (.inr (.inr (.inr (rowF fa md)))))), (h0, .inr (7, [.ref im, .ref pr, .ref ra, .int cn, .int vw, .int wr])), (im, .inr (1, [.ref iq, .int L])), (iq, .inl (cB, n, .inl f))]) (cx := [(h0, .inr (7, [.ref im, .ref pr, .ref ra, .int cn, .int vw, .int wr])), (ra, .inl (cF, 99, .inr (.inr (.inr (.inr (rowF fa md)))))), (im, .inr (1, [.ref iq, .int L])), (iq, .inl (cB, n, .inl f))]) [1, 0, 2, 3] rfl
          have hD9 := hD.part (X := [(ra, .inl (cF, 99, .inr (.inr (.inr (.inr (rowF fa md)))))), (h0, .inr (7, [.ref im, .ref pr, .ref ra, .int cn, .int vw, .int wr])), (im, .inr (1, [.ref iq, .int L])), (iq, .inl (cB, n, .inl f))]) (cx := [(h0, .inr (7, [.ref im, .ref pr, .ref ra, .int cn, .int vw, .int wr])), (ra, .inl (cF, 99, .inr (.inr (.inr (.inr (rowF fa md)))))), (im, .inr (1, [.ref iq, .int L])), (iq, .inl (cB, n, .inl f))]) [1, 0, 2, 3] (by decide +kernel) rfl
          refine W.widen (k := 3) (n := 473) (by decide) (by decide) ?_
          exact W.iret (v := v5) hx hb hr (fun t ht hW => ⟨⟨v5, (cn, fa, ga, cf, md), rfl, ⟨(by (try dsimp only); first | assumption | omega | trivial), (by (try dsimp only); intro h7; exfalso; omega), (by (try dsimp only); intro h7; exfalso; omega)⟩, ⟨by rw [ht]; omega, by rw [ht]; omega⟩, by rw [ht]; exact hP9, hD9⟩, hS.F ht⟩) hS.2.2 d_Reader_readRoot_58
    · skip
      have g30_19 : r3.toInt = 0 := (i_eq rfl (by decide)).mp h_9
      refine lv_iload_n hx hb d_Reader_readRoot_33 rfl (lv_at hl 0 rfl) ?_
      have hT0 : tot s.heap = T0 := hZq
      refine zz_know (fun hk9 hn9 => ?_)
      have hP9 := hP.part (X := [(h0, .inr (7, [.ref im, .ref pr, .ref ra, .int cn, .int vw, .int wr])), (ra, .inl (cF, 99, .inr (.inr (.inr (.inr (rowF fa md)))))), (im, .inr (1, [.ref iq, .int L])), (iq, .inl (cB, n, .inl f))]) (cx := [(h0, .inr (7, [.ref im, .ref pr, .ref ra, .int cn, .int vw, .int wr])), (ra, .inl (cF, 99, .inr (.inr (.inr (.inr (rowF fa md)))))), (im, .inr (1, [.ref iq, .int L])), (iq, .inl (cB, n, .inl f))]) [0, 1, 2, 3] rfl
      have hD9 := hD.part (X := [(h0, .inr (7, [.ref im, .ref pr, .ref ra, .int cn, .int vw, .int wr])), (ra, .inl (cF, 99, .inr (.inr (.inr (.inr (rowF fa md)))))), (im, .inr (1, [.ref iq, .int L])), (iq, .inl (cB, n, .inl f))]) (cx := [(h0, .inr (7, [.ref im, .ref pr, .ref ra, .int cn, .int vw, .int wr])), (ra, .inl (cF, 99, .inr (.inr (.inr (.inr (rowF fa md)))))), (im, .inr (1, [.ref iq, .int L])), (iq, .inl (cB, n, .inl f))]) [0, 1, 2, 3] (by decide +kernel) rfl
      refine W.widen (k := 3) (n := 473) (by decide) (by decide) ?_
      exact W.iret (v := v1) hx hb hr (fun t ht hW => ⟨⟨v1, (cn, fa, ga, cf, md), rfl, ⟨(by (try dsimp only); first | assumption | omega | trivial), (by (try dsimp only); intro h7; exfalso; omega), (by (try dsimp only); intro h7; exfalso; omega)⟩, ⟨by rw [ht]; omega, by rw [ht]; omega⟩, by rw [ht]; exact hP9, hD9⟩, hS.F ht⟩) hS.2.2 d_Reader_readRoot_34

theorem d_Reader_readDirectory_0 : decode b_Reader_readDirectory 0 = .ok (.aload_n 0, 1) := by decide +kernel
theorem d_Reader_readDirectory_1 : decode b_Reader_readDirectory 1 = .ok (.getfield 11, 3) := by decide +kernel
theorem d_Reader_readDirectory_4 : decode b_Reader_readDirectory 4 = .ok (.iload_n 1, 1) := by decide +kernel
theorem d_Reader_readDirectory_5 : decode b_Reader_readDirectory 5 = .ok (.aaload, 1) := by decide +kernel
theorem d_Reader_readDirectory_6 : decode b_Reader_readDirectory 6 = .ok (.getfield 96, 3) := by decide +kernel
theorem d_Reader_readDirectory_9 : decode b_Reader_readDirectory 9 = .ok (.sipush 2048, 3) := by decide +kernel
theorem d_Reader_readDirectory_12 : decode b_Reader_readDirectory 12 = .ok (.imul, 1) := by decide +kernel
theorem d_Reader_readDirectory_13 : decode b_Reader_readDirectory 13 = .ok (.istore_n 2, 1) := by decide +kernel
theorem d_Reader_readDirectory_14 : decode b_Reader_readDirectory 14 = .ok (.iload_n 2, 1) := by decide +kernel
theorem d_Reader_readDirectory_15 : decode b_Reader_readDirectory 15 = .ok (.aload_n 0, 1) := by decide +kernel
theorem d_Reader_readDirectory_16 : decode b_Reader_readDirectory 16 = .ok (.getfield 11, 3) := by decide +kernel
theorem d_Reader_readDirectory_19 : decode b_Reader_readDirectory 19 = .ok (.iload_n 1, 1) := by decide +kernel
theorem d_Reader_readDirectory_20 : decode b_Reader_readDirectory 20 = .ok (.aaload, 1) := by decide +kernel
theorem d_Reader_readDirectory_21 : decode b_Reader_readDirectory 21 = .ok (.getfield 99, 3) := by decide +kernel
theorem d_Reader_readDirectory_24 : decode b_Reader_readDirectory 24 = .ok (.iadd, 1) := by decide +kernel
theorem d_Reader_readDirectory_25 : decode b_Reader_readDirectory 25 = .ok (.istore_n 3, 1) := by decide +kernel
theorem d_Reader_readDirectory_26 : decode b_Reader_readDirectory 26 = .ok (.iload_n 2, 1) := by decide +kernel
theorem d_Reader_readDirectory_27 : decode b_Reader_readDirectory 27 = .ok (.istore 4, 2) := by decide +kernel
theorem d_Reader_readDirectory_29 : decode b_Reader_readDirectory 29 = .ok (.iconst 0, 1) := by decide +kernel
theorem d_Reader_readDirectory_30 : decode b_Reader_readDirectory 30 = .ok (.istore 5, 2) := by decide +kernel
theorem d_Reader_readDirectory_32 : decode b_Reader_readDirectory 32 = .ok (.iload 4, 2) := by decide +kernel
theorem d_Reader_readDirectory_34 : decode b_Reader_readDirectory 34 = .ok (.iload_n 3, 1) := by decide +kernel
theorem d_Reader_readDirectory_35 : decode b_Reader_readDirectory 35 = .ok (.if_icmp .ge 150, 3) := by decide +kernel
theorem d_Reader_readDirectory_38 : decode b_Reader_readDirectory 38 = .ok (.aload_n 0, 1) := by decide +kernel
theorem d_Reader_readDirectory_39 : decode b_Reader_readDirectory 39 = .ok (.getfield 17, 3) := by decide +kernel
theorem d_Reader_readDirectory_42 : decode b_Reader_readDirectory 42 = .ok (.iload 4, 2) := by decide +kernel
theorem d_Reader_readDirectory_44 : decode b_Reader_readDirectory 44 = .ok (.invokevirtual 68, 3) := by decide +kernel
theorem d_Reader_readDirectory_47 : decode b_Reader_readDirectory 47 = .ok (.istore 6, 2) := by decide +kernel
theorem d_Reader_readDirectory_49 : decode b_Reader_readDirectory 49 = .ok (.iload 6, 2) := by decide +kernel
theorem d_Reader_readDirectory_51 : decode b_Reader_readDirectory 51 = .ok (.ifCond .ne 21, 3) := by decide +kernel
theorem d_Reader_readDirectory_54 : decode b_Reader_readDirectory 54 = .ok (.iload 4, 2) := by decide +kernel
theorem d_Reader_readDirectory_56 : decode b_Reader_readDirectory 56 = .ok (.sipush 2048, 3) := by decide +kernel
theorem d_Reader_readDirectory_59 : decode b_Reader_readDirectory 59 = .ok (.iload 4, 2) := by decide +kernel
theorem d_Reader_readDirectory_61 : decode b_Reader_readDirectory 61 = .ok (.sipush 2048, 3) := by decide +kernel
theorem d_Reader_readDirectory_64 : decode b_Reader_readDirectory 64 = .ok (.irem, 1) := by decide +kernel
theorem d_Reader_readDirectory_65 : decode b_Reader_readDirectory 65 = .ok (.isub, 1) := by decide +kernel
theorem d_Reader_readDirectory_66 : decode b_Reader_readDirectory 66 = .ok (.iadd, 1) := by decide +kernel
theorem d_Reader_readDirectory_67 : decode b_Reader_readDirectory 67 = .ok (.istore 4, 2) := by decide +kernel
theorem d_Reader_readDirectory_69 : decode b_Reader_readDirectory 69 = .ok (.goto (-37), 3) := by decide +kernel
theorem d_Reader_readDirectory_72 : decode b_Reader_readDirectory 72 = .ok (.aload_n 0, 1) := by decide +kernel
theorem d_Reader_readDirectory_73 : decode b_Reader_readDirectory 73 = .ok (.iload 4, 2) := by decide +kernel
theorem d_Reader_readDirectory_75 : decode b_Reader_readDirectory 75 = .ok (.invokevirtual 86, 3) := by decide +kernel
theorem d_Reader_readDirectory_78 : decode b_Reader_readDirectory 78 = .ok (.ifCond .eq 34, 3) := by decide +kernel
theorem d_Reader_readDirectory_81 : decode b_Reader_readDirectory 81 = .ok (.iload 5, 2) := by decide +kernel
theorem d_Reader_readDirectory_83 : decode b_Reader_readDirectory 83 = .ok (.iconst 2, 1) := by decide +kernel
theorem d_Reader_readDirectory_84 : decode b_Reader_readDirectory 84 = .ok (.if_icmp .ge 18, 3) := by decide +kernel
theorem d_Reader_readDirectory_87 : decode b_Reader_readDirectory 87 = .ok (.aload_n 0, 1) := by decide +kernel
theorem d_Reader_readDirectory_88 : decode b_Reader_readDirectory 88 = .ok (.iload_n 1, 1) := by decide +kernel
theorem d_Reader_readDirectory_89 : decode b_Reader_readDirectory 89 = .ok (.iload 4, 2) := by decide +kernel
theorem d_Reader_readDirectory_91 : decode b_Reader_readDirectory 91 = .ok (.iload 5, 2) := by decide +kernel
theorem d_Reader_readDirectory_93 : decode b_Reader_readDirectory 93 = .ok (.invokevirtual 102, 3) := by decide +kernel
theorem d_Reader_readDirectory_96 : decode b_Reader_readDirectory 96 = .ok (.ifCond .eq 16, 3) := by decide +kernel
theorem d_Reader_readDirectory_99 : decode b_Reader_readDirectory 99 = .ok (.goto 16, 3) := by decide +kernel
theorem d_Reader_readDirectory_102 : decode b_Reader_readDirectory 102 = .ok (.aload_n 0, 1) := by decide +kernel
theorem d_Reader_readDirectory_103 : decode b_Reader_readDirectory 103 = .ok (.iload_n 1, 1) := by decide +kernel
theorem d_Reader_readDirectory_104 : decode b_Reader_readDirectory 104 = .ok (.iload 4, 2) := by decide +kernel
theorem d_Reader_readDirectory_106 : decode b_Reader_readDirectory 106 = .ok (.invokevirtual 106, 3) := by decide +kernel
theorem d_Reader_readDirectory_109 : decode b_Reader_readDirectory 109 = .ok (.ifCond .ne 6, 3) := by decide +kernel
theorem d_Reader_readDirectory_112 : decode b_Reader_readDirectory 112 = .ok (.iload 4, 2) := by decide +kernel
theorem d_Reader_readDirectory_114 : decode b_Reader_readDirectory 114 = .ok (.ireturn, 1) := by decide +kernel
theorem d_Reader_readDirectory_115 : decode b_Reader_readDirectory 115 = .ok (.iconst (-1), 1) := by decide +kernel
theorem d_Reader_readDirectory_116 : decode b_Reader_readDirectory 116 = .ok (.istore 7, 2) := by decide +kernel
theorem d_Reader_readDirectory_118 : decode b_Reader_readDirectory 118 = .ok (.iload 5, 2) := by decide +kernel
theorem d_Reader_readDirectory_120 : decode b_Reader_readDirectory 120 = .ok (.iconst 2, 1) := by decide +kernel
theorem d_Reader_readDirectory_121 : decode b_Reader_readDirectory 121 = .ok (.if_icmp .lt 25, 3) := by decide +kernel
theorem d_Reader_readDirectory_124 : decode b_Reader_readDirectory 124 = .ok (.aload_n 0, 1) := by decide +kernel
theorem d_Reader_readDirectory_125 : decode b_Reader_readDirectory 125 = .ok (.aload_n 0, 1) := by decide +kernel
theorem d_Reader_readDirectory_126 : decode b_Reader_readDirectory 126 = .ok (.getfield 11, 3) := by decide +kernel
theorem d_Reader_readDirectory_129 : decode b_Reader_readDirectory 129 = .ok (.aload_n 0, 1) := by decide +kernel
theorem d_Reader_readDirectory_130 : decode b_Reader_readDirectory 130 = .ok (.getfield 30, 3) := by decide +kernel
theorem d_Reader_readDirectory_133 : decode b_Reader_readDirectory 133 = .ok (.iconst 1, 1) := by decide +kernel
theorem d_Reader_readDirectory_134 : decode b_Reader_readDirectory 134 = .ok (.isub, 1) := by decide +kernel
theorem d_Reader_readDirectory_135 : decode b_Reader_readDirectory 135 = .ok (.aaload, 1) := by decide +kernel
theorem d_Reader_readDirectory_136 : decode b_Reader_readDirectory 136 = .ok (.iload 4, 2) := by decide +kernel
theorem d_Reader_readDirectory_138 : decode b_Reader_readDirectory 138 = .ok (.invokevirtual 109, 3) := by decide +kernel
theorem d_Reader_readDirectory_141 : decode b_Reader_readDirectory 141 = .ok (.istore 7, 2) := by decide +kernel
theorem d_Reader_readDirectory_143 : decode b_Reader_readDirectory 143 = .ok (.goto 20, 3) := by decide +kernel
theorem d_Reader_readDirectory_146 : decode b_Reader_readDirectory 146 = .ok (.iload_n 1, 1) := by decide +kernel
theorem d_Reader_readDirectory_147 : decode b_Reader_readDirectory 147 = .ok (.ifCond .ne 16, 3) := by decide +kernel
theorem d_Reader_readDirectory_150 : decode b_Reader_readDirectory 150 = .ok (.iload 5, 2) := by decide +kernel
theorem d_Reader_readDirectory_152 : decode b_Reader_readDirectory 152 = .ok (.ifCond .ne 11, 3) := by decide +kernel
theorem d_Reader_readDirectory_155 : decode b_Reader_readDirectory 155 = .ok (.aload_n 0, 1) := by decide +kernel
theorem d_Reader_readDirectory_156 : decode b_Reader_readDirectory 156 = .ok (.iload 4, 2) := by decide +kernel
theorem d_Reader_readDirectory_158 : decode b_Reader_readDirectory 158 = .ok (.invokevirtual 113, 3) := by decide +kernel
theorem d_Reader_readDirectory_161 : decode b_Reader_readDirectory 161 = .ok (.istore 7, 2) := by decide +kernel
theorem d_Reader_readDirectory_163 : decode b_Reader_readDirectory 163 = .ok (.iload 7, 2) := by decide +kernel
theorem d_Reader_readDirectory_165 : decode b_Reader_readDirectory 165 = .ok (.iconst (-1), 1) := by decide +kernel
theorem d_Reader_readDirectory_166 : decode b_Reader_readDirectory 166 = .ok (.if_icmp .eq 6, 3) := by decide +kernel
theorem d_Reader_readDirectory_169 : decode b_Reader_readDirectory 169 = .ok (.iload 7, 2) := by decide +kernel
theorem d_Reader_readDirectory_171 : decode b_Reader_readDirectory 171 = .ok (.ireturn, 1) := by decide +kernel
theorem d_Reader_readDirectory_172 : decode b_Reader_readDirectory 172 = .ok (.iinc 5 1, 3) := by decide +kernel
theorem d_Reader_readDirectory_175 : decode b_Reader_readDirectory 175 = .ok (.iload 4, 2) := by decide +kernel
theorem d_Reader_readDirectory_177 : decode b_Reader_readDirectory 177 = .ok (.iload 6, 2) := by decide +kernel
theorem d_Reader_readDirectory_179 : decode b_Reader_readDirectory 179 = .ok (.iadd, 1) := by decide +kernel
theorem d_Reader_readDirectory_180 : decode b_Reader_readDirectory 180 = .ok (.istore 4, 2) := by decide +kernel
theorem d_Reader_readDirectory_182 : decode b_Reader_readDirectory 182 = .ok (.goto (-150), 3) := by decide +kernel
theorem d_Reader_readDirectory_185 : decode b_Reader_readDirectory 185 = .ok (.iload 5, 2) := by decide +kernel
theorem d_Reader_readDirectory_187 : decode b_Reader_readDirectory 187 = .ok (.iconst 2, 1) := by decide +kernel
theorem d_Reader_readDirectory_188 : decode b_Reader_readDirectory 188 = .ok (.if_icmp .ge 7, 3) := by decide +kernel
theorem d_Reader_readDirectory_191 : decode b_Reader_readDirectory 191 = .ok (.iload_n 2, 1) := by decide +kernel
theorem d_Reader_readDirectory_192 : decode b_Reader_readDirectory 192 = .ok (.goto 4, 3) := by decide +kernel
theorem d_Reader_readDirectory_195 : decode b_Reader_readDirectory 195 = .ok (.iconst (-1), 1) := by decide +kernel
theorem d_Reader_readDirectory_196 : decode b_Reader_readDirectory 196 = .ok (.ireturn, 1) := by decide +kernel
set_option maxHeartbeats 4000000 in
set_option maxRecDepth 100000 in
theorem c3_readDirectory (l : Launch) (D : va_G) (cB cI cJ cZ cN cF : ClassId) (sz : Nat) (h0 : Nat) (pr : Nat) (ra : Nat) (im : Nat) (iq : Nat) (n : Nat) (L : Int32) (f : Nat → Int32) (cn : Int32) (vw : Int32) (wr : Int32) (fw : Value) (nm : Int32) (co : Int32) (ta : Int32) (lc : Int32) (fa : Nat → Nat → Nat) (ga : Nat → Nat → Int32) (cf : Nat → Nat → Nat → Int32) (md : Nat) (T0 : Nat) (x : Int32) (hL : 0 ≤ L.toInt ∧ L.toInt ≤ n) (hn : n ≤ 3000000) (hcn : 0 ≤ cn.toInt ∧ cn.toInt ≤ md) (hmd : md ≤ 99) (hx : 0 ≤ x.toInt ∧ x.toInt < cn.toInt) (hs0 : (ga x.toNatClampNeg 2).toInt = 0) (hrok : ROK L.toInt cn.toInt ga) (h00 : x.toInt = 0 → (ga 0 9).toInt = 0) : Met l y_Reader_readDirectory w_Reader_readDirectory ({ frames := 5, cells := 300, slots := 47300, locals := 155 }) (va_Pc [.ref h0, .int x] (fun U => U.heap.size = sz ∧ va_P D CL (([(h0, .inr (7, [.ref im, .ref pr, .ref ra, .int cn, .int vw, .int wr])), (ra, .inl (cF, 99, .inr (.inr (.inr (.inr (rowF fa md)))))), (pr, .inr (6, [.ref im, fw, .int nm, .int co, .int ta, .int lc])), (im, .inr (1, [.ref iq, .int L])), (iq, .inl (cB, n, .inl f))] : va_W) ++ (PL (FC cB fa ga cf) md)) U.heap ∧ va_K D CL (TY cB cI cJ cZ cN cF) U ∧ NN U ∧ va_D (fun _ => True) (([(h0, .inr (7, [.ref im, .ref pr, .ref ra, .int cn, .int vw, .int wr])), (ra, .inl (cF, 99, .inr (.inr (.inr (.inr (rowF fa md)))))), (pr, .inr (6, [.ref im, fw, .int nm, .int co, .int ta, .int lc])), (im, .inr (1, [.ref iq, .int L])), (iq, .inl (cB, n, .inl f))] : va_W) ++ (PL (FC cB fa ga cf) md)) ∧ TOT T0 (va_A (([(h0, .inr (7, [.ref im, .ref pr, .ref ra, .int cn, .int vw, .int wr])), (ra, .inl (cF, 99, .inr (.inr (.inr (.inr (rowF fa md)))))), (pr, .inr (6, [.ref im, fw, .int nm, .int co, .int ta, .int lc])), (im, .inr (1, [.ref iq, .int L])), (iq, .inl (cB, n, .inl f))] : va_W) ++ (PL (FC cB fa ga cf) md)) sz) U U.heap)) (va_Qi (fun (r : Int32) (u : Value × Int32 × Int32 × Int32 × Int32 × Int32 × (Nat → Nat → Nat) × (Nat → Nat → Int32) × (Nat → Nat → Nat → Int32) × Nat) => match u with | (fw2, nm2, co2, ta2, lc2, cn2, fa2, ga2, cf2, md2) => (cn.toInt ≤ cn2.toInt ∧ cn2.toInt ≤ md2 ∧ md ≤ md2 ∧ md2 ≤ 99) ∧ (r.toInt = -1 → ROK L.toInt cn2.toInt ga2)) (fun (u : Value × Int32 × Int32 × Int32 × Int32 × Int32 × (Nat → Nat → Nat) × (Nat → Nat → Int32) × (Nat → Nat → Nat → Int32) × Nat) (t : State) => match u with | (fw2, nm2, co2, ta2, lc2, cn2, fa2, ga2, cf2, md2) => (t.heap.size ≤ sz + 3 * (md2 - md) ∧ tot t.heap ≤ T0 + 473 * (md2 - md)) ∧ va_P D CL (([(h0, .inr (7, [.ref im, .ref pr, .ref ra, .int cn2, .int vw, .int wr])), (ra, .inl (cF, 99, .inr (.inr (.inr (.inr (rowF fa2 md2)))))), (pr, .inr (6, [.ref im, fw2, .int nm2, .int co2, .int ta2, .int lc2])), (im, .inr (1, [.ref iq, .int L])), (iq, .inl (cB, n, .inl f))] : va_W) ++ (PL (FC cB fa2 ga2 cf2) md2)) t.heap ∧ va_D (va_A (([(h0, .inr (7, [.ref im, .ref pr, .ref ra, .int cn, .int vw, .int wr])), (ra, .inl (cF, 99, .inr (.inr (.inr (.inr (rowF fa md)))))), (pr, .inr (6, [.ref im, fw, .int nm, .int co, .int ta, .int lc])), (im, .inr (1, [.ref iq, .int L])), (iq, .inl (cB, n, .inl f))] : va_W) ++ (PL (FC cB fa ga cf) md)) sz) (([(h0, .inr (7, [.ref im, .ref pr, .ref ra, .int cn2, .int vw, .int wr])), (ra, .inl (cF, 99, .inr (.inr (.inr (.inr (rowF fa2 md2)))))), (pr, .inr (6, [.ref im, fw2, .int nm2, .int co2, .int ta2, .int lc2])), (im, .inr (1, [.ref iq, .int L])), (iq, .inl (cB, n, .inl f))] : va_W) ++ (PL (FC cB fa2 ga2 cf2) md2))) (va_A (([(h0, .inr (7, [.ref im, .ref pr, .ref ra, .int cn, .int vw, .int wr])), (ra, .inl (cF, 99, .inr (.inr (.inr (.inr (rowF fa md)))))), (pr, .inr (6, [.ref im, fw, .int nm, .int co, .int ta, .int lc])), (im, .inr (1, [.ref iq, .int L])), (iq, .inl (cB, n, .inl f))] : va_W) ++ (PL (FC cB fa ga cf) md)) sz)) 300 47300 (va_A (([(h0, .inr (7, [.ref im, .ref pr, .ref ra, .int cn, .int vw, .int wr])), (ra, .inl (cF, 99, .inr (.inr (.inr (.inr (rowF fa md)))))), (pr, .inr (6, [.ref im, fw, .int nm, .int co, .int ta, .int lc])), (im, .inr (1, [.ref iq, .int L])), (iq, .inl (cB, n, .inl f))] : va_W) ++ (PL (FC cB fa ga cf) md)) sz) := by
  refine Met.ofW (cc := b_Reader_readDirectory) (maxL := 8) (ret := some .int) (by decide +kernel) rfl ?_
  intro p e s m args below meth c s₁ B hml hv
  obtain ⟨rfl, hsz, hP, hK, hN, hD0, hZq⟩ := hv
  have hx := B.exec
  have hb := B.bytes
  have hr := B.returns
  have hts := atoms_spec (ws := w_Reader_readDirectory) B.pre
  have ht9 := fun (w : Cond) (h : w ∈ lw_g) => hts w (List.mem_cons_of_mem _ h)
  have hown : s.vm.findClass "DiscMaker$Reader" = some m.cls := findClass_of_methodNamed B.named
  have hlocks := B.notSynchronized
  subst hsz
  have hD := hD0.self (sz := s.heap.size)
  generalize hAe : va_A (([(h0, .inr (7, [.ref im, .ref pr, .ref ra, .int cn, .int vw, .int wr])), (ra, .inl (cF, 99, .inr (.inr (.inr (.inr (rowF fa md)))))), (pr, .inr (6, [.ref im, fw, .int nm, .int co, .int ta, .int lc])), (im, .inr (1, [.ref iq, .int L])), (iq, .inl (cB, n, .inl f))] : va_W) ++ (PL (FC cB fa ga cf) md)) s.heap.size = A at hD hZq ⊢
  have hA : ∀ q : Nat, s.heap.size ≤ q → A q := fun q h => by rw [← hAe]; exact Or.inr h
  have hS : va_S A s.heap s.heap [] := va_S.rf
  have hP : va_P D CL (([(h0, .inr (7, [.ref im, .ref pr, .ref ra, .int cn, .int vw, .int wr])), (ra, .inl (cF, 99, .inr (.inr (.inr (.inr (rowF fa md)))))), (pr, .inr (6, [.ref im, fw, .int nm, .int co, .int ta, .int lc])), (im, .inr (1, [.ref iq, .int L])), (iq, .inl (cB, n, .inl f))] : va_W) ++ (PL (FC cB fa ga cf) md)) s.heap := hP
  have hl := lv_entry [.ref h0, .int x] (n := 8) (Nat.le_of_ble_eq_true rfl)
  rw [lg_entry_eq]
  generalize (lg_sl [.ref h0, .int x] ++ List.replicate (8 - (lg_sl [.ref h0, .int x]).length) Slot.unset).toArray = ls at hl ⊢
  have hl : lv_has ls 8 [(0, .ref h0), (1, .int x)] := hl
  have L_m1 : ((-1) : Int32).toInt = (-1) := by decide
  have L_0 : (0 : Int32).toInt = 0 := by decide
  have L_1 : (1 : Int32).toInt = 1 := by decide
  have L_2 : (2 : Int32).toInt = 2 := by decide
  have L_2048 : (2048 : Int32).toInt = 2048 := by decide
  have hxc := i_cl (a := x) (by omega)
  have hr0 := hrok x.toNatClampNeg (by omega)
  refine lv_aload_n hx hb d_Reader_readDirectory_0 rfl (lv_at hl 0 rfl) ?_
  refine va_get (D := D) (ci := 7) (v := .ref ra) (C := "DiscMaker$Reader") (T := F_Reader) (N := 6) hx hb ht9 in_Reader hown hK hP 0 rfl rfl 2 (by decide) (ht9 _ k414) (fun _ h9 => h9) rfl d_Reader_readDirectory_1 ?_
  refine lv_iload_n hx hb d_Reader_readDirectory_4 rfl (lv_at hl 1 rfl) ?_
  refine va_aldq hx hb hK hP 1 5 rfl rfl (vp_in_iff.mpr ⟨by omega, by omega⟩) d_Reader_readDirectory_5 ?_
  have hk1 : x.toNatClampNeg < md := by have := i_cl (a := x) (by omega); omega
  obtain ⟨i_hj2, hj2⟩ : ∃ j : Nat, (PL (FC cB fa ga cf) md)[j]? = some ((fa x.toNatClampNeg 0), .inr (2, [.ref (fa x.toNatClampNeg 1), .ref (fa x.toNatClampNeg 2), .int (ga x.toNatClampNeg 0), .int (ga x.toNatClampNeg 1), .int (ga x.toNatClampNeg 2), .int (ga x.toNatClampNeg 3), .int (ga x.toNatClampNeg 4), .int (ga x.toNatClampNeg 5), .int (ga x.toNatClampNeg 6), .int (ga x.toNatClampNeg 7), .int (ga x.toNatClampNeg 8), .int (ga x.toNatClampNeg 9), .int (ga x.toNatClampNeg 10)])) := PL_get (i := 0) hk1 rfl
  refine W.eq (g2 := F0 m 6 ls [.ref (fa x.toNatClampNeg 0)]) (by rw [show rowF fa md x.toNatClampNeg = some (fa x.toNatClampNeg 0) from rowF_some hk1]; rfl) ?_
  refine va_getN (D := D) (ci := 2) (v := .int (ga x.toNatClampNeg 4)) (C := "DiscMaker$Found") (T := F_Found) (N := 13) hx hb ht9 in_Found hown hK hP _ (pix (X := [(h0, .inr (7, [.ref im, .ref pr, .ref ra, .int cn, .int vw, .int wr])), (ra, .inl (cF, 99, .inr (.inr (.inr (.inr (rowF fa md)))))), (pr, .inr (6, [.ref im, fw, .int nm, .int co, .int ta, .int lc])), (im, .inr (1, [.ref iq, .int L])), (iq, .inl (cB, n, .inl f))]) hj2) rfl 6 (by decide) (va_Nw.use rfl (hN _ k1238)) (fun _ h9 => h9) rfl d_Reader_readDirectory_6 ?_
  refine lv_sipush (v := 2048) hx hb d_Reader_readDirectory_9 (by decide) ?_
  refine lv_imul hx hb d_Reader_readDirectory_12 ?_
  refine lv_topi (fun v3 e_v3 => ?_)
  have t_v3 : v3.toInt = (ga x.toNatClampNeg 4).toInt * 2048 := by rw [e_v3]; exact i_mul rfl (by decide) (by omega) (by omega)
  refine lv_istore_n hx hb d_Reader_readDirectory_13 rfl hl (by decide) rfl (fun ls hl => ?_)
  have hl : lv_has ls 8 [(2, .int v3), (0, .ref h0), (1, .int x)] := hl
  refine lv_iload_n hx hb d_Reader_readDirectory_14 rfl (lv_at hl 0 rfl) ?_
  refine lv_aload_n hx hb d_Reader_readDirectory_15 rfl (lv_at hl 1 rfl) ?_
  refine va_get (D := D) (ci := 7) (v := .ref ra) (C := "DiscMaker$Reader") (T := F_Reader) (N := 6) hx hb ht9 in_Reader hown hK hP 0 rfl rfl 2 (by decide) (ht9 _ k414) (fun _ h9 => h9) rfl d_Reader_readDirectory_16 ?_
  refine lv_iload_n hx hb d_Reader_readDirectory_19 rfl (lv_at hl 2 rfl) ?_
  refine va_aldq hx hb hK hP 1 5 rfl rfl (vp_in_iff.mpr ⟨by omega, by omega⟩) d_Reader_readDirectory_20 ?_
  have hk4 : x.toNatClampNeg < md := by have := i_cl (a := x) (by omega); omega
  obtain ⟨i_hj5, hj5⟩ : ∃ j : Nat, (PL (FC cB fa ga cf) md)[j]? = some ((fa x.toNatClampNeg 0), .inr (2, [.ref (fa x.toNatClampNeg 1), .ref (fa x.toNatClampNeg 2), .int (ga x.toNatClampNeg 0), .int (ga x.toNatClampNeg 1), .int (ga x.toNatClampNeg 2), .int (ga x.toNatClampNeg 3), .int (ga x.toNatClampNeg 4), .int (ga x.toNatClampNeg 5), .int (ga x.toNatClampNeg 6), .int (ga x.toNatClampNeg 7), .int (ga x.toNatClampNeg 8), .int (ga x.toNatClampNeg 9), .int (ga x.toNatClampNeg 10)])) := PL_get (i := 0) hk4 rfl
  refine W.eq (g2 := F0 m 21 ls [.ref (fa x.toNatClampNeg 0), .int v3]) (by rw [show rowF fa md x.toNatClampNeg = some (fa x.toNatClampNeg 0) from rowF_some hk4]; rfl) ?_
  refine va_getN (D := D) (ci := 2) (v := .int (ga x.toNatClampNeg 3)) (C := "DiscMaker$Found") (T := F_Found) (N := 13) hx hb ht9 in_Found hown hK hP _ (pix (X := [(h0, .inr (7, [.ref im, .ref pr, .ref ra, .int cn, .int vw, .int wr])), (ra, .inl (cF, 99, .inr (.inr (.inr (.inr (rowF fa md)))))), (pr, .inr (6, [.ref im, fw, .int nm, .int co, .int ta, .int lc])), (im, .inr (1, [.ref iq, .int L])), (iq, .inl (cB, n, .inl f))]) hj5) rfl 5 (by decide) (va_Nw.use rfl (hN _ k1235)) (fun _ h9 => h9) rfl d_Reader_readDirectory_21 ?_
  refine lv_iadd hx hb d_Reader_readDirectory_24 ?_
  refine lv_topi (fun v6 e_v6 => ?_)
  have t_v6 : v6.toInt = v3.toInt + (ga x.toNatClampNeg 3).toInt := by rw [e_v6]; exact i_add rfl rfl (by omega) (by omega)
  refine lv_istore_n hx hb d_Reader_readDirectory_25 rfl hl (by decide) rfl (fun ls hl => ?_)
  have hl : lv_has ls 8 [(3, .int v6), (2, .int v3), (0, .ref h0), (1, .int x)] := hl
  refine lv_iload_n hx hb d_Reader_readDirectory_26 rfl (lv_at hl 1 rfl) ?_
  refine lv_istore hx hb d_Reader_readDirectory_27 hl (by decide) rfl (fun ls hl => ?_)
  have hl : lv_has ls 8 [(4, .int v3), (3, .int v6), (2, .int v3), (0, .ref h0), (1, .int x)] := hl
  refine lv_iconst (v := 0) hx hb d_Reader_readDirectory_29 (by decide) ?_
  refine lv_istore hx hb d_Reader_readDirectory_30 hl (by decide) rfl (fun ls hl => ?_)
  have hl : lv_has ls 8 [(5, .int 0), (4, .int v3), (3, .int v6), (2, .int v3), (0, .ref h0), (1, .int x)] := hl
  refine zz_know (fun hk0 hn0 => ?_)
  refine W.widen (k := 297) (n := 46827) (by decide) (by decide) ?_
  refine zz_labM (B := fun (lk : Nat) (K : Heap → List Loc → Array Slot → List Value → Prop) => ∀ (bg : Int32) (en : Int32) (la : Int32) (re9 : Int32) (lcn : Int32) (lfw : Value) (lnm : Int32) (lco : Int32) (lta : Int32) (llc : Int32) (lfa : Nat → Nat → Nat) (lga : Nat → Nat → Int32) (lcf : Nat → Nat → Nat → Int32) (lmd : Nat) (H : Heap) (locs : List Loc) (ls : Array Slot), lk = (5000000 - la.toInt).toNat → (0 ≤ bg.toInt ∧ bg.toInt ≤ en.toInt ∧ en.toInt ≤ L.toInt) → (bg.toInt ≤ la.toInt ∧ la.toInt ≤ en.toInt + 2048) → (0 ≤ re9.toInt ∧ re9.toInt ≤ la.toInt - bg.toInt) → (cn.toInt ≤ lcn.toInt ∧ lcn.toInt ≤ lmd ∧ md ≤ lmd ∧ lmd ≤ 99) → (H.size ≤ s.heap.size + 3 * (lmd - md) ∧ tot H ≤ tot s.heap + 473 * (lmd - md)) → (ROK L.toInt lcn.toInt lga) → (x.toInt = 0 → re9.toInt = 0 → (lga 0 9).toInt = 0) → va_P D CL (([(h0, .inr (7, [.ref im, .ref pr, .ref ra, .int lcn, .int vw, .int wr])), (ra, .inl (cF, 99, .inr (.inr (.inr (.inr (rowF lfa lmd)))))), (pr, .inr (6, [.ref im, lfw, .int lnm, .int lco, .int lta, .int llc])), (im, .inr (1, [.ref iq, .int L])), (iq, .inl (cB, n, .inl f))] : va_W) ++ (PL (FC cB lfa lga lcf) lmd)) H → va_D A (([(h0, .inr (7, [.ref im, .ref pr, .ref ra, .int lcn, .int vw, .int wr])), (ra, .inl (cF, 99, .inr (.inr (.inr (.inr (rowF lfa lmd)))))), (pr, .inr (6, [.ref im, lfw, .int lnm, .int lco, .int lta, .int llc])), (im, .inr (1, [.ref iq, .int L])), (iq, .inl (cB, n, .inl f))] : va_W) ++ (PL (FC cB lfa lga lcf) lmd)) → va_S A s.heap H locs → lv_has ls 8 [(0, .ref h0), (1, .int x), (2, .int bg), (3, .int en), (4, .int la), (5, .int re9)] → K H locs ls []) 32 ?_ ?_
  · skip
    intro lk ih32 bg en la re9 lcn lfw lnm lco lta llc lfa lga lcf lmd H locs ls hm32 e1 e2 e3 e4 e5 e9 e10 hP hD hS hl
    refine zz_tightT (k := (3 * (lmd - md))) (n := (473 * (lmd - md))) e5.1 e5.2 ?_
    refine lv_iload hx hb d_Reader_readDirectory_32 (lv_at hl 4 rfl) ?_
    refine lv_iload_n hx hb d_Reader_readDirectory_34 rfl (lv_at hl 3 rfl) ?_
    refine lv_icmp_ge (tgt := 185) hx hb d_Reader_readDirectory_35 (by decide) (fun h_9 => ?_) (fun h_9 => ?_)
    · skip
      have g35_23 : en.toInt ≤ la.toInt := (i_le rfl rfl).mp h_9
      refine lv_iload hx hb d_Reader_readDirectory_185 (lv_at hl 5 rfl) ?_
      refine lv_iconst (v := 2) hx hb d_Reader_readDirectory_187 (by decide) ?_
      refine lv_icmp_ge (tgt := 195) hx hb d_Reader_readDirectory_188 (by decide) (fun h_9 => ?_) (fun h_9 => ?_)
      · skip
        have g188_26 : 2 ≤ re9.toInt := (i_le (by decide) rfl).mp h_9
        refine lv_iconst (v := (-1)) hx hb d_Reader_readDirectory_195 (by decide) ?_
        have hT0 : tot s.heap = T0 := hZq
        refine zz_know (fun hk9 hn9 => ?_)
        have hP9 := hP.part (X := [(h0, .inr (7, [.ref im, .ref pr, .ref ra, .int lcn, .int vw, .int wr])), (ra, .inl (cF, 99, .inr (.inr (.inr (.inr (rowF lfa lmd)))))), (pr, .inr (6, [.ref im, lfw, .int lnm, .int lco, .int lta, .int llc])), (im, .inr (1, [.ref iq, .int L])), (iq, .inl (cB, n, .inl f))]) (cx := [(h0, .inr (7, [.ref im, .ref pr, .ref ra, .int lcn, .int vw, .int wr])), (ra, .inl (cF, 99, .inr (.inr (.inr (.inr (rowF lfa lmd)))))), (pr, .inr (6, [.ref im, lfw, .int lnm, .int lco, .int lta, .int llc])), (im, .inr (1, [.ref iq, .int L])), (iq, .inl (cB, n, .inl f))]) [0, 1, 2, 3, 4] rfl
        have hD9 := hD.part (X := [(h0, .inr (7, [.ref im, .ref pr, .ref ra, .int lcn, .int vw, .int wr])), (ra, .inl (cF, 99, .inr (.inr (.inr (.inr (rowF lfa lmd)))))), (pr, .inr (6, [.ref im, lfw, .int lnm, .int lco, .int lta, .int llc])), (im, .inr (1, [.ref iq, .int L])), (iq, .inl (cB, n, .inl f))]) (cx := [(h0, .inr (7, [.ref im, .ref pr, .ref ra, .int lcn, .int vw, .int wr])), (ra, .inl (cF, 99, .inr (.inr (.inr (.inr (rowF lfa lmd)))))), (pr, .inr (6, [.ref im, lfw, .int lnm, .int lco, .int lta, .int llc])), (im, .inr (1, [.ref iq, .int L])), (iq, .inl (cB, n, .inl f))]) [0, 1, 2, 3, 4] (by decide +kernel) rfl
        refine W.widen (k := 300) (n := 47300) (by omega) (by omega) ?_
        exact W.iret (v := (-1)) hx hb hr (fun t ht hW => ⟨⟨(-1), (lfw, lnm, lco, lta, llc, lcn, lfa, lga, lcf, lmd), rfl, ⟨(by (try dsimp only); first | assumption | omega | trivial), (by (try dsimp only); intro h7; first | (exfalso; omega) | exact e9)⟩, ⟨by rw [ht]; omega, by rw [ht]; omega⟩, by rw [ht]; exact hP9, hD9⟩, hS.F ht⟩) hS.2.2 d_Reader_readDirectory_196
      · skip
        have g188_26 : ¬ 2 ≤ re9.toInt := fun h8 => h_9 ((i_le (by decide) rfl).mpr h8)
        refine lv_iload_n hx hb d_Reader_readDirectory_191 rfl (lv_at hl 2 rfl) ?_
        refine lv_goto (tgt := 196) hx hb d_Reader_readDirectory_192 (by decide) ?_
        have hT0 : tot s.heap = T0 := hZq
        refine zz_know (fun hk9 hn9 => ?_)
        have hP9 := hP.part (X := [(h0, .inr (7, [.ref im, .ref pr, .ref ra, .int lcn, .int vw, .int wr])), (ra, .inl (cF, 99, .inr (.inr (.inr (.inr (rowF lfa lmd)))))), (pr, .inr (6, [.ref im, lfw, .int lnm, .int lco, .int lta, .int llc])), (im, .inr (1, [.ref iq, .int L])), (iq, .inl (cB, n, .inl f))]) (cx := [(h0, .inr (7, [.ref im, .ref pr, .ref ra, .int lcn, .int vw, .int wr])), (ra, .inl (cF, 99, .inr (.inr (.inr (.inr (rowF lfa lmd)))))), (pr, .inr (6, [.ref im, lfw, .int lnm, .int lco, .int lta, .int llc])), (im, .inr (1, [.ref iq, .int L])), (iq, .inl (cB, n, .inl f))]) [0, 1, 2, 3, 4] rfl
        have hD9 := hD.part (X := [(h0, .inr (7, [.ref im, .ref pr, .ref ra, .int lcn, .int vw, .int wr])), (ra, .inl (cF, 99, .inr (.inr (.inr (.inr (rowF lfa lmd)))))), (pr, .inr (6, [.ref im, lfw, .int lnm, .int lco, .int lta, .int llc])), (im, .inr (1, [.ref iq, .int L])), (iq, .inl (cB, n, .inl f))]) (cx := [(h0, .inr (7, [.ref im, .ref pr, .ref ra, .int lcn, .int vw, .int wr])), (ra, .inl (cF, 99, .inr (.inr (.inr (.inr (rowF lfa lmd)))))), (pr, .inr (6, [.ref im, lfw, .int lnm, .int lco, .int lta, .int llc])), (im, .inr (1, [.ref iq, .int L])), (iq, .inl (cB, n, .inl f))]) [0, 1, 2, 3, 4] (by decide +kernel) rfl
        refine W.widen (k := 300) (n := 47300) (by omega) (by omega) ?_
        exact W.iret (v := bg) hx hb hr (fun t ht hW => ⟨⟨bg, (lfw, lnm, lco, lta, llc, lcn, lfa, lga, lcf, lmd), rfl, ⟨(by (try dsimp only); first | assumption | omega | trivial), (by (try dsimp only); intro h7; first | (exfalso; omega) | exact e9)⟩, ⟨by rw [ht]; omega, by rw [ht]; omega⟩, by rw [ht]; exact hP9, hD9⟩, hS.F ht⟩) hS.2.2 d_Reader_readDirectory_196
    · skip
      have g35_23 : ¬ en.toInt ≤ la.toInt := fun h8 => h_9 ((i_le rfl rfl).mpr h8)
      refine lv_aload_n hx hb d_Reader_readDirectory_38 rfl (lv_at hl 0 rfl) ?_
      refine va_get (D := D) (ci := 7) (v := .ref im) (C := "DiscMaker$Reader") (T := F_Reader) (N := 6) hx hb ht9 in_Reader hown hK hP 0 rfl rfl 0 (by decide) (ht9 _ k412) (fun _ h9 => h9) rfl d_Reader_readDirectory_39 ?_
      refine lv_iload hx hb d_Reader_readDirectory_42 (lv_at hl 4 rfl) ?_
      have hPc := hP.sub (ws' := [(im, .inr (1, [.ref iq, .int L])), (iq, .inl (cB, n, .inl f))]) [3, 4] rfl
      have hDc := hD.sub (ws' := [(im, .inr (1, [.ref iq, .int L])), (iq, .inl (cB, n, .inl f))]) [3, 4] (by decide +kernel) rfl
      have hFc := va_free (wc := [(im, .inr (1, [.ref iq, .int L])), (iq, .inl (cB, n, .inl f))]) hD hS hA [3, 4] rfl
      have hkc : (3 * (lmd - md)) + 0 ≤ 300 := by omega
      have hks : (473 * (lmd - md)) + 0 ≤ 47300 := by omega
      refine va_calli (va_runV (C := "DiscMaker$Bytes") (As := [.int la]) (rest := []) ⟨hx, hb, hml, hown, hts⟩ (c3_at l D cB cI cJ cZ cN cF H.size im iq n L f la (by (try dsimp only); first | assumption | omega | trivial) (by (try dsimp only); first | assumption | omega | trivial)) (cwV 1 hts (lg_goodV k1179 k1065 k1066 k119 kc_Bytes_at) rfl rfl rfl (by decide +kernel) ⟨Nat.le_of_ble_eq_true rfl, Nat.le_of_ble_eq_true rfl⟩) ⟨fun a U g mk q => by obtain ⟨q0, q1, qP, qK, qN, qD⟩ := q; exact ⟨q0, q1, qP, va_K.moved (u := U) (U := U.calling g mk a) (Vm.Alike.refl U.vm) qK, qN.calling, qD⟩, va_recv hK hP (ci := 1) (q0 := 3) rfl rfl, fun U hU hW => ⟨rfl, by rw [hU], by rw [hU]; exact hPc, va_K.moved hW.alike hK, NN.warm hW hN, hDc.weaken (fun _ _ _ _ => trivial)⟩⟩ rfl rfl hl.1 rfl (lv_room (Nat.le_of_ble_eq_true rfl)) d_Reader_readDirectory_44 ⟨hkc, hks⟩) hS (fun q _ h => hFc q h) hFc (fun r7 u t H1 locs ht hvm hp_r7 hB hz1 hk1 hS => ?_)
      obtain ⟨hP1, hD1⟩ := hB
      rw [ht] at hP1
      obtain ⟨hP, hD⟩ := va_joinQ (X := [(h0, .inr (7, [.ref im, .ref pr, .ref ra, .int lcn, .int vw, .int wr])), (ra, .inl (cF, 99, .inr (.inr (.inr (.inr (rowF lfa lmd)))))), (pr, .inr (6, [.ref im, lfw, .int lnm, .int lco, .int lta, .int llc])), (im, .inr (1, [.ref iq, .int L])), (iq, .inl (cB, n, .inl f))]) (cx := [(im, .inr (1, [.ref iq, .int L])), (iq, .inl (cB, n, .inl f))]) (wr := [(h0, .inr (7, [.ref im, .ref pr, .ref ra, .int lcn, .int vw, .int wr])), (ra, .inl (cF, 99, .inr (.inr (.inr (.inr (rowF lfa lmd)))))), (pr, .inr (6, [.ref im, lfw, .int lnm, .int lco, .int lta, .int llc]))]) (w1 := [(im, .inr (1, [.ref iq, .int L])), (iq, .inl (cB, n, .inl f))]) hP hD [3, 4] [0, 1, 2] rfl rfl (by decide +kernel) (by decide +kernel) hk1 hFc hP1 hD1
      clear hPc hDc hFc hP1 hD1 hk1 hz1 hkc hks
      generalize H1 = H at hP hS ⊢
      have hP : va_P D CL (([(h0, .inr (7, [.ref im, .ref pr, .ref ra, .int lcn, .int vw, .int wr])), (ra, .inl (cF, 99, .inr (.inr (.inr (.inr (rowF lfa lmd)))))), (pr, .inr (6, [.ref im, lfw, .int lnm, .int lco, .int lta, .int llc])), (im, .inr (1, [.ref iq, .int L])), (iq, .inl (cB, n, .inl f))] : va_W) ++ (PL (FC cB lfa lga lcf) lmd)) H := hP
      have hD : va_D A (([(h0, .inr (7, [.ref im, .ref pr, .ref ra, .int lcn, .int vw, .int wr])), (ra, .inl (cF, 99, .inr (.inr (.inr (.inr (rowF lfa lmd)))))), (pr, .inr (6, [.ref im, lfw, .int lnm, .int lco, .int lta, .int llc])), (im, .inr (1, [.ref iq, .int L])), (iq, .inl (cB, n, .inl f))] : va_W) ++ (PL (FC cB lfa lga lcf) lmd)) := hD
      try dsimp only at hp_r7
      obtain ⟨hr_8, hv_9⟩ := hp_r7
      refine lv_istore hx hb d_Reader_readDirectory_47 hl (by decide) rfl (fun ls hl => ?_)
      have hl : lv_has ls 8 [(6, .int r7), (0, .ref h0), (1, .int x), (2, .int bg), (3, .int en), (4, .int la), (5, .int re9)] := hl
      refine lv_iload hx hb d_Reader_readDirectory_49 (lv_at hl 0 rfl) ?_
      refine lv_if_ne (tgt := 72) hx hb d_Reader_readDirectory_51 (by decide) (fun h_9 => ?_) (fun h_9 => ?_)
      · skip
        have g51_38 : ¬ r7.toInt = 0 := fun h8 => h_9 ((i_eq rfl (by decide)).mpr h8)
        refine lv_aload_n hx hb d_Reader_readDirectory_72 rfl (lv_at hl 1 rfl) ?_
        refine lv_iload hx hb d_Reader_readDirectory_73 (lv_at hl 5 rfl) ?_
        have hPc := hP.sub (ws' := [(h0, .inr (7, [.ref im, .ref pr, .ref ra, .int lcn, .int vw, .int wr])), (im, .inr (1, [.ref iq, .int L])), (iq, .inl (cB, n, .inl f))]) [0, 3, 4] rfl
        have hDc := hD.sub (ws' := [(h0, .inr (7, [.ref im, .ref pr, .ref ra, .int lcn, .int vw, .int wr])), (im, .inr (1, [.ref iq, .int L])), (iq, .inl (cB, n, .inl f))]) [0, 3, 4] (by decide +kernel) rfl
        have hFc := va_free (wc := [(h0, .inr (7, [.ref im, .ref pr, .ref ra, .int lcn, .int vw, .int wr])), (im, .inr (1, [.ref iq, .int L])), (iq, .inl (cB, n, .inl f))]) hD hS hA [0, 3, 4] rfl
        have hkc : (3 * (lmd - md)) + 0 ≤ 300 := by omega
        have hks : (473 * (lmd - md)) + 0 ≤ 47300 := by omega
        refine va_calli (va_runV (C := "DiscMaker$Reader") (As := [.int la]) (rest := []) ⟨hx, hb, hml, hown, hts⟩ (c3_isRecord l D cB cI cJ cZ cN cF H.size h0 pr ra im iq n L f lcn vw wr la (by (try dsimp only); first | assumption | omega | trivial) (by (try dsimp only); first | assumption | omega | trivial) (by (try dsimp only); first | assumption | omega | trivial)) (cwV 1 hts (lg_goodV k1197 k1199 k34 k123 kc_Reader_isRecord) rfl rfl rfl (by decide +kernel) ⟨Nat.le_of_ble_eq_true rfl, Nat.le_of_ble_eq_true rfl⟩) ⟨fun a U g mk q => by obtain ⟨q0, q1, qP, qK, qN, qD⟩ := q; exact ⟨q0, q1, qP, va_K.moved (u := U) (U := U.calling g mk a) (Vm.Alike.refl U.vm) qK, qN.calling, qD⟩, va_recv hK hP (ci := 7) (q0 := 0) rfl rfl, fun U hU hW => ⟨rfl, by rw [hU], by rw [hU]; exact hPc, va_K.moved hW.alike hK, NN.warm hW hN, hDc.weaken (fun _ _ _ _ => trivial)⟩⟩ rfl rfl hl.1 rfl (lv_room (Nat.le_of_ble_eq_true rfl)) d_Reader_readDirectory_75 ⟨hkc, hks⟩) hS (fun q _ h => hFc q h) hFc (fun r10 u t H1 locs ht hvm hp_r10 hB hz1 hk1 hS => ?_)
        obtain ⟨hP1, hD1⟩ := hB
        rw [ht] at hP1
        obtain ⟨hP, hD⟩ := va_joinQ (X := [(h0, .inr (7, [.ref im, .ref pr, .ref ra, .int lcn, .int vw, .int wr])), (ra, .inl (cF, 99, .inr (.inr (.inr (.inr (rowF lfa lmd)))))), (pr, .inr (6, [.ref im, lfw, .int lnm, .int lco, .int lta, .int llc])), (im, .inr (1, [.ref iq, .int L])), (iq, .inl (cB, n, .inl f))]) (cx := [(h0, .inr (7, [.ref im, .ref pr, .ref ra, .int lcn, .int vw, .int wr])), (im, .inr (1, [.ref iq, .int L])), (iq, .inl (cB, n, .inl f))]) (wr := [(ra, .inl (cF, 99, .inr (.inr (.inr (.inr (rowF lfa lmd)))))), (pr, .inr (6, [.ref im, lfw, .int lnm, .int lco, .int lta, .int llc]))]) (w1 := [(h0, .inr (7, [.ref im, .ref pr, .ref ra, .int lcn, .int vw, .int wr])), (im, .inr (1, [.ref iq, .int L])), (iq, .inl (cB, n, .inl f))]) hP hD [0, 3, 4] [1, 2] rfl rfl (by decide +kernel) (by decide +kernel) hk1 hFc hP1 hD1
        clear hPc hDc hFc hP1 hD1 hk1 hz1 hkc hks
        generalize H1 = H at hP hS ⊢
        have hP : va_P D CL (([(ra, .inl (cF, 99, .inr (.inr (.inr (.inr (rowF lfa lmd)))))), (pr, .inr (6, [.ref im, lfw, .int lnm, .int lco, .int lta, .int llc])), (h0, .inr (7, [.ref im, .ref pr, .ref ra, .int lcn, .int vw, .int wr])), (im, .inr (1, [.ref iq, .int L])), (iq, .inl (cB, n, .inl f))] : va_W) ++ (PL (FC cB lfa lga lcf) lmd)) H := hP
        have hD : va_D A (([(ra, .inl (cF, 99, .inr (.inr (.inr (.inr (rowF lfa lmd)))))), (pr, .inr (6, [.ref im, lfw, .int lnm, .int lco, .int lta, .int llc])), (h0, .inr (7, [.ref im, .ref pr, .ref ra, .int lcn, .int vw, .int wr])), (im, .inr (1, [.ref iq, .int L])), (iq, .inl (cB, n, .inl f))] : va_W) ++ (PL (FC cB lfa lga lcf) lmd)) := hD
        try dsimp only at hp_r10
        obtain ⟨hr_11, hrc_12⟩ := hp_r10
        have hrecq := hrc_12
        refine lv_if_eq (tgt := 112) hx hb d_Reader_readDirectory_78 (by decide) (fun h_9 => ?_) (fun h_9 => ?_)
        · skip
          have g78_42 : r10.toInt = 0 := (i_eq rfl (by decide)).mp h_9
          refine lv_iload hx hb d_Reader_readDirectory_112 (lv_at hl 5 rfl) ?_
          have hT0 : tot s.heap = T0 := hZq
          refine zz_know (fun hk9 hn9 => ?_)
          have hP9 := hP.part (X := [(ra, .inl (cF, 99, .inr (.inr (.inr (.inr (rowF lfa lmd)))))), (pr, .inr (6, [.ref im, lfw, .int lnm, .int lco, .int lta, .int llc])), (h0, .inr (7, [.ref im, .ref pr, .ref ra, .int lcn, .int vw, .int wr])), (im, .inr (1, [.ref iq, .int L])), (iq, .inl (cB, n, .inl f))]) (cx := [(h0, .inr (7, [.ref im, .ref pr, .ref ra, .int lcn, .int vw, .int wr])), (ra, .inl (cF, 99, .inr (.inr (.inr (.inr (rowF lfa lmd)))))), (pr, .inr (6, [.ref im, lfw, .int lnm, .int lco, .int lta, .int llc])), (im, .inr (1, [.ref iq, .int L])), (iq, .inl (cB, n, .inl f))]) [2, 0, 1, 3, 4] rfl
          have hD9 := hD.part (X := [(ra, .inl (cF, 99, .inr (.inr (.inr (.inr (rowF lfa lmd)))))), (pr, .inr (6, [.ref im, lfw, .int lnm, .int lco, .int lta, .int llc])), (h0, .inr (7, [.ref im, .ref pr, .ref ra, .int lcn, .int vw, .int wr])), (im, .inr (1, [.ref iq, .int L])), (iq, .inl (cB, n, .inl f))]) (cx := [(h0, .inr (7, [.ref im, .ref pr, .ref ra, .int lcn, .int vw, .int wr])), (ra, .inl (cF, 99, .inr (.inr (.inr (.inr (rowF lfa lmd)))))), (pr, .inr (6, [.ref im, lfw, .int lnm, .int lco, .int lta, .int llc])), (im, .inr (1, [.ref iq, .int L])), (iq, .inl (cB, n, .inl f))]) [2, 0, 1, 3, 4] (by decide +kernel) rfl
          refine W.widen (k := 300) (n := 47300) (by omega) (by omega) ?_
          exact W.iret (v := la) hx hb hr (fun t ht hW => ⟨⟨la, (lfw, lnm, lco, lta, llc, lcn, lfa, lga, lcf, lmd), rfl, ⟨(by (try dsimp only); first | assumption | omega | trivial), (by (try dsimp only); intro h7; first | (exfalso; omega) | exact e9)⟩, ⟨by rw [ht]; omega, by rw [ht]; omega⟩, by rw [ht]; exact hP9, hD9⟩, hS.F ht⟩) hS.2.2 d_Reader_readDirectory_114
        · skip
          have g78_42 : ¬ r10.toInt = 0 := fun h8 => h_9 ((i_eq rfl (by decide)).mpr h8)
          refine lv_iload hx hb d_Reader_readDirectory_81 (lv_at hl 6 rfl) ?_
          refine lv_iconst (v := 2) hx hb d_Reader_readDirectory_83 (by decide) ?_
          refine lv_icmp_ge (tgt := 102) hx hb d_Reader_readDirectory_84 (by decide) (fun h_9 => ?_) (fun h_9 => ?_)
          · skip
            have g84_47 : 2 ≤ re9.toInt := (i_le (by decide) rfl).mp h_9
            refine lv_aload_n hx hb d_Reader_readDirectory_102 rfl (lv_at hl 1 rfl) ?_
            refine lv_iload_n hx hb d_Reader_readDirectory_103 rfl (lv_at hl 2 rfl) ?_
            refine lv_iload hx hb d_Reader_readDirectory_104 (lv_at hl 5 rfl) ?_
            refine zz_know (fun hk1 hn1 => ?_)
            have hPc := hP.part (X := [(ra, .inl (cF, 99, .inr (.inr (.inr (.inr (rowF lfa lmd)))))), (pr, .inr (6, [.ref im, lfw, .int lnm, .int lco, .int lta, .int llc])), (h0, .inr (7, [.ref im, .ref pr, .ref ra, .int lcn, .int vw, .int wr])), (im, .inr (1, [.ref iq, .int L])), (iq, .inl (cB, n, .inl f))]) (cx := [(h0, .inr (7, [.ref im, .ref pr, .ref ra, .int lcn, .int vw, .int wr])), (ra, .inl (cF, 99, .inr (.inr (.inr (.inr (rowF lfa lmd)))))), (im, .inr (1, [.ref iq, .int L])), (iq, .inl (cB, n, .inl f))]) [2, 0, 3, 4] rfl
            have hDc := hD.part (X := [(ra, .inl (cF, 99, .inr (.inr (.inr (.inr (rowF lfa lmd)))))), (pr, .inr (6, [.ref im, lfw, .int lnm, .int lco, .int lta, .int llc])), (h0, .inr (7, [.ref im, .ref pr, .ref ra, .int lcn, .int vw, .int wr])), (im, .inr (1, [.ref iq, .int L])), (iq, .inl (cB, n, .inl f))]) (cx := [(h0, .inr (7, [.ref im, .ref pr, .ref ra, .int lcn, .int vw, .int wr])), (ra, .inl (cF, 99, .inr (.inr (.inr (.inr (rowF lfa lmd)))))), (im, .inr (1, [.ref iq, .int L])), (iq, .inl (cB, n, .inl f))]) [2, 0, 3, 4] (by decide +kernel) rfl
            have hFc := va_freeP (X := [(ra, .inl (cF, 99, .inr (.inr (.inr (.inr (rowF lfa lmd)))))), (pr, .inr (6, [.ref im, lfw, .int lnm, .int lco, .int lta, .int llc])), (h0, .inr (7, [.ref im, .ref pr, .ref ra, .int lcn, .int vw, .int wr])), (im, .inr (1, [.ref iq, .int L])), (iq, .inl (cB, n, .inl f))]) (cx := [(h0, .inr (7, [.ref im, .ref pr, .ref ra, .int lcn, .int vw, .int wr])), (ra, .inl (cF, 99, .inr (.inr (.inr (.inr (rowF lfa lmd)))))), (im, .inr (1, [.ref iq, .int L])), (iq, .inl (cB, n, .inl f))]) hD hS hA [2, 0, 3, 4] rfl
            have hkc : (3 * (lmd - md)) + 3 ≤ 300 := by omega
            have hks : (473 * (lmd - md)) + 473 ≤ 47300 := by omega
            refine va_calli (va_runV (C := "DiscMaker$Reader") (As := [.int x, .int la]) (rest := []) ⟨hx, hb, hml, hown, hts⟩ (c3_addNode l D cB cI cJ cZ cN cF H.size h0 pr ra im iq n L f lcn vw wr lfa lga lcf lmd (tot H) x la (by (try dsimp only); first | assumption | omega | trivial) (by (try dsimp only); first | assumption | omega | trivial) (by (try dsimp only); first | assumption | omega | trivial) (by (try dsimp only); first | assumption | omega | trivial) (by (try dsimp only); first | assumption | omega | trivial) (by (try dsimp only); first | assumption | omega | trivial) (hrecq (by omega)) (e9)) (cwV 2 hts (lg_goodV k1292 k1294 k41 k123 kc_Reader_addNode) rfl rfl rfl (by decide +kernel) ⟨Nat.le_of_ble_eq_true rfl, Nat.le_of_ble_eq_true rfl⟩) ⟨fun a U g mk q => by obtain ⟨q0, q1, qP, qK, qN, qD, qZ0⟩ := q; exact ⟨q0, q1, qP, va_K.moved (u := U) (U := U.calling g mk a) (Vm.Alike.refl U.vm) qK, qN.calling, qD, TOT_blind qZ0⟩, va_recv hK hP (ci := 7) (q0 := 2) rfl rfl, fun U hU hW => ⟨rfl, by rw [hU], by rw [hU]; exact hPc, va_K.moved hW.alike hK, NN.warm hW hN, hDc.weaken (fun _ _ _ _ => trivial), congrArg tot hU⟩⟩ rfl rfl hl.1 rfl (lv_room (Nat.le_of_ble_eq_true rfl)) d_Reader_readDirectory_106 ⟨hkc, hks⟩) hS (fun q _ h => hFc q h) hFc (fun r13 u t H1 locs ht hvm hp_r13 hB hz1 hk1 hS => ?_)
            obtain ⟨cn2_14, fa2_15, ga2_16, cf2_17, md2_18⟩ := u
            obtain ⟨hq_19, hP1, hD1⟩ := hB
            rw [ht] at hP1
            try rw [ht] at hq_19
            obtain ⟨hP, hD⟩ := va_joinP (X := [(ra, .inl (cF, 99, .inr (.inr (.inr (.inr (rowF lfa lmd)))))), (pr, .inr (6, [.ref im, lfw, .int lnm, .int lco, .int lta, .int llc])), (h0, .inr (7, [.ref im, .ref pr, .ref ra, .int lcn, .int vw, .int wr])), (im, .inr (1, [.ref iq, .int L])), (iq, .inl (cB, n, .inl f))]) (cx := [(h0, .inr (7, [.ref im, .ref pr, .ref ra, .int lcn, .int vw, .int wr])), (ra, .inl (cF, 99, .inr (.inr (.inr (.inr (rowF lfa lmd)))))), (im, .inr (1, [.ref iq, .int L])), (iq, .inl (cB, n, .inl f))]) (wr := [(pr, .inr (6, [.ref im, lfw, .int lnm, .int lco, .int lta, .int llc]))]) (rx := [(h0, .inr (7, [.ref im, .ref pr, .ref ra, .int cn2_14, .int vw, .int wr])), (ra, .inl (cF, 99, .inr (.inr (.inr (.inr (rowF fa2_15 md2_18)))))), (im, .inr (1, [.ref iq, .int L])), (iq, .inl (cB, n, .inl f))]) hP hD [2, 0, 3, 4] [1] rfl rfl (by decide +kernel) (by decide +kernel) hk1 hFc hP1 hD1
            clear hPc hDc hFc hP1 hD1 hk1 hz1 hkc hks
            generalize H1 = H at hP hS hq_19 ⊢
            have hP : va_P D CL (([(pr, .inr (6, [.ref im, lfw, .int lnm, .int lco, .int lta, .int llc])), (h0, .inr (7, [.ref im, .ref pr, .ref ra, .int cn2_14, .int vw, .int wr])), (ra, .inl (cF, 99, .inr (.inr (.inr (.inr (rowF fa2_15 md2_18)))))), (im, .inr (1, [.ref iq, .int L])), (iq, .inl (cB, n, .inl f))] : va_W) ++ (PL (FC cB fa2_15 ga2_16 cf2_17) md2_18)) H := hP
            have hD : va_D A (([(pr, .inr (6, [.ref im, lfw, .int lnm, .int lco, .int lta, .int llc])), (h0, .inr (7, [.ref im, .ref pr, .ref ra, .int cn2_14, .int vw, .int wr])), (ra, .inl (cF, 99, .inr (.inr (.inr (.inr (rowF fa2_15 md2_18)))))), (im, .inr (1, [.ref iq, .int L])), (iq, .inl (cB, n, .inl f))] : va_W) ++ (PL (FC cB fa2_15 ga2_16 cf2_17) md2_18)) := hD
            try dsimp only at hp_r13
            obtain ⟨hr_20, hm2_21, hc2_22, hrok2_23, hnew_24⟩ := hp_r13
            refine zz_tightT (k := 3 * (md2_18 - md)) (n := 473 * (md2_18 - md)) (by omega) (by omega) ?_
            refine lv_if_ne (tgt := 115) hx hb d_Reader_readDirectory_109 (by decide) (fun h_9 => ?_) (fun h_9 => ?_)
            · skip
              have g109_52 : ¬ r13.toInt = 0 := fun h8 => h_9 ((i_eq rfl (by decide)).mpr h8)
              refine lv_iconst (v := (-1)) hx hb d_Reader_readDirectory_115 (by decide) ?_
              refine lv_istore hx hb d_Reader_readDirectory_116 hl (by decide) rfl (fun ls hl => ?_)
              have hl : lv_has ls 8 [(7, .int (-1)), (6, .int r7), (0, .ref h0), (1, .int x), (2, .int bg), (3, .int en), (4, .int la), (5, .int re9)] := hl
              refine lv_iload hx hb d_Reader_readDirectory_118 (lv_at hl 7 rfl) ?_
              refine lv_iconst (v := 2) hx hb d_Reader_readDirectory_120 (by decide) ?_
              refine lv_icmp_lt (tgt := 146) hx hb d_Reader_readDirectory_121 (by decide) (fun h_9 => ?_) (fun h_9 => ?_)
              · skip
                have g121_57 : re9.toInt < 2 := (i_lt rfl (by decide)).mp h_9
                exfalso
                omega
              · skip
                have g121_57 : ¬ re9.toInt < 2 := fun h8 => h_9 ((i_lt rfl (by decide)).mpr h8)
                refine lv_aload_n hx hb d_Reader_readDirectory_124 rfl (lv_at hl 2 rfl) ?_
                refine lv_aload_n hx hb d_Reader_readDirectory_125 rfl (lv_at hl 2 rfl) ?_
                refine va_get (D := D) (ci := 7) (v := .ref ra) (C := "DiscMaker$Reader") (T := F_Reader) (N := 6) hx hb ht9 in_Reader hown hK hP 1 rfl rfl 2 (by decide) (ht9 _ k414) (fun _ h9 => h9) rfl d_Reader_readDirectory_126 ?_
                refine lv_aload_n hx hb d_Reader_readDirectory_129 rfl (lv_at hl 2 rfl) ?_
                refine va_get (D := D) (ci := 7) (v := .int cn2_14) (C := "DiscMaker$Reader") (T := F_Reader) (N := 6) hx hb ht9 in_Reader hown hK hP 1 rfl rfl 3 (by decide) (ht9 _ k415) (fun _ h9 => h9) rfl d_Reader_readDirectory_130 ?_
                refine lv_iconst (v := 1) hx hb d_Reader_readDirectory_133 (by decide) ?_
                refine lv_isub hx hb d_Reader_readDirectory_134 ?_
                refine lv_topi (fun v25 e_v25 => ?_)
                have t_v25 : v25.toInt = cn2_14.toInt - 1 := by rw [e_v25]; exact i_sub rfl (by decide) (by omega) (by omega)
                refine va_aldq hx hb hK hP 2 5 rfl rfl (vp_in_iff.mpr ⟨by omega, by omega⟩) d_Reader_readDirectory_135 ?_
                have hc_hk26 := hc2_22 (by omega)
                have hk26 : v25.toNatClampNeg < md2_18 := by have := i_cl (a := v25) (by omega); omega
                have ek_hk26 : v25.toNatClampNeg = lcn.toNatClampNeg := by have := i_cl (a := v25) (by omega); have := i_cl (a := lcn) (by omega); omega
                have hz_hk26 := hnew_24 (by omega)
                rw [← ek_hk26] at hz_hk26
                have hr_hk26 := hrok2_23 (by omega) v25.toNatClampNeg (by have := i_cl (a := v25) (by omega); omega)
                refine W.eq (g2 := F0 m 136 ls [.ref (fa2_15 v25.toNatClampNeg 0), .ref h0]) (by rw [show rowF fa2_15 md2_18 v25.toNatClampNeg = some (fa2_15 v25.toNatClampNeg 0) from rowF_some hk26]; rfl) ?_
                obtain ⟨hP, hD⟩ := pl_take (X := [(pr, .inr (6, [.ref im, lfw, .int lnm, .int lco, .int lta, .int llc])), (h0, .inr (7, [.ref im, .ref pr, .ref ra, .int cn2_14, .int vw, .int wr])), (ra, .inl (cF, 99, .inr (.inr (.inr (.inr (rowF fa2_15 md2_18)))))), (im, .inr (1, [.ref iq, .int L])), (iq, .inl (cB, n, .inl f))]) (C := FC cB fa2_15 ga2_16 cf2_17) (m := md2_18) (k := v25.toNatClampNeg) hP hD hk26
                have hP : va_P D CL (([(pr, .inr (6, [.ref im, lfw, .int lnm, .int lco, .int lta, .int llc])), (h0, .inr (7, [.ref im, .ref pr, .ref ra, .int cn2_14, .int vw, .int wr])), (ra, .inl (cF, 99, .inr (.inr (.inr (.inr (rowF fa2_15 md2_18)))))), (im, .inr (1, [.ref iq, .int L])), (iq, .inl (cB, n, .inl f)), ((fa2_15 v25.toNatClampNeg 0), .inr (2, [.ref (fa2_15 v25.toNatClampNeg 1), .ref (fa2_15 v25.toNatClampNeg 2), .int (ga2_16 v25.toNatClampNeg 0), .int (ga2_16 v25.toNatClampNeg 1), .int (ga2_16 v25.toNatClampNeg 2), .int (ga2_16 v25.toNatClampNeg 3), .int (ga2_16 v25.toNatClampNeg 4), .int (ga2_16 v25.toNatClampNeg 5), .int (ga2_16 v25.toNatClampNeg 6), .int (ga2_16 v25.toNatClampNeg 7), .int (ga2_16 v25.toNatClampNeg 8), .int (ga2_16 v25.toNatClampNeg 9), .int (ga2_16 v25.toNatClampNeg 10)])), ((fa2_15 v25.toNatClampNeg 1), .inl (cB, 60, .inl (cf2_17 v25.toNatClampNeg 1))), ((fa2_15 v25.toNatClampNeg 2), .inl (cB, 400, .inl (cf2_17 v25.toNatClampNeg 2)))] : va_W) ++ (PO (FC cB fa2_15 ga2_16 cf2_17) md2_18 v25.toNatClampNeg)) H := hP
                have hD : va_D A (([(pr, .inr (6, [.ref im, lfw, .int lnm, .int lco, .int lta, .int llc])), (h0, .inr (7, [.ref im, .ref pr, .ref ra, .int cn2_14, .int vw, .int wr])), (ra, .inl (cF, 99, .inr (.inr (.inr (.inr (rowF fa2_15 md2_18)))))), (im, .inr (1, [.ref iq, .int L])), (iq, .inl (cB, n, .inl f)), ((fa2_15 v25.toNatClampNeg 0), .inr (2, [.ref (fa2_15 v25.toNatClampNeg 1), .ref (fa2_15 v25.toNatClampNeg 2), .int (ga2_16 v25.toNatClampNeg 0), .int (ga2_16 v25.toNatClampNeg 1), .int (ga2_16 v25.toNatClampNeg 2), .int (ga2_16 v25.toNatClampNeg 3), .int (ga2_16 v25.toNatClampNeg 4), .int (ga2_16 v25.toNatClampNeg 5), .int (ga2_16 v25.toNatClampNeg 6), .int (ga2_16 v25.toNatClampNeg 7), .int (ga2_16 v25.toNatClampNeg 8), .int (ga2_16 v25.toNatClampNeg 9), .int (ga2_16 v25.toNatClampNeg 10)])), ((fa2_15 v25.toNatClampNeg 1), .inl (cB, 60, .inl (cf2_17 v25.toNatClampNeg 1))), ((fa2_15 v25.toNatClampNeg 2), .inl (cB, 400, .inl (cf2_17 v25.toNatClampNeg 2)))] : va_W) ++ (PO (FC cB fa2_15 ga2_16 cf2_17) md2_18 v25.toNatClampNeg)) := hD
                refine lv_iload hx hb d_Reader_readDirectory_136 (lv_at hl 6 rfl) ?_
                have hPc := hP.sub (ws' := [(h0, .inr (7, [.ref im, .ref pr, .ref ra, .int cn2_14, .int vw, .int wr])), (pr, .inr (6, [.ref im, lfw, .int lnm, .int lco, .int lta, .int llc])), (im, .inr (1, [.ref iq, .int L])), (iq, .inl (cB, n, .inl f)), ((fa2_15 v25.toNatClampNeg 0), .inr (2, [.ref (fa2_15 v25.toNatClampNeg 1), .ref (fa2_15 v25.toNatClampNeg 2), .int (ga2_16 v25.toNatClampNeg 0), .int (ga2_16 v25.toNatClampNeg 1), .int (ga2_16 v25.toNatClampNeg 2), .int (ga2_16 v25.toNatClampNeg 3), .int (ga2_16 v25.toNatClampNeg 4), .int (ga2_16 v25.toNatClampNeg 5), .int (ga2_16 v25.toNatClampNeg 6), .int (ga2_16 v25.toNatClampNeg 7), .int (ga2_16 v25.toNatClampNeg 8), .int (ga2_16 v25.toNatClampNeg 9), .int (ga2_16 v25.toNatClampNeg 10)])), ((fa2_15 v25.toNatClampNeg 1), .inl (cB, 60, .inl (cf2_17 v25.toNatClampNeg 1))), ((fa2_15 v25.toNatClampNeg 2), .inl (cB, 400, .inl (cf2_17 v25.toNatClampNeg 2)))]) [1, 0, 3, 4, 5, 6, 7] rfl
                have hDc := hD.sub (ws' := [(h0, .inr (7, [.ref im, .ref pr, .ref ra, .int cn2_14, .int vw, .int wr])), (pr, .inr (6, [.ref im, lfw, .int lnm, .int lco, .int lta, .int llc])), (im, .inr (1, [.ref iq, .int L])), (iq, .inl (cB, n, .inl f)), ((fa2_15 v25.toNatClampNeg 0), .inr (2, [.ref (fa2_15 v25.toNatClampNeg 1), .ref (fa2_15 v25.toNatClampNeg 2), .int (ga2_16 v25.toNatClampNeg 0), .int (ga2_16 v25.toNatClampNeg 1), .int (ga2_16 v25.toNatClampNeg 2), .int (ga2_16 v25.toNatClampNeg 3), .int (ga2_16 v25.toNatClampNeg 4), .int (ga2_16 v25.toNatClampNeg 5), .int (ga2_16 v25.toNatClampNeg 6), .int (ga2_16 v25.toNatClampNeg 7), .int (ga2_16 v25.toNatClampNeg 8), .int (ga2_16 v25.toNatClampNeg 9), .int (ga2_16 v25.toNatClampNeg 10)])), ((fa2_15 v25.toNatClampNeg 1), .inl (cB, 60, .inl (cf2_17 v25.toNatClampNeg 1))), ((fa2_15 v25.toNatClampNeg 2), .inl (cB, 400, .inl (cf2_17 v25.toNatClampNeg 2)))]) [1, 0, 3, 4, 5, 6, 7] (by decide +kernel) rfl
                have hFc := va_free (wc := [(h0, .inr (7, [.ref im, .ref pr, .ref ra, .int cn2_14, .int vw, .int wr])), (pr, .inr (6, [.ref im, lfw, .int lnm, .int lco, .int lta, .int llc])), (im, .inr (1, [.ref iq, .int L])), (iq, .inl (cB, n, .inl f)), ((fa2_15 v25.toNatClampNeg 0), .inr (2, [.ref (fa2_15 v25.toNatClampNeg 1), .ref (fa2_15 v25.toNatClampNeg 2), .int (ga2_16 v25.toNatClampNeg 0), .int (ga2_16 v25.toNatClampNeg 1), .int (ga2_16 v25.toNatClampNeg 2), .int (ga2_16 v25.toNatClampNeg 3), .int (ga2_16 v25.toNatClampNeg 4), .int (ga2_16 v25.toNatClampNeg 5), .int (ga2_16 v25.toNatClampNeg 6), .int (ga2_16 v25.toNatClampNeg 7), .int (ga2_16 v25.toNatClampNeg 8), .int (ga2_16 v25.toNatClampNeg 9), .int (ga2_16 v25.toNatClampNeg 10)])), ((fa2_15 v25.toNatClampNeg 1), .inl (cB, 60, .inl (cf2_17 v25.toNatClampNeg 1))), ((fa2_15 v25.toNatClampNeg 2), .inl (cB, 400, .inl (cf2_17 v25.toNatClampNeg 2)))]) hD hS hA [1, 0, 3, 4, 5, 6, 7] rfl
                have hkc : (3 * (md2_18 - md)) + 0 ≤ 300 := by omega
                have hks : (473 * (md2_18 - md)) + 0 ≤ 47300 := by omega
                refine va_calli (va_runV (C := "DiscMaker$Reader") (As := [.ref (fa2_15 v25.toNatClampNeg 0), .int la]) (rest := []) ⟨hx, hb, hml, hown, hts⟩ (c3_describe l D cB cI cJ cZ cN cF H.size h0 pr ra im iq n L f cn2_14 vw wr lfw lnm lco lta llc (fa2_15 v25.toNatClampNeg 0) (fa2_15 v25.toNatClampNeg 1) (fa2_15 v25.toNatClampNeg 2) (ga2_16 v25.toNatClampNeg 0) (ga2_16 v25.toNatClampNeg 1) (ga2_16 v25.toNatClampNeg 2) (ga2_16 v25.toNatClampNeg 3) (ga2_16 v25.toNatClampNeg 4) (ga2_16 v25.toNatClampNeg 5) (ga2_16 v25.toNatClampNeg 6) (ga2_16 v25.toNatClampNeg 7) (ga2_16 v25.toNatClampNeg 8) (ga2_16 v25.toNatClampNeg 9) (ga2_16 v25.toNatClampNeg 10) (cf2_17 v25.toNatClampNeg 1) (cf2_17 v25.toNatClampNeg 2) la (by (try dsimp only); first | assumption | omega | trivial) (by (try dsimp only); first | assumption | omega | trivial) (by (try dsimp only); first | assumption | omega | trivial) (by (try dsimp only); first | assumption | omega | trivial) (by (try dsimp only); first | assumption | omega | trivial)) (cwV 2 hts (lg_goodV k1300 k1302 k43 k123 kc_Reader_describe) rfl rfl rfl (by decide +kernel) ⟨Nat.le_of_ble_eq_true rfl, Nat.le_of_ble_eq_true rfl⟩) ⟨fun a U g mk q => by obtain ⟨q0, q1, qP, qK, qN, qD⟩ := q; exact ⟨q0, q1, qP, va_K.moved (u := U) (U := U.calling g mk a) (Vm.Alike.refl U.vm) qK, qN.calling, qD⟩, va_recv hK hP (ci := 7) (q0 := 1) rfl rfl, fun U hU hW => ⟨rfl, by rw [hU], by rw [hU]; exact hPc, va_K.moved hW.alike hK, NN.warm hW hN, hDc.weaken (fun _ _ _ _ => trivial)⟩⟩ rfl rfl hl.1 rfl (lv_room (Nat.le_of_ble_eq_true rfl)) d_Reader_readDirectory_138 ⟨hkc, hks⟩) hS (fun q _ h => hFc q h) hFc (fun r27 u t H1 locs ht hvm hp_r27 hB hz1 hk1 hS => ?_)
                obtain ⟨fw2_28, nm2_29, co2_30, ta2_31, lc2_32, so2_33, mo2_34, ow2_35, gr2_36, nl2_37, tl2_38, g1_39, g2_40⟩ := u
                obtain ⟨hP1, hD1⟩ := hB
                rw [ht] at hP1
                obtain ⟨hP, hD⟩ := va_joinQ (X := [(pr, .inr (6, [.ref im, lfw, .int lnm, .int lco, .int lta, .int llc])), (h0, .inr (7, [.ref im, .ref pr, .ref ra, .int cn2_14, .int vw, .int wr])), (ra, .inl (cF, 99, .inr (.inr (.inr (.inr (rowF fa2_15 md2_18)))))), (im, .inr (1, [.ref iq, .int L])), (iq, .inl (cB, n, .inl f)), ((fa2_15 v25.toNatClampNeg 0), .inr (2, [.ref (fa2_15 v25.toNatClampNeg 1), .ref (fa2_15 v25.toNatClampNeg 2), .int (ga2_16 v25.toNatClampNeg 0), .int (ga2_16 v25.toNatClampNeg 1), .int (ga2_16 v25.toNatClampNeg 2), .int (ga2_16 v25.toNatClampNeg 3), .int (ga2_16 v25.toNatClampNeg 4), .int (ga2_16 v25.toNatClampNeg 5), .int (ga2_16 v25.toNatClampNeg 6), .int (ga2_16 v25.toNatClampNeg 7), .int (ga2_16 v25.toNatClampNeg 8), .int (ga2_16 v25.toNatClampNeg 9), .int (ga2_16 v25.toNatClampNeg 10)])), ((fa2_15 v25.toNatClampNeg 1), .inl (cB, 60, .inl (cf2_17 v25.toNatClampNeg 1))), ((fa2_15 v25.toNatClampNeg 2), .inl (cB, 400, .inl (cf2_17 v25.toNatClampNeg 2)))]) (cx := [(h0, .inr (7, [.ref im, .ref pr, .ref ra, .int cn2_14, .int vw, .int wr])), (pr, .inr (6, [.ref im, lfw, .int lnm, .int lco, .int lta, .int llc])), (im, .inr (1, [.ref iq, .int L])), (iq, .inl (cB, n, .inl f)), ((fa2_15 v25.toNatClampNeg 0), .inr (2, [.ref (fa2_15 v25.toNatClampNeg 1), .ref (fa2_15 v25.toNatClampNeg 2), .int (ga2_16 v25.toNatClampNeg 0), .int (ga2_16 v25.toNatClampNeg 1), .int (ga2_16 v25.toNatClampNeg 2), .int (ga2_16 v25.toNatClampNeg 3), .int (ga2_16 v25.toNatClampNeg 4), .int (ga2_16 v25.toNatClampNeg 5), .int (ga2_16 v25.toNatClampNeg 6), .int (ga2_16 v25.toNatClampNeg 7), .int (ga2_16 v25.toNatClampNeg 8), .int (ga2_16 v25.toNatClampNeg 9), .int (ga2_16 v25.toNatClampNeg 10)])), ((fa2_15 v25.toNatClampNeg 1), .inl (cB, 60, .inl (cf2_17 v25.toNatClampNeg 1))), ((fa2_15 v25.toNatClampNeg 2), .inl (cB, 400, .inl (cf2_17 v25.toNatClampNeg 2)))]) (wr := [(ra, .inl (cF, 99, .inr (.inr (.inr (.inr (rowF fa2_15 md2_18))))))]) (w1 := [(h0, .inr (7, [.ref im, .ref pr, .ref ra, .int cn2_14, .int vw, .int wr])), (pr, .inr (6, [.ref im, fw2_28, .int nm2_29, .int co2_30, .int ta2_31, .int lc2_32])), (im, .inr (1, [.ref iq, .int L])), (iq, .inl (cB, n, .inl f)), ((fa2_15 v25.toNatClampNeg 0), .inr (2, [.ref (fa2_15 v25.toNatClampNeg 1), .ref (fa2_15 v25.toNatClampNeg 2), .int (ga2_16 v25.toNatClampNeg 0), .int (ga2_16 v25.toNatClampNeg 1), .int so2_33, .int (ga2_16 v25.toNatClampNeg 3), .int (ga2_16 v25.toNatClampNeg 4), .int mo2_34, .int ow2_35, .int gr2_36, .int nl2_37, .int tl2_38, .int (ga2_16 v25.toNatClampNeg 10)])), ((fa2_15 v25.toNatClampNeg 1), .inl (cB, 60, .inl g1_39)), ((fa2_15 v25.toNatClampNeg 2), .inl (cB, 400, .inl g2_40))]) hP hD [1, 0, 3, 4, 5, 6, 7] [2] rfl rfl (by decide +kernel) (by decide +kernel) hk1 hFc hP1 hD1
                clear hPc hDc hFc hP1 hD1 hk1 hz1 hkc hks
                generalize H1 = H at hP hS ⊢
                have hP : va_P D CL (([(ra, .inl (cF, 99, .inr (.inr (.inr (.inr (rowF fa2_15 md2_18)))))), (h0, .inr (7, [.ref im, .ref pr, .ref ra, .int cn2_14, .int vw, .int wr])), (pr, .inr (6, [.ref im, fw2_28, .int nm2_29, .int co2_30, .int ta2_31, .int lc2_32])), (im, .inr (1, [.ref iq, .int L])), (iq, .inl (cB, n, .inl f)), ((fa2_15 v25.toNatClampNeg 0), .inr (2, [.ref (fa2_15 v25.toNatClampNeg 1), .ref (fa2_15 v25.toNatClampNeg 2), .int (ga2_16 v25.toNatClampNeg 0), .int (ga2_16 v25.toNatClampNeg 1), .int so2_33, .int (ga2_16 v25.toNatClampNeg 3), .int (ga2_16 v25.toNatClampNeg 4), .int mo2_34, .int ow2_35, .int gr2_36, .int nl2_37, .int tl2_38, .int (ga2_16 v25.toNatClampNeg 10)])), ((fa2_15 v25.toNatClampNeg 1), .inl (cB, 60, .inl g1_39)), ((fa2_15 v25.toNatClampNeg 2), .inl (cB, 400, .inl g2_40))] : va_W) ++ (PO (FC cB fa2_15 ga2_16 cf2_17) md2_18 v25.toNatClampNeg)) H := hP
                have hD : va_D A (([(ra, .inl (cF, 99, .inr (.inr (.inr (.inr (rowF fa2_15 md2_18)))))), (h0, .inr (7, [.ref im, .ref pr, .ref ra, .int cn2_14, .int vw, .int wr])), (pr, .inr (6, [.ref im, fw2_28, .int nm2_29, .int co2_30, .int ta2_31, .int lc2_32])), (im, .inr (1, [.ref iq, .int L])), (iq, .inl (cB, n, .inl f)), ((fa2_15 v25.toNatClampNeg 0), .inr (2, [.ref (fa2_15 v25.toNatClampNeg 1), .ref (fa2_15 v25.toNatClampNeg 2), .int (ga2_16 v25.toNatClampNeg 0), .int (ga2_16 v25.toNatClampNeg 1), .int so2_33, .int (ga2_16 v25.toNatClampNeg 3), .int (ga2_16 v25.toNatClampNeg 4), .int mo2_34, .int ow2_35, .int gr2_36, .int nl2_37, .int tl2_38, .int (ga2_16 v25.toNatClampNeg 10)])), ((fa2_15 v25.toNatClampNeg 1), .inl (cB, 60, .inl g1_39)), ((fa2_15 v25.toNatClampNeg 2), .inl (cB, 400, .inl g2_40))] : va_W) ++ (PO (FC cB fa2_15 ga2_16 cf2_17) md2_18 v25.toNatClampNeg)) := hD
                try dsimp only at hp_r27
                obtain ⟨hok_41, hso_42⟩ := hp_r27
                have hP := hP.part (X := [(ra, .inl (cF, 99, .inr (.inr (.inr (.inr (rowF fa2_15 md2_18)))))), (h0, .inr (7, [.ref im, .ref pr, .ref ra, .int cn2_14, .int vw, .int wr])), (pr, .inr (6, [.ref im, fw2_28, .int nm2_29, .int co2_30, .int ta2_31, .int lc2_32])), (im, .inr (1, [.ref iq, .int L])), (iq, .inl (cB, n, .inl f)), ((fa2_15 v25.toNatClampNeg 0), .inr (2, [.ref (fa2_15 v25.toNatClampNeg 1), .ref (fa2_15 v25.toNatClampNeg 2), .int (ga2_16 v25.toNatClampNeg 0), .int (ga2_16 v25.toNatClampNeg 1), .int so2_33, .int (ga2_16 v25.toNatClampNeg 3), .int (ga2_16 v25.toNatClampNeg 4), .int mo2_34, .int ow2_35, .int gr2_36, .int nl2_37, .int tl2_38, .int (ga2_16 v25.toNatClampNeg 10)])), ((fa2_15 v25.toNatClampNeg 1), .inl (cB, 60, .inl g1_39)), ((fa2_15 v25.toNatClampNeg 2), .inl (cB, 400, .inl g2_40))]) (cx := [(ra, .inl (cF, 99, .inr (.inr (.inr (.inr (rowF fa2_15 md2_18)))))), (h0, .inr (7, [.ref im, .ref pr, .ref ra, .int cn2_14, .int vw, .int wr])), (pr, .inr (6, [.ref im, fw2_28, .int nm2_29, .int co2_30, .int ta2_31, .int lc2_32])), (im, .inr (1, [.ref iq, .int L])), (iq, .inl (cB, n, .inl f)), ((fa2_15 v25.toNatClampNeg 0), .inr (2, [.ref (fa2_15 v25.toNatClampNeg 1), .ref (fa2_15 v25.toNatClampNeg 2), .int (ga2_16 v25.toNatClampNeg 0), .int (ga2_16 v25.toNatClampNeg 1), .int so2_33, .int (ga2_16 v25.toNatClampNeg 3), .int (ga2_16 v25.toNatClampNeg 4), .int mo2_34, .int ow2_35, .int gr2_36, .int nl2_37, .int tl2_38, .int (ga2_16 v25.toNatClampNeg 10)])), ((fa2_15 v25.toNatClampNeg 1), .inl (cB, 60, .inl g1_39)), ((fa2_15 v25.toNatClampNeg 2), .inl (cB, 400, .inl g2_40))]) [0, 1, 2, 3, 4, 5, 6, 7] rfl
                have hD := hD.part (X := [(ra, .inl (cF, 99, .inr (.inr (.inr (.inr (rowF fa2_15 md2_18)))))), (h0, .inr (7, [.ref im, .ref pr, .ref ra, .int cn2_14, .int vw, .int wr])), (pr, .inr (6, [.ref im, fw2_28, .int nm2_29, .int co2_30, .int ta2_31, .int lc2_32])), (im, .inr (1, [.ref iq, .int L])), (iq, .inl (cB, n, .inl f)), ((fa2_15 v25.toNatClampNeg 0), .inr (2, [.ref (fa2_15 v25.toNatClampNeg 1), .ref (fa2_15 v25.toNatClampNeg 2), .int (ga2_16 v25.toNatClampNeg 0), .int (ga2_16 v25.toNatClampNeg 1), .int so2_33, .int (ga2_16 v25.toNatClampNeg 3), .int (ga2_16 v25.toNatClampNeg 4), .int mo2_34, .int ow2_35, .int gr2_36, .int nl2_37, .int tl2_38, .int (ga2_16 v25.toNatClampNeg 10)])), ((fa2_15 v25.toNatClampNeg 1), .inl (cB, 60, .inl g1_39)), ((fa2_15 v25.toNatClampNeg 2), .inl (cB, 400, .inl g2_40))]) (cx := [(ra, .inl (cF, 99, .inr (.inr (.inr (.inr (rowF fa2_15 md2_18)))))), (h0, .inr (7, [.ref im, .ref pr, .ref ra, .int cn2_14, .int vw, .int wr])), (pr, .inr (6, [.ref im, fw2_28, .int nm2_29, .int co2_30, .int ta2_31, .int lc2_32])), (im, .inr (1, [.ref iq, .int L])), (iq, .inl (cB, n, .inl f)), ((fa2_15 v25.toNatClampNeg 0), .inr (2, [.ref (fa2_15 v25.toNatClampNeg 1), .ref (fa2_15 v25.toNatClampNeg 2), .int (ga2_16 v25.toNatClampNeg 0), .int (ga2_16 v25.toNatClampNeg 1), .int so2_33, .int (ga2_16 v25.toNatClampNeg 3), .int (ga2_16 v25.toNatClampNeg 4), .int mo2_34, .int ow2_35, .int gr2_36, .int nl2_37, .int tl2_38, .int (ga2_16 v25.toNatClampNeg 10)])), ((fa2_15 v25.toNatClampNeg 1), .inl (cB, 60, .inl g1_39)), ((fa2_15 v25.toNatClampNeg 2), .inl (cB, 400, .inl g2_40))]) [0, 1, 2, 3, 4, 5, 6, 7] (by decide +kernel) rfl
                obtain ⟨gg43, e_gg43⟩ : ∃ z : Nat → Nat → Int32, z = upK ga2_16 v25.toNatClampNeg (v11 (ga2_16 v25.toNatClampNeg 0) (ga2_16 v25.toNatClampNeg 1) so2_33 (ga2_16 v25.toNatClampNeg 3) (ga2_16 v25.toNatClampNeg 4) mo2_34 ow2_35 gr2_36 nl2_37 tl2_38 (ga2_16 v25.toNatClampNeg 10)) := ⟨_, rfl⟩
                obtain ⟨cc44, e_cc44⟩ : ∃ z : Nat → Nat → Nat → Int32, z = upK cf2_17 v25.toNatClampNeg (c12 g1_39 g2_40) := ⟨_, rfl⟩
                have hP : va_P D CL ((([(ra, .inl (cF, 99, .inr (.inr (.inr (.inr (rowF fa2_15 md2_18)))))), (h0, .inr (7, [.ref im, .ref pr, .ref ra, .int cn2_14, .int vw, .int wr])), (pr, .inr (6, [.ref im, fw2_28, .int nm2_29, .int co2_30, .int ta2_31, .int lc2_32])), (im, .inr (1, [.ref iq, .int L])), (iq, .inl (cB, n, .inl f))] : va_W) ++ FC cB fa2_15 gg43 cc44 v25.toNatClampNeg) ++ (PO (FC cB fa2_15 ga2_16 cf2_17) md2_18 v25.toNatClampNeg)) H := by rw [show FC cB fa2_15 gg43 cc44 v25.toNatClampNeg = [((fa2_15 v25.toNatClampNeg 0), .inr (2, [.ref (fa2_15 v25.toNatClampNeg 1), .ref (fa2_15 v25.toNatClampNeg 2), .int (ga2_16 v25.toNatClampNeg 0), .int (ga2_16 v25.toNatClampNeg 1), .int so2_33, .int (ga2_16 v25.toNatClampNeg 3), .int (ga2_16 v25.toNatClampNeg 4), .int mo2_34, .int ow2_35, .int gr2_36, .int nl2_37, .int tl2_38, .int (ga2_16 v25.toNatClampNeg 10)])), ((fa2_15 v25.toNatClampNeg 1), .inl (cB, 60, .inl g1_39)), ((fa2_15 v25.toNatClampNeg 2), .inl (cB, 400, .inl g2_40))] from by unfold FC; rw [e_gg43, e_cc44, upK_at, upK_at]; rfl]; exact hP
                have hD : va_D A ((([(ra, .inl (cF, 99, .inr (.inr (.inr (.inr (rowF fa2_15 md2_18)))))), (h0, .inr (7, [.ref im, .ref pr, .ref ra, .int cn2_14, .int vw, .int wr])), (pr, .inr (6, [.ref im, fw2_28, .int nm2_29, .int co2_30, .int ta2_31, .int lc2_32])), (im, .inr (1, [.ref iq, .int L])), (iq, .inl (cB, n, .inl f))] : va_W) ++ FC cB fa2_15 gg43 cc44 v25.toNatClampNeg) ++ (PO (FC cB fa2_15 ga2_16 cf2_17) md2_18 v25.toNatClampNeg)) := by rw [show FC cB fa2_15 gg43 cc44 v25.toNatClampNeg = [((fa2_15 v25.toNatClampNeg 0), .inr (2, [.ref (fa2_15 v25.toNatClampNeg 1), .ref (fa2_15 v25.toNatClampNeg 2), .int (ga2_16 v25.toNatClampNeg 0), .int (ga2_16 v25.toNatClampNeg 1), .int so2_33, .int (ga2_16 v25.toNatClampNeg 3), .int (ga2_16 v25.toNatClampNeg 4), .int mo2_34, .int ow2_35, .int gr2_36, .int nl2_37, .int tl2_38, .int (ga2_16 v25.toNatClampNeg 10)])), ((fa2_15 v25.toNatClampNeg 1), .inl (cB, 60, .inl g1_39)), ((fa2_15 v25.toNatClampNeg 2), .inl (cB, 400, .inl g2_40))] from by unfold FC; rw [e_gg43, e_cc44, upK_at, upK_at]; rfl]; exact hD
                obtain ⟨hP, hD⟩ := pl_give (X := [(ra, .inl (cF, 99, .inr (.inr (.inr (.inr (rowF fa2_15 md2_18)))))), (h0, .inr (7, [.ref im, .ref pr, .ref ra, .int cn2_14, .int vw, .int wr])), (pr, .inr (6, [.ref im, fw2_28, .int nm2_29, .int co2_30, .int ta2_31, .int lc2_32])), (im, .inr (1, [.ref iq, .int L])), (iq, .inl (cB, n, .inl f))]) (C := FC cB fa2_15 ga2_16 cf2_17) (C' := FC cB fa2_15 gg43 cc44) hP hD hk26 (fun j h1 _ => FC_off2 e_gg43 e_cc44 h1)
                have hP : va_P D CL (([(ra, .inl (cF, 99, .inr (.inr (.inr (.inr (rowF fa2_15 md2_18)))))), (h0, .inr (7, [.ref im, .ref pr, .ref ra, .int cn2_14, .int vw, .int wr])), (pr, .inr (6, [.ref im, fw2_28, .int nm2_29, .int co2_30, .int ta2_31, .int lc2_32])), (im, .inr (1, [.ref iq, .int L])), (iq, .inl (cB, n, .inl f))] : va_W) ++ (PL (FC cB fa2_15 gg43 cc44) md2_18)) H := hP
                have hD : va_D A (([(ra, .inl (cF, 99, .inr (.inr (.inr (.inr (rowF fa2_15 md2_18)))))), (h0, .inr (7, [.ref im, .ref pr, .ref ra, .int cn2_14, .int vw, .int wr])), (pr, .inr (6, [.ref im, fw2_28, .int nm2_29, .int co2_30, .int ta2_31, .int lc2_32])), (im, .inr (1, [.ref iq, .int L])), (iq, .inl (cB, n, .inl f))] : va_W) ++ (PL (FC cB fa2_15 gg43 cc44) md2_18)) := hD
                have hro45 : r27.toInt = -1 → ROK L.toInt cn2_14.toInt gg43 := by
                  intro h7; refine ROK_upd (hrok2_23 (by omega)) e_gg43 (fun _ => ⟨?_, ?_, ?_⟩) <;> (try simp only [v11_2, v11_3, v11_4, v11_8, v11_9]) <;> omega
                refine lv_istore hx hb d_Reader_readDirectory_141 hl (by decide) rfl (fun ls hl => ?_)
                have hl : lv_has ls 8 [(7, .int r27), (6, .int r7), (0, .ref h0), (1, .int x), (2, .int bg), (3, .int en), (4, .int la), (5, .int re9)] := hl
                refine lv_goto (tgt := 163) hx hb d_Reader_readDirectory_143 (by decide) ?_
                refine lv_iload hx hb d_Reader_readDirectory_163 (lv_at hl 0 rfl) ?_
                refine lv_iconst (v := (-1)) hx hb d_Reader_readDirectory_165 (by decide) ?_
                refine lv_icmp_eq (tgt := 172) hx hb d_Reader_readDirectory_166 (by decide) (fun h_9 => ?_) (fun h_9 => ?_)
                · skip
                  have g166_72 : r27.toInt = (-1) := (i_eq rfl (by decide)).mp h_9
                  have hrk := hro45 (by omega)
                  obtain ⟨v46, e_v46⟩ : ∃ z : Int32, z = re9 + 1 := ⟨_, rfl⟩
                  refine lv_iinc (v := v46) hx hb d_Reader_readDirectory_172 hl (k := 7) rfl e_v46.symm (by decide +kernel) rfl (fun ls hl => ?_)
                  have t_v46 : v46.toInt = re9.toInt + 1 := by rw [e_v46]; exact i_add rfl (by decide) (by omega) (by omega)
                  have hl : lv_has ls 8 [(5, .int v46), (7, .int r27), (6, .int r7), (0, .ref h0), (1, .int x), (2, .int bg), (3, .int en), (4, .int la)] := hl
                  refine lv_iload hx hb d_Reader_readDirectory_175 (lv_at hl 7 rfl) ?_
                  refine lv_iload hx hb d_Reader_readDirectory_177 (lv_at hl 2 rfl) ?_
                  refine lv_iadd hx hb d_Reader_readDirectory_179 ?_
                  refine lv_topi (fun v47 e_v47 => ?_)
                  have t_v47 : v47.toInt = la.toInt + r7.toInt := by rw [e_v47]; exact i_add rfl rfl (by omega) (by omega)
                  refine lv_istore hx hb d_Reader_readDirectory_180 hl (by decide) rfl (fun ls hl => ?_)
                  have hl : lv_has ls 8 [(4, .int v47), (5, .int v46), (7, .int r27), (6, .int r7), (0, .ref h0), (1, .int x), (2, .int bg), (3, .int en)] := hl
                  refine lv_goto (tgt := 32) hx hb d_Reader_readDirectory_182 (by decide) ?_
                  have hP := hP.part (X := [(ra, .inl (cF, 99, .inr (.inr (.inr (.inr (rowF fa2_15 md2_18)))))), (h0, .inr (7, [.ref im, .ref pr, .ref ra, .int cn2_14, .int vw, .int wr])), (pr, .inr (6, [.ref im, fw2_28, .int nm2_29, .int co2_30, .int ta2_31, .int lc2_32])), (im, .inr (1, [.ref iq, .int L])), (iq, .inl (cB, n, .inl f))]) (cx := [(h0, .inr (7, [.ref im, .ref pr, .ref ra, .int cn2_14, .int vw, .int wr])), (ra, .inl (cF, 99, .inr (.inr (.inr (.inr (rowF fa2_15 md2_18)))))), (pr, .inr (6, [.ref im, fw2_28, .int nm2_29, .int co2_30, .int ta2_31, .int lc2_32])), (im, .inr (1, [.ref iq, .int L])), (iq, .inl (cB, n, .inl f))]) [1, 0, 2, 3, 4] rfl
                  have hD := hD.part (X := [(ra, .inl (cF, 99, .inr (.inr (.inr (.inr (rowF fa2_15 md2_18)))))), (h0, .inr (7, [.ref im, .ref pr, .ref ra, .int cn2_14, .int vw, .int wr])), (pr, .inr (6, [.ref im, fw2_28, .int nm2_29, .int co2_30, .int ta2_31, .int lc2_32])), (im, .inr (1, [.ref iq, .int L])), (iq, .inl (cB, n, .inl f))]) (cx := [(h0, .inr (7, [.ref im, .ref pr, .ref ra, .int cn2_14, .int vw, .int wr])), (ra, .inl (cF, 99, .inr (.inr (.inr (.inr (rowF fa2_15 md2_18)))))), (pr, .inr (6, [.ref im, fw2_28, .int nm2_29, .int co2_30, .int ta2_31, .int lc2_32])), (im, .inr (1, [.ref iq, .int L])), (iq, .inl (cB, n, .inl f))]) [1, 0, 2, 3, 4] (by decide +kernel) rfl
                  refine zz_know (fun hk2 hn2 => ?_)
                  refine W.widen (k := 297) (n := 46827) (by omega) (by omega) ?_
                  have hl := lv_sub hl [4, 5, 6, 7, 0, 1] rfl
                  exact ih32 _ (by first | omega | (dsimp only; omega)) bg en v47 v46 cn2_14 fw2_28 nm2_29 co2_30 ta2_31 lc2_32 fa2_15 gg43 cc44 md2_18 _ _ _ rfl ((by (try dsimp only); first | assumption | omega | trivial)) ((by (try dsimp only); first | assumption | omega | trivial)) ((by (try dsimp only); first | assumption | omega | trivial)) ((by (try dsimp only); first | assumption | omega | trivial)) (⟨by omega, by omega⟩) (hrk) ((by intro _ h7; exfalso; omega)) hP hD hS hl
                · skip
                  have g166_72 : ¬ r27.toInt = (-1) := fun h8 => h_9 ((i_eq rfl (by decide)).mpr h8)
                  refine lv_iload hx hb d_Reader_readDirectory_169 (lv_at hl 0 rfl) ?_
                  have hT0 : tot s.heap = T0 := hZq
                  refine zz_know (fun hk9 hn9 => ?_)
                  have hP9 := hP.part (X := [(ra, .inl (cF, 99, .inr (.inr (.inr (.inr (rowF fa2_15 md2_18)))))), (h0, .inr (7, [.ref im, .ref pr, .ref ra, .int cn2_14, .int vw, .int wr])), (pr, .inr (6, [.ref im, fw2_28, .int nm2_29, .int co2_30, .int ta2_31, .int lc2_32])), (im, .inr (1, [.ref iq, .int L])), (iq, .inl (cB, n, .inl f))]) (cx := [(h0, .inr (7, [.ref im, .ref pr, .ref ra, .int cn2_14, .int vw, .int wr])), (ra, .inl (cF, 99, .inr (.inr (.inr (.inr (rowF fa2_15 md2_18)))))), (pr, .inr (6, [.ref im, fw2_28, .int nm2_29, .int co2_30, .int ta2_31, .int lc2_32])), (im, .inr (1, [.ref iq, .int L])), (iq, .inl (cB, n, .inl f))]) [1, 0, 2, 3, 4] rfl
                  have hD9 := hD.part (X := [(ra, .inl (cF, 99, .inr (.inr (.inr (.inr (rowF fa2_15 md2_18)))))), (h0, .inr (7, [.ref im, .ref pr, .ref ra, .int cn2_14, .int vw, .int wr])), (pr, .inr (6, [.ref im, fw2_28, .int nm2_29, .int co2_30, .int ta2_31, .int lc2_32])), (im, .inr (1, [.ref iq, .int L])), (iq, .inl (cB, n, .inl f))]) (cx := [(h0, .inr (7, [.ref im, .ref pr, .ref ra, .int cn2_14, .int vw, .int wr])), (ra, .inl (cF, 99, .inr (.inr (.inr (.inr (rowF fa2_15 md2_18)))))), (pr, .inr (6, [.ref im, fw2_28, .int nm2_29, .int co2_30, .int ta2_31, .int lc2_32])), (im, .inr (1, [.ref iq, .int L])), (iq, .inl (cB, n, .inl f))]) [1, 0, 2, 3, 4] (by decide +kernel) rfl
                  refine W.widen (k := 300) (n := 47300) (by omega) (by omega) ?_
                  exact W.iret (v := r27) hx hb hr (fun t ht hW => ⟨⟨r27, (fw2_28, nm2_29, co2_30, ta2_31, lc2_32, cn2_14, fa2_15, gg43, cc44, md2_18), rfl, ⟨(by (try dsimp only); first | assumption | omega | trivial), (by (try dsimp only); intro h7; first | (exfalso; omega) | exact e9)⟩, ⟨by rw [ht]; omega, by rw [ht]; omega⟩, by rw [ht]; exact hP9, hD9⟩, hS.F ht⟩) hS.2.2 d_Reader_readDirectory_171
            · skip
              have g109_52 : r13.toInt = 0 := (i_eq rfl (by decide)).mp h_9
              refine lv_iload hx hb d_Reader_readDirectory_112 (lv_at hl 5 rfl) ?_
              have hT0 : tot s.heap = T0 := hZq
              refine zz_know (fun hk9 hn9 => ?_)
              have hP9 := hP.part (X := [(pr, .inr (6, [.ref im, lfw, .int lnm, .int lco, .int lta, .int llc])), (h0, .inr (7, [.ref im, .ref pr, .ref ra, .int cn2_14, .int vw, .int wr])), (ra, .inl (cF, 99, .inr (.inr (.inr (.inr (rowF fa2_15 md2_18)))))), (im, .inr (1, [.ref iq, .int L])), (iq, .inl (cB, n, .inl f))]) (cx := [(h0, .inr (7, [.ref im, .ref pr, .ref ra, .int cn2_14, .int vw, .int wr])), (ra, .inl (cF, 99, .inr (.inr (.inr (.inr (rowF fa2_15 md2_18)))))), (pr, .inr (6, [.ref im, lfw, .int lnm, .int lco, .int lta, .int llc])), (im, .inr (1, [.ref iq, .int L])), (iq, .inl (cB, n, .inl f))]) [1, 2, 0, 3, 4] rfl
              have hD9 := hD.part (X := [(pr, .inr (6, [.ref im, lfw, .int lnm, .int lco, .int lta, .int llc])), (h0, .inr (7, [.ref im, .ref pr, .ref ra, .int cn2_14, .int vw, .int wr])), (ra, .inl (cF, 99, .inr (.inr (.inr (.inr (rowF fa2_15 md2_18)))))), (im, .inr (1, [.ref iq, .int L])), (iq, .inl (cB, n, .inl f))]) (cx := [(h0, .inr (7, [.ref im, .ref pr, .ref ra, .int cn2_14, .int vw, .int wr])), (ra, .inl (cF, 99, .inr (.inr (.inr (.inr (rowF fa2_15 md2_18)))))), (pr, .inr (6, [.ref im, lfw, .int lnm, .int lco, .int lta, .int llc])), (im, .inr (1, [.ref iq, .int L])), (iq, .inl (cB, n, .inl f))]) [1, 2, 0, 3, 4] (by decide +kernel) rfl
              refine W.widen (k := 300) (n := 47300) (by omega) (by omega) ?_
              exact W.iret (v := la) hx hb hr (fun t ht hW => ⟨⟨la, (lfw, lnm, lco, lta, llc, cn2_14, fa2_15, ga2_16, cf2_17, md2_18), rfl, ⟨(by (try dsimp only); first | assumption | omega | trivial), (by (try dsimp only); intro h7; first | (exfalso; omega) | exact e9)⟩, ⟨by rw [ht]; omega, by rw [ht]; omega⟩, by rw [ht]; exact hP9, hD9⟩, hS.F ht⟩) hS.2.2 d_Reader_readDirectory_114
          · skip
            have g84_47 : ¬ 2 ≤ re9.toInt := fun h8 => h_9 ((i_le (by decide) rfl).mpr h8)
            refine lv_aload_n hx hb d_Reader_readDirectory_87 rfl (lv_at hl 1 rfl) ?_
            refine lv_iload_n hx hb d_Reader_readDirectory_88 rfl (lv_at hl 2 rfl) ?_
            refine lv_iload hx hb d_Reader_readDirectory_89 (lv_at hl 5 rfl) ?_
            refine lv_iload hx hb d_Reader_readDirectory_91 (lv_at hl 6 rfl) ?_
            have hPc := hP.part (X := [(ra, .inl (cF, 99, .inr (.inr (.inr (.inr (rowF lfa lmd)))))), (pr, .inr (6, [.ref im, lfw, .int lnm, .int lco, .int lta, .int llc])), (h0, .inr (7, [.ref im, .ref pr, .ref ra, .int lcn, .int vw, .int wr])), (im, .inr (1, [.ref iq, .int L])), (iq, .inl (cB, n, .inl f))]) (cx := [(h0, .inr (7, [.ref im, .ref pr, .ref ra, .int lcn, .int vw, .int wr])), (ra, .inl (cF, 99, .inr (.inr (.inr (.inr (rowF lfa lmd)))))), (im, .inr (1, [.ref iq, .int L])), (iq, .inl (cB, n, .inl f))]) [2, 0, 3, 4] rfl
            have hDc := hD.part (X := [(ra, .inl (cF, 99, .inr (.inr (.inr (.inr (rowF lfa lmd)))))), (pr, .inr (6, [.ref im, lfw, .int lnm, .int lco, .int lta, .int llc])), (h0, .inr (7, [.ref im, .ref pr, .ref ra, .int lcn, .int vw, .int wr])), (im, .inr (1, [.ref iq, .int L])), (iq, .inl (cB, n, .inl f))]) (cx := [(h0, .inr (7, [.ref im, .ref pr, .ref ra, .int lcn, .int vw, .int wr])), (ra, .inl (cF, 99, .inr (.inr (.inr (.inr (rowF lfa lmd)))))), (im, .inr (1, [.ref iq, .int L])), (iq, .inl (cB, n, .inl f))]) [2, 0, 3, 4] (by decide +kernel) rfl
            have hFc := va_freeP (X := [(ra, .inl (cF, 99, .inr (.inr (.inr (.inr (rowF lfa lmd)))))), (pr, .inr (6, [.ref im, lfw, .int lnm, .int lco, .int lta, .int llc])), (h0, .inr (7, [.ref im, .ref pr, .ref ra, .int lcn, .int vw, .int wr])), (im, .inr (1, [.ref iq, .int L])), (iq, .inl (cB, n, .inl f))]) (cx := [(h0, .inr (7, [.ref im, .ref pr, .ref ra, .int lcn, .int vw, .int wr])), (ra, .inl (cF, 99, .inr (.inr (.inr (.inr (rowF lfa lmd)))))), (im, .inr (1, [.ref iq, .int L])), (iq, .inl (cB, n, .inl f))]) hD hS hA [2, 0, 3, 4] rfl
            have hkc : (3 * (lmd - md)) + 0 ≤ 300 := by omega
            have hks : (473 * (lmd - md)) + 0 ≤ 47300 := by omega
            refine va_calli (va_runV (C := "DiscMaker$Reader") (As := [.int x, .int la, .int re9]) (rest := []) ⟨hx, hb, hml, hown, hts⟩ (c3_isOwnRecord l D cB cI cJ cZ cN cF H.size h0 pr ra im iq n L f lcn vw wr lfa lga lcf lmd x la re9 (by (try dsimp only); first | assumption | omega | trivial) (by (try dsimp only); first | assumption | omega | trivial) (by (try dsimp only); first | assumption | omega | trivial) (by (try dsimp only); first | assumption | omega | trivial) (by (try dsimp only); first | assumption | omega | trivial) (by (try dsimp only); first | assumption | omega | trivial)) (cwV 3 hts (lg_goodV k1288 k1290 k40 k123 kc_Reader_isOwnRecord) rfl rfl rfl (by decide +kernel) ⟨Nat.le_of_ble_eq_true rfl, Nat.le_of_ble_eq_true rfl⟩) ⟨fun a U g mk q => by obtain ⟨q0, q1, qP, qK, qN, qD⟩ := q; exact ⟨q0, q1, qP, va_K.moved (u := U) (U := U.calling g mk a) (Vm.Alike.refl U.vm) qK, qN.calling, qD⟩, va_recv hK hP (ci := 7) (q0 := 2) rfl rfl, fun U hU hW => ⟨rfl, by rw [hU], by rw [hU]; exact hPc, va_K.moved hW.alike hK, NN.warm hW hN, hDc.weaken (fun _ _ _ _ => trivial)⟩⟩ rfl rfl hl.1 rfl (lv_room (Nat.le_of_ble_eq_true rfl)) d_Reader_readDirectory_93 ⟨hkc, hks⟩) hS (fun q _ h => hFc q h) hFc (fun r48 u t H1 locs ht hvm hp_r48 hB hz1 hk1 hS => ?_)
            obtain ⟨hP1, hD1⟩ := hB
            rw [ht] at hP1
            obtain ⟨hP, hD⟩ := va_joinP (X := [(ra, .inl (cF, 99, .inr (.inr (.inr (.inr (rowF lfa lmd)))))), (pr, .inr (6, [.ref im, lfw, .int lnm, .int lco, .int lta, .int llc])), (h0, .inr (7, [.ref im, .ref pr, .ref ra, .int lcn, .int vw, .int wr])), (im, .inr (1, [.ref iq, .int L])), (iq, .inl (cB, n, .inl f))]) (cx := [(h0, .inr (7, [.ref im, .ref pr, .ref ra, .int lcn, .int vw, .int wr])), (ra, .inl (cF, 99, .inr (.inr (.inr (.inr (rowF lfa lmd)))))), (im, .inr (1, [.ref iq, .int L])), (iq, .inl (cB, n, .inl f))]) (wr := [(pr, .inr (6, [.ref im, lfw, .int lnm, .int lco, .int lta, .int llc]))]) (rx := [(h0, .inr (7, [.ref im, .ref pr, .ref ra, .int lcn, .int vw, .int wr])), (ra, .inl (cF, 99, .inr (.inr (.inr (.inr (rowF lfa lmd)))))), (im, .inr (1, [.ref iq, .int L])), (iq, .inl (cB, n, .inl f))]) hP hD [2, 0, 3, 4] [1] rfl rfl (by decide +kernel) (by decide +kernel) hk1 hFc hP1 hD1
            clear hPc hDc hFc hP1 hD1 hk1 hz1 hkc hks
            generalize H1 = H at hP hS ⊢
            have hP : va_P D CL (([(pr, .inr (6, [.ref im, lfw, .int lnm, .int lco, .int lta, .int llc])), (h0, .inr (7, [.ref im, .ref pr, .ref ra, .int lcn, .int vw, .int wr])), (ra, .inl (cF, 99, .inr (.inr (.inr (.inr (rowF lfa lmd)))))), (im, .inr (1, [.ref iq, .int L])), (iq, .inl (cB, n, .inl f))] : va_W) ++ (PL (FC cB lfa lga lcf) lmd)) H := hP
            have hD : va_D A (([(pr, .inr (6, [.ref im, lfw, .int lnm, .int lco, .int lta, .int llc])), (h0, .inr (7, [.ref im, .ref pr, .ref ra, .int lcn, .int vw, .int wr])), (ra, .inl (cF, 99, .inr (.inr (.inr (.inr (rowF lfa lmd)))))), (im, .inr (1, [.ref iq, .int L])), (iq, .inl (cB, n, .inl f))] : va_W) ++ (PL (FC cB lfa lga lcf) lmd)) := hD
            try dsimp only at hp_r48
            have hr_49 := hp_r48
            refine lv_if_eq (tgt := 112) hx hb d_Reader_readDirectory_96 (by decide) (fun h_9 => ?_) (fun h_9 => ?_)
            · skip
              have g96_89 : r48.toInt = 0 := (i_eq rfl (by decide)).mp h_9
              refine lv_iload hx hb d_Reader_readDirectory_112 (lv_at hl 5 rfl) ?_
              have hT0 : tot s.heap = T0 := hZq
              refine zz_know (fun hk9 hn9 => ?_)
              have hP9 := hP.part (X := [(pr, .inr (6, [.ref im, lfw, .int lnm, .int lco, .int lta, .int llc])), (h0, .inr (7, [.ref im, .ref pr, .ref ra, .int lcn, .int vw, .int wr])), (ra, .inl (cF, 99, .inr (.inr (.inr (.inr (rowF lfa lmd)))))), (im, .inr (1, [.ref iq, .int L])), (iq, .inl (cB, n, .inl f))]) (cx := [(h0, .inr (7, [.ref im, .ref pr, .ref ra, .int lcn, .int vw, .int wr])), (ra, .inl (cF, 99, .inr (.inr (.inr (.inr (rowF lfa lmd)))))), (pr, .inr (6, [.ref im, lfw, .int lnm, .int lco, .int lta, .int llc])), (im, .inr (1, [.ref iq, .int L])), (iq, .inl (cB, n, .inl f))]) [1, 2, 0, 3, 4] rfl
              have hD9 := hD.part (X := [(pr, .inr (6, [.ref im, lfw, .int lnm, .int lco, .int lta, .int llc])), (h0, .inr (7, [.ref im, .ref pr, .ref ra, .int lcn, .int vw, .int wr])), (ra, .inl (cF, 99, .inr (.inr (.inr (.inr (rowF lfa lmd)))))), (im, .inr (1, [.ref iq, .int L])), (iq, .inl (cB, n, .inl f))]) (cx := [(h0, .inr (7, [.ref im, .ref pr, .ref ra, .int lcn, .int vw, .int wr])), (ra, .inl (cF, 99, .inr (.inr (.inr (.inr (rowF lfa lmd)))))), (pr, .inr (6, [.ref im, lfw, .int lnm, .int lco, .int lta, .int llc])), (im, .inr (1, [.ref iq, .int L])), (iq, .inl (cB, n, .inl f))]) [1, 2, 0, 3, 4] (by decide +kernel) rfl
              refine W.widen (k := 300) (n := 47300) (by omega) (by omega) ?_
              exact W.iret (v := la) hx hb hr (fun t ht hW => ⟨⟨la, (lfw, lnm, lco, lta, llc, lcn, lfa, lga, lcf, lmd), rfl, ⟨(by (try dsimp only); first | assumption | omega | trivial), (by (try dsimp only); intro h7; first | (exfalso; omega) | exact e9)⟩, ⟨by rw [ht]; omega, by rw [ht]; omega⟩, by rw [ht]; exact hP9, hD9⟩, hS.F ht⟩) hS.2.2 d_Reader_readDirectory_114
            · skip
              have g96_89 : ¬ r48.toInt = 0 := fun h8 => h_9 ((i_eq rfl (by decide)).mpr h8)
              refine lv_goto (tgt := 115) hx hb d_Reader_readDirectory_99 (by decide) ?_
              refine lv_iconst (v := (-1)) hx hb d_Reader_readDirectory_115 (by decide) ?_
              refine lv_istore hx hb d_Reader_readDirectory_116 hl (by decide) rfl (fun ls hl => ?_)
              have hl : lv_has ls 8 [(7, .int (-1)), (6, .int r7), (0, .ref h0), (1, .int x), (2, .int bg), (3, .int en), (4, .int la), (5, .int re9)] := hl
              refine lv_iload hx hb d_Reader_readDirectory_118 (lv_at hl 7 rfl) ?_
              refine lv_iconst (v := 2) hx hb d_Reader_readDirectory_120 (by decide) ?_
              refine lv_icmp_lt (tgt := 146) hx hb d_Reader_readDirectory_121 (by decide) (fun h_9 => ?_) (fun h_9 => ?_)
              · skip
                have g121_97 : re9.toInt < 2 := (i_lt rfl (by decide)).mp h_9
                refine lv_iload_n hx hb d_Reader_readDirectory_146 rfl (lv_at hl 3 rfl) ?_
                refine lv_if_ne (tgt := 163) hx hb d_Reader_readDirectory_147 (by decide) (fun h_9 => ?_) (fun h_9 => ?_)
                · skip
                  have g147_99 : ¬ x.toInt = 0 := fun h8 => h_9 ((i_eq rfl (by decide)).mpr h8)
                  refine lv_iload hx hb d_Reader_readDirectory_163 (lv_at hl 0 rfl) ?_
                  refine lv_iconst (v := (-1)) hx hb d_Reader_readDirectory_165 (by decide) ?_
                  refine lv_icmp_eq (tgt := 172) hx hb d_Reader_readDirectory_166 (by decide) (fun _ => ?_) (fun h_9 => absurd (by decide) h_9)
                  obtain ⟨v50, e_v50⟩ : ∃ z : Int32, z = re9 + 1 := ⟨_, rfl⟩
                  refine lv_iinc (v := v50) hx hb d_Reader_readDirectory_172 hl (k := 7) rfl e_v50.symm (by decide +kernel) rfl (fun ls hl => ?_)
                  have t_v50 : v50.toInt = re9.toInt + 1 := by rw [e_v50]; exact i_add rfl (by decide) (by omega) (by omega)
                  have hl : lv_has ls 8 [(5, .int v50), (7, .int (-1)), (6, .int r7), (0, .ref h0), (1, .int x), (2, .int bg), (3, .int en), (4, .int la)] := hl
                  refine lv_iload hx hb d_Reader_readDirectory_175 (lv_at hl 7 rfl) ?_
                  refine lv_iload hx hb d_Reader_readDirectory_177 (lv_at hl 2 rfl) ?_
                  refine lv_iadd hx hb d_Reader_readDirectory_179 ?_
                  refine lv_topi (fun v51 e_v51 => ?_)
                  have t_v51 : v51.toInt = la.toInt + r7.toInt := by rw [e_v51]; exact i_add rfl rfl (by omega) (by omega)
                  refine lv_istore hx hb d_Reader_readDirectory_180 hl (by decide) rfl (fun ls hl => ?_)
                  have hl : lv_has ls 8 [(4, .int v51), (5, .int v50), (7, .int (-1)), (6, .int r7), (0, .ref h0), (1, .int x), (2, .int bg), (3, .int en)] := hl
                  refine lv_goto (tgt := 32) hx hb d_Reader_readDirectory_182 (by decide) ?_
                  have hP := hP.part (X := [(pr, .inr (6, [.ref im, lfw, .int lnm, .int lco, .int lta, .int llc])), (h0, .inr (7, [.ref im, .ref pr, .ref ra, .int lcn, .int vw, .int wr])), (ra, .inl (cF, 99, .inr (.inr (.inr (.inr (rowF lfa lmd)))))), (im, .inr (1, [.ref iq, .int L])), (iq, .inl (cB, n, .inl f))]) (cx := [(h0, .inr (7, [.ref im, .ref pr, .ref ra, .int lcn, .int vw, .int wr])), (ra, .inl (cF, 99, .inr (.inr (.inr (.inr (rowF lfa lmd)))))), (pr, .inr (6, [.ref im, lfw, .int lnm, .int lco, .int lta, .int llc])), (im, .inr (1, [.ref iq, .int L])), (iq, .inl (cB, n, .inl f))]) [1, 2, 0, 3, 4] rfl
                  have hD := hD.part (X := [(pr, .inr (6, [.ref im, lfw, .int lnm, .int lco, .int lta, .int llc])), (h0, .inr (7, [.ref im, .ref pr, .ref ra, .int lcn, .int vw, .int wr])), (ra, .inl (cF, 99, .inr (.inr (.inr (.inr (rowF lfa lmd)))))), (im, .inr (1, [.ref iq, .int L])), (iq, .inl (cB, n, .inl f))]) (cx := [(h0, .inr (7, [.ref im, .ref pr, .ref ra, .int lcn, .int vw, .int wr])), (ra, .inl (cF, 99, .inr (.inr (.inr (.inr (rowF lfa lmd)))))), (pr, .inr (6, [.ref im, lfw, .int lnm, .int lco, .int lta, .int llc])), (im, .inr (1, [.ref iq, .int L])), (iq, .inl (cB, n, .inl f))]) [1, 2, 0, 3, 4] (by decide +kernel) rfl
                  refine zz_know (fun hk2 hn2 => ?_)
                  refine W.widen (k := 297) (n := 46827) (by omega) (by omega) ?_
                  have hl := lv_sub hl [4, 5, 6, 7, 0, 1] rfl
                  exact ih32 _ (by first | omega | (dsimp only; omega)) bg en v51 v50 lcn lfw lnm lco lta llc lfa lga lcf lmd _ _ _ rfl ((by (try dsimp only); first | assumption | omega | trivial)) ((by (try dsimp only); first | assumption | omega | trivial)) ((by (try dsimp only); first | assumption | omega | trivial)) ((by (try dsimp only); first | assumption | omega | trivial)) (⟨by omega, by omega⟩) (e9) ((by intro _ h7; exfalso; omega)) hP hD hS hl
                · skip
                  have g147_99 : x.toInt = 0 := (i_eq rfl (by decide)).mp h_9
                  refine lv_iload hx hb d_Reader_readDirectory_150 (lv_at hl 7 rfl) ?_
                  refine lv_if_ne (tgt := 163) hx hb d_Reader_readDirectory_152 (by decide) (fun h_9 => ?_) (fun h_9 => ?_)
                  · skip
                    have g152_111 : ¬ re9.toInt = 0 := fun h8 => h_9 ((i_eq rfl (by decide)).mpr h8)
                    refine lv_iload hx hb d_Reader_readDirectory_163 (lv_at hl 0 rfl) ?_
                    refine lv_iconst (v := (-1)) hx hb d_Reader_readDirectory_165 (by decide) ?_
                    refine lv_icmp_eq (tgt := 172) hx hb d_Reader_readDirectory_166 (by decide) (fun _ => ?_) (fun h_9 => absurd (by decide) h_9)
                    obtain ⟨v52, e_v52⟩ : ∃ z : Int32, z = re9 + 1 := ⟨_, rfl⟩
                    refine lv_iinc (v := v52) hx hb d_Reader_readDirectory_172 hl (k := 7) rfl e_v52.symm (by decide +kernel) rfl (fun ls hl => ?_)
                    have t_v52 : v52.toInt = re9.toInt + 1 := by rw [e_v52]; exact i_add rfl (by decide) (by omega) (by omega)
                    have hl : lv_has ls 8 [(5, .int v52), (7, .int (-1)), (6, .int r7), (0, .ref h0), (1, .int x), (2, .int bg), (3, .int en), (4, .int la)] := hl
                    refine lv_iload hx hb d_Reader_readDirectory_175 (lv_at hl 7 rfl) ?_
                    refine lv_iload hx hb d_Reader_readDirectory_177 (lv_at hl 2 rfl) ?_
                    refine lv_iadd hx hb d_Reader_readDirectory_179 ?_
                    refine lv_topi (fun v53 e_v53 => ?_)
                    have t_v53 : v53.toInt = la.toInt + r7.toInt := by rw [e_v53]; exact i_add rfl rfl (by omega) (by omega)
                    refine lv_istore hx hb d_Reader_readDirectory_180 hl (by decide) rfl (fun ls hl => ?_)
                    have hl : lv_has ls 8 [(4, .int v53), (5, .int v52), (7, .int (-1)), (6, .int r7), (0, .ref h0), (1, .int x), (2, .int bg), (3, .int en)] := hl
                    refine lv_goto (tgt := 32) hx hb d_Reader_readDirectory_182 (by decide) ?_
                    have hP := hP.part (X := [(pr, .inr (6, [.ref im, lfw, .int lnm, .int lco, .int lta, .int llc])), (h0, .inr (7, [.ref im, .ref pr, .ref ra, .int lcn, .int vw, .int wr])), (ra, .inl (cF, 99, .inr (.inr (.inr (.inr (rowF lfa lmd)))))), (im, .inr (1, [.ref iq, .int L])), (iq, .inl (cB, n, .inl f))]) (cx := [(h0, .inr (7, [.ref im, .ref pr, .ref ra, .int lcn, .int vw, .int wr])), (ra, .inl (cF, 99, .inr (.inr (.inr (.inr (rowF lfa lmd)))))), (pr, .inr (6, [.ref im, lfw, .int lnm, .int lco, .int lta, .int llc])), (im, .inr (1, [.ref iq, .int L])), (iq, .inl (cB, n, .inl f))]) [1, 2, 0, 3, 4] rfl
                    have hD := hD.part (X := [(pr, .inr (6, [.ref im, lfw, .int lnm, .int lco, .int lta, .int llc])), (h0, .inr (7, [.ref im, .ref pr, .ref ra, .int lcn, .int vw, .int wr])), (ra, .inl (cF, 99, .inr (.inr (.inr (.inr (rowF lfa lmd)))))), (im, .inr (1, [.ref iq, .int L])), (iq, .inl (cB, n, .inl f))]) (cx := [(h0, .inr (7, [.ref im, .ref pr, .ref ra, .int lcn, .int vw, .int wr])), (ra, .inl (cF, 99, .inr (.inr (.inr (.inr (rowF lfa lmd)))))), (pr, .inr (6, [.ref im, lfw, .int lnm, .int lco, .int lta, .int llc])), (im, .inr (1, [.ref iq, .int L])), (iq, .inl (cB, n, .inl f))]) [1, 2, 0, 3, 4] (by decide +kernel) rfl
                    refine zz_know (fun hk2 hn2 => ?_)
                    refine W.widen (k := 297) (n := 46827) (by omega) (by omega) ?_
                    have hl := lv_sub hl [4, 5, 6, 7, 0, 1] rfl
                    exact ih32 _ (by first | omega | (dsimp only; omega)) bg en v53 v52 lcn lfw lnm lco lta llc lfa lga lcf lmd _ _ _ rfl ((by (try dsimp only); first | assumption | omega | trivial)) ((by (try dsimp only); first | assumption | omega | trivial)) ((by (try dsimp only); first | assumption | omega | trivial)) ((by (try dsimp only); first | assumption | omega | trivial)) (⟨by omega, by omega⟩) (e9) ((by intro _ h7; exfalso; omega)) hP hD hS hl
                  · skip
                    have g152_111 : re9.toInt = 0 := (i_eq rfl (by decide)).mp h_9
                    refine lv_aload_n hx hb d_Reader_readDirectory_155 rfl (lv_at hl 2 rfl) ?_
                    refine lv_iload hx hb d_Reader_readDirectory_156 (lv_at hl 6 rfl) ?_
                    have hPc := hP.part (X := [(pr, .inr (6, [.ref im, lfw, .int lnm, .int lco, .int lta, .int llc])), (h0, .inr (7, [.ref im, .ref pr, .ref ra, .int lcn, .int vw, .int wr])), (ra, .inl (cF, 99, .inr (.inr (.inr (.inr (rowF lfa lmd)))))), (im, .inr (1, [.ref iq, .int L])), (iq, .inl (cB, n, .inl f))]) (cx := [(h0, .inr (7, [.ref im, .ref pr, .ref ra, .int lcn, .int vw, .int wr])), (ra, .inl (cF, 99, .inr (.inr (.inr (.inr (rowF lfa lmd)))))), (pr, .inr (6, [.ref im, lfw, .int lnm, .int lco, .int lta, .int llc])), (im, .inr (1, [.ref iq, .int L])), (iq, .inl (cB, n, .inl f))]) [1, 2, 0, 3, 4] rfl
                    have hDc := hD.part (X := [(pr, .inr (6, [.ref im, lfw, .int lnm, .int lco, .int lta, .int llc])), (h0, .inr (7, [.ref im, .ref pr, .ref ra, .int lcn, .int vw, .int wr])), (ra, .inl (cF, 99, .inr (.inr (.inr (.inr (rowF lfa lmd)))))), (im, .inr (1, [.ref iq, .int L])), (iq, .inl (cB, n, .inl f))]) (cx := [(h0, .inr (7, [.ref im, .ref pr, .ref ra, .int lcn, .int vw, .int wr])), (ra, .inl (cF, 99, .inr (.inr (.inr (.inr (rowF lfa lmd)))))), (pr, .inr (6, [.ref im, lfw, .int lnm, .int lco, .int lta, .int llc])), (im, .inr (1, [.ref iq, .int L])), (iq, .inl (cB, n, .inl f))]) [1, 2, 0, 3, 4] (by decide +kernel) rfl
                    have hFc := va_freeP (X := [(pr, .inr (6, [.ref im, lfw, .int lnm, .int lco, .int lta, .int llc])), (h0, .inr (7, [.ref im, .ref pr, .ref ra, .int lcn, .int vw, .int wr])), (ra, .inl (cF, 99, .inr (.inr (.inr (.inr (rowF lfa lmd)))))), (im, .inr (1, [.ref iq, .int L])), (iq, .inl (cB, n, .inl f))]) (cx := [(h0, .inr (7, [.ref im, .ref pr, .ref ra, .int lcn, .int vw, .int wr])), (ra, .inl (cF, 99, .inr (.inr (.inr (.inr (rowF lfa lmd)))))), (pr, .inr (6, [.ref im, lfw, .int lnm, .int lco, .int lta, .int llc])), (im, .inr (1, [.ref iq, .int L])), (iq, .inl (cB, n, .inl f))]) hD hS hA [1, 2, 0, 3, 4] rfl
                    have hkc : (3 * (lmd - md)) + 0 ≤ 300 := by omega
                    have hks : (473 * (lmd - md)) + 0 ≤ 47300 := by omega
                    refine va_calli (va_runV (C := "DiscMaker$Reader") (As := [.int la]) (rest := []) ⟨hx, hb, hml, hown, hts⟩ (c3_describeRoot l D cB cI cJ cZ cN cF H.size h0 pr ra im iq n L f lcn vw wr lfw lnm lco lta llc lfa lga lcf lmd la (by (try dsimp only); first | assumption | omega | trivial) (by (try dsimp only); first | assumption | omega | trivial) (by (try dsimp only); first | assumption | omega | trivial) (by (try dsimp only); first | assumption | omega | trivial) (by (try dsimp only); first | assumption | omega | trivial) (by (try dsimp only); first | assumption | omega | trivial) (e9) (e10 (by omega) (by omega))) (cwV 1 hts (lg_goodV k1367 k1369 k51 k123 kc_Reader_describeRoot) rfl rfl rfl (by decide +kernel) ⟨Nat.le_of_ble_eq_true rfl, Nat.le_of_ble_eq_true rfl⟩) ⟨fun a U g mk q => by obtain ⟨q0, q1, qP, qK, qN, qD⟩ := q; exact ⟨q0, q1, qP, va_K.moved (u := U) (U := U.calling g mk a) (Vm.Alike.refl U.vm) qK, qN.calling, qD⟩, va_recv hK hP (ci := 7) (q0 := 1) rfl rfl, fun U hU hW => ⟨rfl, by rw [hU], by rw [hU]; exact hPc, va_K.moved hW.alike hK, NN.warm hW hN, hDc.weaken (fun _ _ _ _ => trivial)⟩⟩ rfl rfl hl.1 rfl (lv_room (Nat.le_of_ble_eq_true rfl)) d_Reader_readDirectory_158 ⟨hkc, hks⟩) hS (fun q _ h => hFc q h) hFc (fun r54 u t H1 locs ht hvm hp_r54 hB hz1 hk1 hS => ?_)
                    obtain ⟨fw2_55, nm2_56, co2_57, ta2_58, lc2_59, ga2_60, cf2_61⟩ := u
                    obtain ⟨hP1, hD1⟩ := hB
                    rw [ht] at hP1
                    obtain ⟨hP, hD⟩ := va_joinP (X := [(pr, .inr (6, [.ref im, lfw, .int lnm, .int lco, .int lta, .int llc])), (h0, .inr (7, [.ref im, .ref pr, .ref ra, .int lcn, .int vw, .int wr])), (ra, .inl (cF, 99, .inr (.inr (.inr (.inr (rowF lfa lmd)))))), (im, .inr (1, [.ref iq, .int L])), (iq, .inl (cB, n, .inl f))]) (cx := [(h0, .inr (7, [.ref im, .ref pr, .ref ra, .int lcn, .int vw, .int wr])), (ra, .inl (cF, 99, .inr (.inr (.inr (.inr (rowF lfa lmd)))))), (pr, .inr (6, [.ref im, lfw, .int lnm, .int lco, .int lta, .int llc])), (im, .inr (1, [.ref iq, .int L])), (iq, .inl (cB, n, .inl f))]) (wr := []) (rx := [(h0, .inr (7, [.ref im, .ref pr, .ref ra, .int lcn, .int vw, .int wr])), (ra, .inl (cF, 99, .inr (.inr (.inr (.inr (rowF lfa lmd)))))), (pr, .inr (6, [.ref im, fw2_55, .int nm2_56, .int co2_57, .int ta2_58, .int lc2_59])), (im, .inr (1, [.ref iq, .int L])), (iq, .inl (cB, n, .inl f))]) hP hD [1, 2, 0, 3, 4] [] rfl rfl (by decide +kernel) (by decide +kernel) hk1 hFc hP1 hD1
                    clear hPc hDc hFc hP1 hD1 hk1 hz1 hkc hks
                    generalize H1 = H at hP hS ⊢
                    have hP : va_P D CL (([(h0, .inr (7, [.ref im, .ref pr, .ref ra, .int lcn, .int vw, .int wr])), (ra, .inl (cF, 99, .inr (.inr (.inr (.inr (rowF lfa lmd)))))), (pr, .inr (6, [.ref im, fw2_55, .int nm2_56, .int co2_57, .int ta2_58, .int lc2_59])), (im, .inr (1, [.ref iq, .int L])), (iq, .inl (cB, n, .inl f))] : va_W) ++ (PL (FC cB lfa ga2_60 cf2_61) lmd)) H := hP
                    have hD : va_D A (([(h0, .inr (7, [.ref im, .ref pr, .ref ra, .int lcn, .int vw, .int wr])), (ra, .inl (cF, 99, .inr (.inr (.inr (.inr (rowF lfa lmd)))))), (pr, .inr (6, [.ref im, fw2_55, .int nm2_56, .int co2_57, .int ta2_58, .int lc2_59])), (im, .inr (1, [.ref iq, .int L])), (iq, .inl (cB, n, .inl f))] : va_W) ++ (PL (FC cB lfa ga2_60 cf2_61) lmd)) := hD
                    try dsimp only at hp_r54
                    have hrok2_62 := hp_r54
                    refine lv_istore hx hb d_Reader_readDirectory_161 hl (by decide) rfl (fun ls hl => ?_)
                    have hl : lv_has ls 8 [(7, .int r54), (6, .int r7), (0, .ref h0), (1, .int x), (2, .int bg), (3, .int en), (4, .int la), (5, .int re9)] := hl
                    refine lv_iload hx hb d_Reader_readDirectory_163 (lv_at hl 0 rfl) ?_
                    refine lv_iconst (v := (-1)) hx hb d_Reader_readDirectory_165 (by decide) ?_
                    refine lv_icmp_eq (tgt := 172) hx hb d_Reader_readDirectory_166 (by decide) (fun h_9 => ?_) (fun h_9 => ?_)
                    · skip
                      have g166_128 : r54.toInt = (-1) := (i_eq rfl (by decide)).mp h_9
                      have hrk := hrok2_62 (by omega)
                      obtain ⟨v63, e_v63⟩ : ∃ z : Int32, z = re9 + 1 := ⟨_, rfl⟩
                      refine lv_iinc (v := v63) hx hb d_Reader_readDirectory_172 hl (k := 7) rfl e_v63.symm (by decide +kernel) rfl (fun ls hl => ?_)
                      have t_v63 : v63.toInt = re9.toInt + 1 := by rw [e_v63]; exact i_add rfl (by decide) (by omega) (by omega)
                      have hl : lv_has ls 8 [(5, .int v63), (7, .int r54), (6, .int r7), (0, .ref h0), (1, .int x), (2, .int bg), (3, .int en), (4, .int la)] := hl
                      refine lv_iload hx hb d_Reader_readDirectory_175 (lv_at hl 7 rfl) ?_
                      refine lv_iload hx hb d_Reader_readDirectory_177 (lv_at hl 2 rfl) ?_
                      refine lv_iadd hx hb d_Reader_readDirectory_179 ?_
                      refine lv_topi (fun v64 e_v64 => ?_)
                      have t_v64 : v64.toInt = la.toInt + r7.toInt := by rw [e_v64]; exact i_add rfl rfl (by omega) (by omega)
                      refine lv_istore hx hb d_Reader_readDirectory_180 hl (by decide) rfl (fun ls hl => ?_)
                      have hl : lv_has ls 8 [(4, .int v64), (5, .int v63), (7, .int r54), (6, .int r7), (0, .ref h0), (1, .int x), (2, .int bg), (3, .int en)] := hl
                      refine lv_goto (tgt := 32) hx hb d_Reader_readDirectory_182 (by decide) ?_
                      have hP := hP.part (X := [(h0, .inr (7, [.ref im, .ref pr, .ref ra, .int lcn, .int vw, .int wr])), (ra, .inl (cF, 99, .inr (.inr (.inr (.inr (rowF lfa lmd)))))), (pr, .inr (6, [.ref im, fw2_55, .int nm2_56, .int co2_57, .int ta2_58, .int lc2_59])), (im, .inr (1, [.ref iq, .int L])), (iq, .inl (cB, n, .inl f))]) (cx := [(h0, .inr (7, [.ref im, .ref pr, .ref ra, .int lcn, .int vw, .int wr])), (ra, .inl (cF, 99, .inr (.inr (.inr (.inr (rowF lfa lmd)))))), (pr, .inr (6, [.ref im, fw2_55, .int nm2_56, .int co2_57, .int ta2_58, .int lc2_59])), (im, .inr (1, [.ref iq, .int L])), (iq, .inl (cB, n, .inl f))]) [0, 1, 2, 3, 4] rfl
                      have hD := hD.part (X := [(h0, .inr (7, [.ref im, .ref pr, .ref ra, .int lcn, .int vw, .int wr])), (ra, .inl (cF, 99, .inr (.inr (.inr (.inr (rowF lfa lmd)))))), (pr, .inr (6, [.ref im, fw2_55, .int nm2_56, .int co2_57, .int ta2_58, .int lc2_59])), (im, .inr (1, [.ref iq, .int L])), (iq, .inl (cB, n, .inl f))]) (cx := [(h0, .inr (7, [.ref im, .ref pr, .ref ra, .int lcn, .int vw, .int wr])), (ra, .inl (cF, 99, .inr (.inr (.inr (.inr (rowF lfa lmd)))))), (pr, .inr (6, [.ref im, fw2_55, .int nm2_56, .int co2_57, .int ta2_58, .int lc2_59])), (im, .inr (1, [.ref iq, .int L])), (iq, .inl (cB, n, .inl f))]) [0, 1, 2, 3, 4] (by decide +kernel) rfl
                      refine zz_know (fun hk2 hn2 => ?_)
                      refine W.widen (k := 297) (n := 46827) (by omega) (by omega) ?_
                      have hl := lv_sub hl [4, 5, 6, 7, 0, 1] rfl
                      exact ih32 _ (by first | omega | (dsimp only; omega)) bg en v64 v63 lcn fw2_55 nm2_56 co2_57 ta2_58 lc2_59 lfa ga2_60 cf2_61 lmd _ _ _ rfl ((by (try dsimp only); first | assumption | omega | trivial)) ((by (try dsimp only); first | assumption | omega | trivial)) ((by (try dsimp only); first | assumption | omega | trivial)) ((by (try dsimp only); first | assumption | omega | trivial)) (⟨by omega, by omega⟩) (hrk) ((by intro _ h7; exfalso; omega)) hP hD hS hl
                    · skip
                      have g166_128 : ¬ r54.toInt = (-1) := fun h8 => h_9 ((i_eq rfl (by decide)).mpr h8)
                      refine lv_iload hx hb d_Reader_readDirectory_169 (lv_at hl 0 rfl) ?_
                      have hT0 : tot s.heap = T0 := hZq
                      refine zz_know (fun hk9 hn9 => ?_)
                      have hP9 := hP.part (X := [(h0, .inr (7, [.ref im, .ref pr, .ref ra, .int lcn, .int vw, .int wr])), (ra, .inl (cF, 99, .inr (.inr (.inr (.inr (rowF lfa lmd)))))), (pr, .inr (6, [.ref im, fw2_55, .int nm2_56, .int co2_57, .int ta2_58, .int lc2_59])), (im, .inr (1, [.ref iq, .int L])), (iq, .inl (cB, n, .inl f))]) (cx := [(h0, .inr (7, [.ref im, .ref pr, .ref ra, .int lcn, .int vw, .int wr])), (ra, .inl (cF, 99, .inr (.inr (.inr (.inr (rowF lfa lmd)))))), (pr, .inr (6, [.ref im, fw2_55, .int nm2_56, .int co2_57, .int ta2_58, .int lc2_59])), (im, .inr (1, [.ref iq, .int L])), (iq, .inl (cB, n, .inl f))]) [0, 1, 2, 3, 4] rfl
                      have hD9 := hD.part (X := [(h0, .inr (7, [.ref im, .ref pr, .ref ra, .int lcn, .int vw, .int wr])), (ra, .inl (cF, 99, .inr (.inr (.inr (.inr (rowF lfa lmd)))))), (pr, .inr (6, [.ref im, fw2_55, .int nm2_56, .int co2_57, .int ta2_58, .int lc2_59])), (im, .inr (1, [.ref iq, .int L])), (iq, .inl (cB, n, .inl f))]) (cx := [(h0, .inr (7, [.ref im, .ref pr, .ref ra, .int lcn, .int vw, .int wr])), (ra, .inl (cF, 99, .inr (.inr (.inr (.inr (rowF lfa lmd)))))), (pr, .inr (6, [.ref im, fw2_55, .int nm2_56, .int co2_57, .int ta2_58, .int lc2_59])), (im, .inr (1, [.ref iq, .int L])), (iq, .inl (cB, n, .inl f))]) [0, 1, 2, 3, 4] (by decide +kernel) rfl
                      refine W.widen (k := 300) (n := 47300) (by omega) (by omega) ?_
                      exact W.iret (v := r54) hx hb hr (fun t ht hW => ⟨⟨r54, (fw2_55, nm2_56, co2_57, ta2_58, lc2_59, lcn, lfa, ga2_60, cf2_61, lmd), rfl, ⟨(by (try dsimp only); first | assumption | omega | trivial), (by (try dsimp only); intro h7; first | (exfalso; omega) | exact e9)⟩, ⟨by rw [ht]; omega, by rw [ht]; omega⟩, by rw [ht]; exact hP9, hD9⟩, hS.F ht⟩) hS.2.2 d_Reader_readDirectory_171
              · skip
                have g121_97 : ¬ re9.toInt < 2 := fun h8 => h_9 ((i_lt rfl (by decide)).mpr h8)
                exfalso
                omega
      · skip
        have g51_38 : r7.toInt = 0 := (i_eq rfl (by decide)).mp h_9
        refine lv_iload hx hb d_Reader_readDirectory_54 (lv_at hl 5 rfl) ?_
        refine lv_sipush (v := 2048) hx hb d_Reader_readDirectory_56 (by decide) ?_
        refine lv_iload hx hb d_Reader_readDirectory_59 (lv_at hl 5 rfl) ?_
        refine lv_sipush (v := 2048) hx hb d_Reader_readDirectory_61 (by decide) ?_
        refine lv_irem hx hb d_Reader_readDirectory_64 (by decide) ?_
        refine lv_topi (fun v65 e_v65 => ?_)
        have t_v65 : v65.toInt = la.toInt % 2048 := by rw [e_v65]; exact i_rem rfl (by decide) (by omega) (by omega)
        refine lv_isub hx hb d_Reader_readDirectory_65 ?_
        refine lv_topi (fun v66 e_v66 => ?_)
        have t_v66 : v66.toInt = 2048 - v65.toInt := by rw [e_v66]; exact i_sub (by decide) rfl (by omega) (by omega)
        refine lv_iadd hx hb d_Reader_readDirectory_66 ?_
        refine lv_topi (fun v67 e_v67 => ?_)
        have t_v67 : v67.toInt = la.toInt + v66.toInt := by rw [e_v67]; exact i_add rfl rfl (by omega) (by omega)
        refine lv_istore hx hb d_Reader_readDirectory_67 hl (by decide) rfl (fun ls hl => ?_)
        have hl : lv_has ls 8 [(4, .int v67), (6, .int r7), (0, .ref h0), (1, .int x), (2, .int bg), (3, .int en), (5, .int re9)] := hl
        refine lv_goto (tgt := 32) hx hb d_Reader_readDirectory_69 (by decide) ?_
        have hP := hP.part (X := [(h0, .inr (7, [.ref im, .ref pr, .ref ra, .int lcn, .int vw, .int wr])), (ra, .inl (cF, 99, .inr (.inr (.inr (.inr (rowF lfa lmd)))))), (pr, .inr (6, [.ref im, lfw, .int lnm, .int lco, .int lta, .int llc])), (im, .inr (1, [.ref iq, .int L])), (iq, .inl (cB, n, .inl f))]) (cx := [(h0, .inr (7, [.ref im, .ref pr, .ref ra, .int lcn, .int vw, .int wr])), (ra, .inl (cF, 99, .inr (.inr (.inr (.inr (rowF lfa lmd)))))), (pr, .inr (6, [.ref im, lfw, .int lnm, .int lco, .int lta, .int llc])), (im, .inr (1, [.ref iq, .int L])), (iq, .inl (cB, n, .inl f))]) [0, 1, 2, 3, 4] rfl
        have hD := hD.part (X := [(h0, .inr (7, [.ref im, .ref pr, .ref ra, .int lcn, .int vw, .int wr])), (ra, .inl (cF, 99, .inr (.inr (.inr (.inr (rowF lfa lmd)))))), (pr, .inr (6, [.ref im, lfw, .int lnm, .int lco, .int lta, .int llc])), (im, .inr (1, [.ref iq, .int L])), (iq, .inl (cB, n, .inl f))]) (cx := [(h0, .inr (7, [.ref im, .ref pr, .ref ra, .int lcn, .int vw, .int wr])), (ra, .inl (cF, 99, .inr (.inr (.inr (.inr (rowF lfa lmd)))))), (pr, .inr (6, [.ref im, lfw, .int lnm, .int lco, .int lta, .int llc])), (im, .inr (1, [.ref iq, .int L])), (iq, .inl (cB, n, .inl f))]) [0, 1, 2, 3, 4] (by decide +kernel) rfl
        refine zz_know (fun hk2 hn2 => ?_)
        refine W.widen (k := 297) (n := 46827) (by omega) (by omega) ?_
        have hl := lv_sub hl [2, 3, 4, 5, 0, 6] rfl
        exact ih32 _ (by first | omega | (dsimp only; omega)) bg en v67 re9 lcn lfw lnm lco lta llc lfa lga lcf lmd _ _ _ rfl ((by (try dsimp only); first | assumption | omega | trivial)) ((by (try dsimp only); first | assumption | omega | trivial)) ((by (try dsimp only); first | assumption | omega | trivial)) ((by (try dsimp only); first | assumption | omega | trivial)) (⟨by omega, by omega⟩) (e9) (e10) hP hD hS hl
  · skip
    intro kk32
    refine zz_tightT (k := 0) (n := 0) hk0 hn0 ?_
    have hP := hP.part (X := [(h0, .inr (7, [.ref im, .ref pr, .ref ra, .int cn, .int vw, .int wr])), (ra, .inl (cF, 99, .inr (.inr (.inr (.inr (rowF fa md)))))), (pr, .inr (6, [.ref im, fw, .int nm, .int co, .int ta, .int lc])), (im, .inr (1, [.ref iq, .int L])), (iq, .inl (cB, n, .inl f))]) (cx := [(h0, .inr (7, [.ref im, .ref pr, .ref ra, .int cn, .int vw, .int wr])), (ra, .inl (cF, 99, .inr (.inr (.inr (.inr (rowF fa md)))))), (pr, .inr (6, [.ref im, fw, .int nm, .int co, .int ta, .int lc])), (im, .inr (1, [.ref iq, .int L])), (iq, .inl (cB, n, .inl f))]) [0, 1, 2, 3, 4] rfl
    have hD := hD.part (X := [(h0, .inr (7, [.ref im, .ref pr, .ref ra, .int cn, .int vw, .int wr])), (ra, .inl (cF, 99, .inr (.inr (.inr (.inr (rowF fa md)))))), (pr, .inr (6, [.ref im, fw, .int nm, .int co, .int ta, .int lc])), (im, .inr (1, [.ref iq, .int L])), (iq, .inl (cB, n, .inl f))]) (cx := [(h0, .inr (7, [.ref im, .ref pr, .ref ra, .int cn, .int vw, .int wr])), (ra, .inl (cF, 99, .inr (.inr (.inr (.inr (rowF fa md)))))), (pr, .inr (6, [.ref im, fw, .int nm, .int co, .int ta, .int lc])), (im, .inr (1, [.ref iq, .int L])), (iq, .inl (cB, n, .inl f))]) [0, 1, 2, 3, 4] (by decide +kernel) rfl
    refine zz_know (fun hk2 hn2 => ?_)
    refine W.widen (k := 297) (n := 46827) (by omega) (by omega) ?_
    have hl := lv_sub hl [4, 5, 3, 2, 1, 0] rfl
    exact kk32 _ v3 v6 v3 0 cn fw nm co ta lc fa ga cf md _ _ _ rfl ((by (try dsimp only); first | assumption | omega | trivial)) ((by (try dsimp only); first | assumption | omega | trivial)) ((by (try dsimp only); first | assumption | omega | trivial)) ((by (try dsimp only); first | assumption | omega | trivial)) (⟨by omega, by omega⟩) (hrok) ((fun h7 _ => h00 h7)) hP hD hS hl

theorem d_Reader_open_0 : decode b_Reader_open 0 = .ok (.aload_n 0, 1) := by decide +kernel
theorem d_Reader_open_1 : decode b_Reader_open 1 = .ok (.iload_n 1, 1) := by decide +kernel
theorem d_Reader_open_2 : decode b_Reader_open 2 = .ok (.putfield 34, 3) := by decide +kernel
theorem d_Reader_open_5 : decode b_Reader_open 5 = .ok (.aload_n 0, 1) := by decide +kernel
theorem d_Reader_open_6 : decode b_Reader_open 6 = .ok (.iconst 0, 1) := by decide +kernel
theorem d_Reader_open_7 : decode b_Reader_open 7 = .ok (.putfield 30, 3) := by decide +kernel
theorem d_Reader_open_10 : decode b_Reader_open 10 = .ok (.aload_n 0, 1) := by decide +kernel
theorem d_Reader_open_11 : decode b_Reader_open 11 = .ok (.iconst (-1), 1) := by decide +kernel
theorem d_Reader_open_12 : decode b_Reader_open 12 = .ok (.putfield 37, 3) := by decide +kernel
theorem d_Reader_open_15 : decode b_Reader_open 15 = .ok (.aload_n 0, 1) := by decide +kernel
theorem d_Reader_open_16 : decode b_Reader_open 16 = .ok (.invokevirtual 40, 3) := by decide +kernel
theorem d_Reader_open_19 : decode b_Reader_open 19 = .ok (.istore_n 2, 1) := by decide +kernel
theorem d_Reader_open_20 : decode b_Reader_open 20 = .ok (.aload_n 0, 1) := by decide +kernel
theorem d_Reader_open_21 : decode b_Reader_open 21 = .ok (.getfield 37, 3) := by decide +kernel
theorem d_Reader_open_24 : decode b_Reader_open 24 = .ok (.iconst (-1), 1) := by decide +kernel
theorem d_Reader_open_25 : decode b_Reader_open 25 = .ok (.if_icmp .ne 12, 3) := by decide +kernel
theorem d_Reader_open_28 : decode b_Reader_open 28 = .ok (.aload_n 0, 1) := by decide +kernel
theorem d_Reader_open_29 : decode b_Reader_open 29 = .ok (.aload_n 0, 1) := by decide +kernel
theorem d_Reader_open_30 : decode b_Reader_open 30 = .ok (.iload_n 2, 1) := by decide +kernel
theorem d_Reader_open_31 : decode b_Reader_open 31 = .ok (.invokevirtual 44, 3) := by decide +kernel
theorem d_Reader_open_34 : decode b_Reader_open 34 = .ok (.putfield 37, 3) := by decide +kernel
theorem d_Reader_open_37 : decode b_Reader_open 37 = .ok (.iconst 0, 1) := by decide +kernel
theorem d_Reader_open_38 : decode b_Reader_open 38 = .ok (.istore_n 3, 1) := by decide +kernel
theorem d_Reader_open_39 : decode b_Reader_open 39 = .ok (.iload_n 3, 1) := by decide +kernel
theorem d_Reader_open_40 : decode b_Reader_open 40 = .ok (.aload_n 0, 1) := by decide +kernel
theorem d_Reader_open_41 : decode b_Reader_open 41 = .ok (.getfield 30, 3) := by decide +kernel
theorem d_Reader_open_44 : decode b_Reader_open 44 = .ok (.if_icmp .ge 38, 3) := by decide +kernel
theorem d_Reader_open_47 : decode b_Reader_open 47 = .ok (.aload_n 0, 1) := by decide +kernel
theorem d_Reader_open_48 : decode b_Reader_open 48 = .ok (.getfield 37, 3) := by decide +kernel
theorem d_Reader_open_51 : decode b_Reader_open 51 = .ok (.iconst (-1), 1) := by decide +kernel
theorem d_Reader_open_52 : decode b_Reader_open 52 = .ok (.if_icmp .ne 30, 3) := by decide +kernel
theorem d_Reader_open_55 : decode b_Reader_open 55 = .ok (.aload_n 0, 1) := by decide +kernel
theorem d_Reader_open_56 : decode b_Reader_open 56 = .ok (.getfield 11, 3) := by decide +kernel
theorem d_Reader_open_59 : decode b_Reader_open 59 = .ok (.iload_n 3, 1) := by decide +kernel
theorem d_Reader_open_60 : decode b_Reader_open 60 = .ok (.aaload, 1) := by decide +kernel
theorem d_Reader_open_61 : decode b_Reader_open 61 = .ok (.getfield 48, 3) := by decide +kernel
theorem d_Reader_open_64 : decode b_Reader_open 64 = .ok (.ifCond .ne 12, 3) := by decide +kernel
theorem d_Reader_open_67 : decode b_Reader_open 67 = .ok (.aload_n 0, 1) := by decide +kernel
theorem d_Reader_open_68 : decode b_Reader_open 68 = .ok (.aload_n 0, 1) := by decide +kernel
theorem d_Reader_open_69 : decode b_Reader_open 69 = .ok (.iload_n 3, 1) := by decide +kernel
theorem d_Reader_open_70 : decode b_Reader_open 70 = .ok (.invokevirtual 51, 3) := by decide +kernel
theorem d_Reader_open_73 : decode b_Reader_open 73 = .ok (.putfield 37, 3) := by decide +kernel
theorem d_Reader_open_76 : decode b_Reader_open 76 = .ok (.iinc 3 1, 3) := by decide +kernel
theorem d_Reader_open_79 : decode b_Reader_open 79 = .ok (.goto (-40), 3) := by decide +kernel
theorem d_Reader_open_82 : decode b_Reader_open 82 = .ok (.aload_n 0, 1) := by decide +kernel
theorem d_Reader_open_83 : decode b_Reader_open 83 = .ok (.getfield 37, 3) := by decide +kernel
theorem d_Reader_open_86 : decode b_Reader_open 86 = .ok (.iconst (-1), 1) := by decide +kernel
theorem d_Reader_open_87 : decode b_Reader_open 87 = .ok (.if_icmp .eq 15, 3) := by decide +kernel
theorem d_Reader_open_90 : decode b_Reader_open 90 = .ok (.aload_n 0, 1) := by decide +kernel
theorem d_Reader_open_91 : decode b_Reader_open 91 = .ok (.iconst 0, 1) := by decide +kernel
theorem d_Reader_open_92 : decode b_Reader_open 92 = .ok (.putfield 30, 3) := by decide +kernel
theorem d_Reader_open_95 : decode b_Reader_open 95 = .ok (.iconst (-1), 1) := by decide +kernel
theorem d_Reader_open_96 : decode b_Reader_open 96 = .ok (.aload_n 0, 1) := by decide +kernel
theorem d_Reader_open_97 : decode b_Reader_open 97 = .ok (.getfield 37, 3) := by decide +kernel
theorem d_Reader_open_100 : decode b_Reader_open 100 = .ok (.isub, 1) := by decide +kernel
theorem d_Reader_open_101 : decode b_Reader_open 101 = .ok (.ireturn, 1) := by decide +kernel
theorem d_Reader_open_102 : decode b_Reader_open 102 = .ok (.aload_n 0, 1) := by decide +kernel
theorem d_Reader_open_103 : decode b_Reader_open 103 = .ok (.getfield 30, 3) := by decide +kernel
theorem d_Reader_open_106 : decode b_Reader_open 106 = .ok (.ireturn, 1) := by decide +kernel
set_option maxHeartbeats 4000000 in
set_option maxRecDepth 100000 in
theorem c3_open (l : Launch) (D : va_G) (cB cI cJ cZ cN cF : ClassId) (sz : Nat) (h0 : Nat) (pr : Nat) (ra : Nat) (im : Nat) (iq : Nat) (n : Nat) (L : Int32) (f : Nat → Int32) (cn : Int32) (vw : Int32) (wr : Int32) (fw : Value) (nm : Int32) (co : Int32) (ta : Int32) (lc : Int32) (fa : Nat → Nat → Nat) (ga : Nat → Nat → Int32) (cf : Nat → Nat → Nat → Int32) (md : Nat) (td : Nat) (ts : Nat) (tl : Nat) (gd : Nat → Int32) (gs : Nat → Int32) (gl : Nat → Int32) (T0 : Nat) (x : Int32) (hL : 0 ≤ L.toInt ∧ L.toInt ≤ n) (hn : n ≤ 3000000) (hcn : 0 ≤ cn.toInt ∧ cn.toInt ≤ md) (hmd : md ≤ 99) : Met l y_Reader_open w_Reader_open ({ frames := 6, cells := 597, slots := 94127, locals := 188 }) (va_Pc [.ref h0, .int x] (fun U => U.heap.size = sz ∧ va_P D CL (([(h0, .inr (7, [.ref im, .ref pr, .ref ra, .int cn, .int vw, .int wr])), (ra, .inl (cF, 99, .inr (.inr (.inr (.inr (rowF fa md)))))), (pr, .inr (6, [.ref im, fw, .int nm, .int co, .int ta, .int lc])), (im, .inr (1, [.ref iq, .int L])), (iq, .inl (cB, n, .inl f))] : va_W) ++ (PL (FC cB fa ga cf) md)) U.heap ∧ va_K D CL (TY cB cI cJ cZ cN cF) U ∧ NN U ∧ va_D (fun _ => True) (([(h0, .inr (7, [.ref im, .ref pr, .ref ra, .int cn, .int vw, .int wr])), (ra, .inl (cF, 99, .inr (.inr (.inr (.inr (rowF fa md)))))), (pr, .inr (6, [.ref im, fw, .int nm, .int co, .int ta, .int lc])), (im, .inr (1, [.ref iq, .int L])), (iq, .inl (cB, n, .inl f))] : va_W) ++ (PL (FC cB fa ga cf) md)) ∧ SZ td ts tl gd gs gl (va_A (([(h0, .inr (7, [.ref im, .ref pr, .ref ra, .int cn, .int vw, .int wr])), (ra, .inl (cF, 99, .inr (.inr (.inr (.inr (rowF fa md)))))), (pr, .inr (6, [.ref im, fw, .int nm, .int co, .int ta, .int lc])), (im, .inr (1, [.ref iq, .int L])), (iq, .inl (cB, n, .inl f))] : va_W) ++ (PL (FC cB fa ga cf) md)) sz) U U.heap ∧ TOT T0 (va_A (([(h0, .inr (7, [.ref im, .ref pr, .ref ra, .int cn, .int vw, .int wr])), (ra, .inl (cF, 99, .inr (.inr (.inr (.inr (rowF fa md)))))), (pr, .inr (6, [.ref im, fw, .int nm, .int co, .int ta, .int lc])), (im, .inr (1, [.ref iq, .int L])), (iq, .inl (cB, n, .inl f))] : va_W) ++ (PL (FC cB fa ga cf) md)) sz) U U.heap)) (va_Qi (fun (r : Int32) (u : Value × Int32 × Int32 × Int32 × Int32 × Int32 × Int32 × (Nat → Nat → Nat) × (Nat → Nat → Int32) × (Nat → Nat → Nat → Int32) × Nat) => match u with | (fw2, nm2, co2, ta2, lc2, cn2, wr2, fa2, ga2, cf2, md2) => (0 ≤ cn2.toInt ∧ cn2.toInt ≤ md2 ∧ md ≤ md2 ∧ md2 ≤ 99) ∧ (ROn cn2.toInt ga2)) (fun (u : Value × Int32 × Int32 × Int32 × Int32 × Int32 × Int32 × (Nat → Nat → Nat) × (Nat → Nat → Int32) × (Nat → Nat → Nat → Int32) × Nat) (t : State) => match u with | (fw2, nm2, co2, ta2, lc2, cn2, wr2, fa2, ga2, cf2, md2) => (t.heap.size ≤ sz + 3 * (md2 - md) ∧ tot t.heap ≤ T0 + 473 * (md2 - md)) ∧ va_P D CL (([(h0, .inr (7, [.ref im, .ref pr, .ref ra, .int cn2, .int x, .int wr2])), (ra, .inl (cF, 99, .inr (.inr (.inr (.inr (rowF fa2 md2)))))), (pr, .inr (6, [.ref im, fw2, .int nm2, .int co2, .int ta2, .int lc2])), (im, .inr (1, [.ref iq, .int L])), (iq, .inl (cB, n, .inl f))] : va_W) ++ (PL (FC cB fa2 ga2 cf2) md2)) t.heap ∧ va_D (va_A (([(h0, .inr (7, [.ref im, .ref pr, .ref ra, .int cn, .int vw, .int wr])), (ra, .inl (cF, 99, .inr (.inr (.inr (.inr (rowF fa md)))))), (pr, .inr (6, [.ref im, fw, .int nm, .int co, .int ta, .int lc])), (im, .inr (1, [.ref iq, .int L])), (iq, .inl (cB, n, .inl f))] : va_W) ++ (PL (FC cB fa ga cf) md)) sz) (([(h0, .inr (7, [.ref im, .ref pr, .ref ra, .int cn2, .int x, .int wr2])), (ra, .inl (cF, 99, .inr (.inr (.inr (.inr (rowF fa2 md2)))))), (pr, .inr (6, [.ref im, fw2, .int nm2, .int co2, .int ta2, .int lc2])), (im, .inr (1, [.ref iq, .int L])), (iq, .inl (cB, n, .inl f))] : va_W) ++ (PL (FC cB fa2 ga2 cf2) md2))) (va_A (([(h0, .inr (7, [.ref im, .ref pr, .ref ra, .int cn, .int vw, .int wr])), (ra, .inl (cF, 99, .inr (.inr (.inr (.inr (rowF fa md)))))), (pr, .inr (6, [.ref im, fw, .int nm, .int co, .int ta, .int lc])), (im, .inr (1, [.ref iq, .int L])), (iq, .inl (cB, n, .inl f))] : va_W) ++ (PL (FC cB fa ga cf) md)) sz)) 597 94127 (va_A (([(h0, .inr (7, [.ref im, .ref pr, .ref ra, .int cn, .int vw, .int wr])), (ra, .inl (cF, 99, .inr (.inr (.inr (.inr (rowF fa md)))))), (pr, .inr (6, [.ref im, fw, .int nm, .int co, .int ta, .int lc])), (im, .inr (1, [.ref iq, .int L])), (iq, .inl (cB, n, .inl f))] : va_W) ++ (PL (FC cB fa ga cf) md)) sz) := by
  refine Met.ofW (cc := b_Reader_open) (maxL := 4) (ret := some .int) (by decide +kernel) rfl ?_
  intro p e s m args below meth c s₁ B hml hv
  obtain ⟨rfl, hsz, hP, hK, hN, hD0, hZs, hZq⟩ := hv
  have hx := B.exec
  have hb := B.bytes
  have hr := B.returns
  have hts := atoms_spec (ws := w_Reader_open) B.pre
  have ht9 := fun (w : Cond) (h : w ∈ lw_g) => hts w (List.mem_cons_of_mem _ h)
  have hown : s.vm.findClass "DiscMaker$Reader" = some m.cls := findClass_of_methodNamed B.named
  have hlocks := B.notSynchronized
  subst hsz
  have hD := hD0.self (sz := s.heap.size)
  generalize hAe : va_A (([(h0, .inr (7, [.ref im, .ref pr, .ref ra, .int cn, .int vw, .int wr])), (ra, .inl (cF, 99, .inr (.inr (.inr (.inr (rowF fa md)))))), (pr, .inr (6, [.ref im, fw, .int nm, .int co, .int ta, .int lc])), (im, .inr (1, [.ref iq, .int L])), (iq, .inl (cB, n, .inl f))] : va_W) ++ (PL (FC cB fa ga cf) md)) s.heap.size = A at hD hZs hZq ⊢
  have hA : ∀ q : Nat, s.heap.size ≤ q → A q := fun q h => by rw [← hAe]; exact Or.inr h
  have hS : va_S A s.heap s.heap [] := va_S.rf
  have hP : va_P D CL (([(h0, .inr (7, [.ref im, .ref pr, .ref ra, .int cn, .int vw, .int wr])), (ra, .inl (cF, 99, .inr (.inr (.inr (.inr (rowF fa md)))))), (pr, .inr (6, [.ref im, fw, .int nm, .int co, .int ta, .int lc])), (im, .inr (1, [.ref iq, .int L])), (iq, .inl (cB, n, .inl f))] : va_W) ++ (PL (FC cB fa ga cf) md)) s.heap := hP
  have hl := lv_entry [.ref h0, .int x] (n := 4) (Nat.le_of_ble_eq_true rfl)
  rw [lg_entry_eq]
  generalize (lg_sl [.ref h0, .int x] ++ List.replicate (4 - (lg_sl [.ref h0, .int x]).length) Slot.unset).toArray = ls at hl ⊢
  have hl : lv_has ls 4 [(0, .ref h0), (1, .int x)] := hl
  have L_m1 : ((-1) : Int32).toInt = (-1) := by decide
  have L_0 : (0 : Int32).toInt = 0 := by decide
  have L_1 : (1 : Int32).toInt = 1 := by decide
  refine lv_aload_n hx hb d_Reader_open_0 rfl (lv_at hl 0 rfl) ?_
  refine lv_iload_n hx hb d_Reader_open_1 rfl (lv_at hl 1 rfl) ?_
  refine va_put (D := D) (ci := 7) (v := .int x) (ty := .int) (C := "DiscMaker$Reader") (T := F_Reader) (N := 6) hx hb ht9 in_Reader t_Reader t_Reader_ok n_Reader hown hK hP hD hS 0 rfl rfl 4 (by decide) (ht9 _ k416) (fun _ h9 => h9) rfl (by decide +kernel) rfl rfl (Nat.le_of_ble_eq_true rfl) d_Reader_open_2 (fun H locs hP hD hS => ?_)
  have hP : va_P D CL (([(h0, .inr (7, [.ref im, .ref pr, .ref ra, .int cn, .int x, .int wr])), (ra, .inl (cF, 99, .inr (.inr (.inr (.inr (rowF fa md)))))), (pr, .inr (6, [.ref im, fw, .int nm, .int co, .int ta, .int lc])), (im, .inr (1, [.ref iq, .int L])), (iq, .inl (cB, n, .inl f))] : va_W) ++ (PL (FC cB fa ga cf) md)) H := hP
  have hD : va_D A (([(h0, .inr (7, [.ref im, .ref pr, .ref ra, .int cn, .int x, .int wr])), (ra, .inl (cF, 99, .inr (.inr (.inr (.inr (rowF fa md)))))), (pr, .inr (6, [.ref im, fw, .int nm, .int co, .int ta, .int lc])), (im, .inr (1, [.ref iq, .int L])), (iq, .inl (cB, n, .inl f))] : va_W) ++ (PL (FC cB fa ga cf) md)) := hD
  refine lv_aload_n hx hb d_Reader_open_5 rfl (lv_at hl 0 rfl) ?_
  refine lv_iconst (v := 0) hx hb d_Reader_open_6 (by decide) ?_
  refine va_put (D := D) (ci := 7) (v := .int 0) (ty := .int) (C := "DiscMaker$Reader") (T := F_Reader) (N := 6) hx hb ht9 in_Reader t_Reader t_Reader_ok n_Reader hown hK hP hD hS 0 rfl rfl 3 (by decide) (ht9 _ k415) (fun _ h9 => h9) rfl (by decide +kernel) rfl rfl (Nat.le_of_ble_eq_true rfl) d_Reader_open_7 (fun H locs hP hD hS => ?_)
  have hP : va_P D CL (([(h0, .inr (7, [.ref im, .ref pr, .ref ra, .int 0, .int x, .int wr])), (ra, .inl (cF, 99, .inr (.inr (.inr (.inr (rowF fa md)))))), (pr, .inr (6, [.ref im, fw, .int nm, .int co, .int ta, .int lc])), (im, .inr (1, [.ref iq, .int L])), (iq, .inl (cB, n, .inl f))] : va_W) ++ (PL (FC cB fa ga cf) md)) H := hP
  have hD : va_D A (([(h0, .inr (7, [.ref im, .ref pr, .ref ra, .int 0, .int x, .int wr])), (ra, .inl (cF, 99, .inr (.inr (.inr (.inr (rowF fa md)))))), (pr, .inr (6, [.ref im, fw, .int nm, .int co, .int ta, .int lc])), (im, .inr (1, [.ref iq, .int L])), (iq, .inl (cB, n, .inl f))] : va_W) ++ (PL (FC cB fa ga cf) md)) := hD
  refine lv_aload_n hx hb d_Reader_open_10 rfl (lv_at hl 0 rfl) ?_
  refine lv_iconst (v := (-1)) hx hb d_Reader_open_11 (by decide) ?_
  refine va_put (D := D) (ci := 7) (v := .int (-1)) (ty := .int) (C := "DiscMaker$Reader") (T := F_Reader) (N := 6) hx hb ht9 in_Reader t_Reader t_Reader_ok n_Reader hown hK hP hD hS 0 rfl rfl 5 (by decide) (ht9 _ k417) (fun _ h9 => h9) rfl (by decide +kernel) rfl rfl (Nat.le_of_ble_eq_true rfl) d_Reader_open_12 (fun H locs hP hD hS => ?_)
  have hP : va_P D CL (([(h0, .inr (7, [.ref im, .ref pr, .ref ra, .int 0, .int x, .int (-1)])), (ra, .inl (cF, 99, .inr (.inr (.inr (.inr (rowF fa md)))))), (pr, .inr (6, [.ref im, fw, .int nm, .int co, .int ta, .int lc])), (im, .inr (1, [.ref iq, .int L])), (iq, .inl (cB, n, .inl f))] : va_W) ++ (PL (FC cB fa ga cf) md)) H := hP
  have hD : va_D A (([(h0, .inr (7, [.ref im, .ref pr, .ref ra, .int 0, .int x, .int (-1)])), (ra, .inl (cF, 99, .inr (.inr (.inr (.inr (rowF fa md)))))), (pr, .inr (6, [.ref im, fw, .int nm, .int co, .int ta, .int lc])), (im, .inr (1, [.ref iq, .int L])), (iq, .inl (cB, n, .inl f))] : va_W) ++ (PL (FC cB fa ga cf) md)) := hD
  refine lv_aload_n hx hb d_Reader_open_15 rfl (lv_at hl 0 rfl) ?_
  have hPc := hP.sub (ws' := [(h0, .inr (7, [.ref im, .ref pr, .ref ra, .int 0, .int x, .int (-1)])), (im, .inr (1, [.ref iq, .int L])), (iq, .inl (cB, n, .inl f))]) [0, 3, 4] rfl
  have hDc := hD.sub (ws' := [(h0, .inr (7, [.ref im, .ref pr, .ref ra, .int 0, .int x, .int (-1)])), (im, .inr (1, [.ref iq, .int L])), (iq, .inl (cB, n, .inl f))]) [0, 3, 4] (by decide +kernel) rfl
  have hFc := va_free (wc := [(h0, .inr (7, [.ref im, .ref pr, .ref ra, .int 0, .int x, .int (-1)])), (im, .inr (1, [.ref iq, .int L])), (iq, .inl (cB, n, .inl f))]) hD hS hA [0, 3, 4] rfl
  have hkc : 0 ≤ 597 := by decide
  have hks : 0 ≤ 94127 := by decide
  refine va_calli (va_runV (C := "DiscMaker$Reader") (As := []) (rest := []) ⟨hx, hb, hml, hown, hts⟩ (c3_findDescriptor l D cB cI cJ cZ cN cF H.size h0 pr ra im iq n L f 0 x (-1) td ts tl gd gs gl (by (try dsimp only); first | assumption | omega | trivial) (by (try dsimp only); first | assumption | omega | trivial)) (cwV 0 hts (lg_goodV k1169 k1171 k31 k123 kc_Reader_findDescriptor) rfl rfl rfl (by decide +kernel) ⟨Nat.le_of_ble_eq_true rfl, Nat.le_of_ble_eq_true rfl⟩) ⟨fun a U g mk q => by obtain ⟨q0, q1, qP, qK, qN, qD, qZ0⟩ := q; exact ⟨q0, q1, qP, va_K.moved (u := U) (U := U.calling g mk a) (Vm.Alike.refl U.vm) qK, qN.calling, qD, SZ_blind qZ0⟩, va_recv hK hP (ci := 7) (q0 := 0) rfl rfl, fun U hU hW => ⟨rfl, by rw [hU], by rw [hU]; exact hPc, va_K.moved hW.alike hK, NN.warm hW hN, hDc.weaken (fun _ _ _ _ => trivial), SZ_pass hZs hS hFc hW.alike hU⟩⟩ rfl rfl hl.1 rfl (lv_room (Nat.le_of_ble_eq_true rfl)) d_Reader_open_16 ⟨hkc, hks⟩) hS (fun q _ h => hFc q h) hFc (fun r1 u t H1 locs ht hvm hp_r1 hB hz1 hk1 hS => ?_)
  obtain ⟨w2_2, rfl⟩ : ∃ z, z = u := ⟨_, rfl⟩
  obtain ⟨hP1, hD1⟩ := hB
  rw [ht] at hP1
  obtain ⟨hP, hD⟩ := va_joinQ (X := [(h0, .inr (7, [.ref im, .ref pr, .ref ra, .int 0, .int x, .int (-1)])), (ra, .inl (cF, 99, .inr (.inr (.inr (.inr (rowF fa md)))))), (pr, .inr (6, [.ref im, fw, .int nm, .int co, .int ta, .int lc])), (im, .inr (1, [.ref iq, .int L])), (iq, .inl (cB, n, .inl f))]) (cx := [(h0, .inr (7, [.ref im, .ref pr, .ref ra, .int 0, .int x, .int (-1)])), (im, .inr (1, [.ref iq, .int L])), (iq, .inl (cB, n, .inl f))]) (wr := [(ra, .inl (cF, 99, .inr (.inr (.inr (.inr (rowF fa md)))))), (pr, .inr (6, [.ref im, fw, .int nm, .int co, .int ta, .int lc]))]) (w1 := [(h0, .inr (7, [.ref im, .ref pr, .ref ra, .int 0, .int x, .int w2_2])), (im, .inr (1, [.ref iq, .int L])), (iq, .inl (cB, n, .inl f))]) hP hD [0, 3, 4] [1, 2] rfl rfl (by decide +kernel) (by decide +kernel) hk1 hFc hP1 hD1
  clear hPc hDc hFc hP1 hD1 hk1 hz1 hkc hks
  generalize H1 = H at hP hS ⊢
  have hP : va_P D CL (([(ra, .inl (cF, 99, .inr (.inr (.inr (.inr (rowF fa md)))))), (pr, .inr (6, [.ref im, fw, .int nm, .int co, .int ta, .int lc])), (h0, .inr (7, [.ref im, .ref pr, .ref ra, .int 0, .int x, .int w2_2])), (im, .inr (1, [.ref iq, .int L])), (iq, .inl (cB, n, .inl f))] : va_W) ++ (PL (FC cB fa ga cf) md)) H := hP
  have hD : va_D A (([(ra, .inl (cF, 99, .inr (.inr (.inr (.inr (rowF fa md)))))), (pr, .inr (6, [.ref im, fw, .int nm, .int co, .int ta, .int lc])), (h0, .inr (7, [.ref im, .ref pr, .ref ra, .int 0, .int x, .int w2_2])), (im, .inr (1, [.ref iq, .int L])), (iq, .inl (cB, n, .inl f))] : va_W) ++ (PL (FC cB fa ga cf) md)) := hD
  try dsimp only at hp_r1
  have hv_3 := hp_r1
  refine lv_istore_n hx hb d_Reader_open_19 rfl hl (by decide) rfl (fun ls hl => ?_)
  have hl : lv_has ls 4 [(2, .int r1), (0, .ref h0), (1, .int x)] := hl
  refine zz_know (fun hk0 hn0 => ?_)
  refine W.widen (k := 297) (n := 46827) (by decide) (by decide) ?_
  refine zz_labM (B := fun (lk : Nat) (K : Heap → List Loc → Array Slot → List Value → Prop) => ∀ (kx : Int32) (lcn : Int32) (lwr : Int32) (lfw : Value) (lnm : Int32) (lco : Int32) (lta : Int32) (llc : Int32) (lfa : Nat → Nat → Nat) (lga : Nat → Nat → Int32) (lcf : Nat → Nat → Nat → Int32) (lmd : Nat) (H : Heap) (locs : List Loc) (ls : Array Slot), lk = (200 - kx.toInt).toNat → (0 ≤ kx.toInt ∧ kx.toInt ≤ 200) → (0 ≤ lcn.toInt ∧ lcn.toInt ≤ lmd ∧ md ≤ lmd ∧ lmd ≤ 99) → (H.size ≤ s.heap.size + 3 * (lmd - md) ∧ tot H ≤ tot s.heap + 473 * (lmd - md)) → (lwr.toInt = -1 → ROK L.toInt lcn.toInt lga) → (lwr.toInt = -1 → kx.toInt = 0 → (lga 0 9).toInt = 0 ∨ lcn.toInt = 0) → va_P D CL (([(ra, .inl (cF, 99, .inr (.inr (.inr (.inr (rowF lfa lmd)))))), (pr, .inr (6, [.ref im, lfw, .int lnm, .int lco, .int lta, .int llc])), (h0, .inr (7, [.ref im, .ref pr, .ref ra, .int lcn, .int x, .int lwr])), (im, .inr (1, [.ref iq, .int L])), (iq, .inl (cB, n, .inl f))] : va_W) ++ (PL (FC cB lfa lga lcf) lmd)) H → va_D A (([(ra, .inl (cF, 99, .inr (.inr (.inr (.inr (rowF lfa lmd)))))), (pr, .inr (6, [.ref im, lfw, .int lnm, .int lco, .int lta, .int llc])), (h0, .inr (7, [.ref im, .ref pr, .ref ra, .int lcn, .int x, .int lwr])), (im, .inr (1, [.ref iq, .int L])), (iq, .inl (cB, n, .inl f))] : va_W) ++ (PL (FC cB lfa lga lcf) lmd)) → va_S A s.heap H locs → lv_has ls 4 [(0, .ref h0), (1, .int x), (3, .int kx)] → K H locs ls []) 39 ?_ ?_
  · skip
    intro lk ih39 kx lcn lwr lfw lnm lco lta llc lfa lga lcf lmd H locs ls hm39 e1 e4 e5 e9 e10 hP hD hS hl
    refine zz_tightT (k := (3 * (lmd - md))) (n := (473 * (lmd - md))) e5.1 e5.2 ?_
    refine lv_iload_n hx hb d_Reader_open_39 rfl (lv_at hl 2 rfl) ?_
    refine lv_aload_n hx hb d_Reader_open_40 rfl (lv_at hl 0 rfl) ?_
    refine va_get (D := D) (ci := 7) (v := .int lcn) (C := "DiscMaker$Reader") (T := F_Reader) (N := 6) hx hb ht9 in_Reader hown hK hP 2 rfl rfl 3 (by decide) (ht9 _ k415) (fun _ h9 => h9) rfl d_Reader_open_41 ?_
    refine lv_icmp_ge (tgt := 82) hx hb d_Reader_open_44 (by decide) (fun h_9 => ?_) (fun h_9 => ?_)
    · skip
      have g44_16 : lcn.toInt ≤ kx.toInt := (i_le rfl rfl).mp h_9
      refine lv_aload_n hx hb d_Reader_open_82 rfl (lv_at hl 0 rfl) ?_
      refine va_get (D := D) (ci := 7) (v := .int lwr) (C := "DiscMaker$Reader") (T := F_Reader) (N := 6) hx hb ht9 in_Reader hown hK hP 2 rfl rfl 5 (by decide) (ht9 _ k417) (fun _ h9 => h9) rfl d_Reader_open_83 ?_
      refine lv_iconst (v := (-1)) hx hb d_Reader_open_86 (by decide) ?_
      refine lv_icmp_eq (tgt := 102) hx hb d_Reader_open_87 (by decide) (fun h_9 => ?_) (fun h_9 => ?_)
      · skip
        have g87_20 : lwr.toInt = (-1) := (i_eq rfl (by decide)).mp h_9
        refine lv_aload_n hx hb d_Reader_open_102 rfl (lv_at hl 0 rfl) ?_
        refine va_get (D := D) (ci := 7) (v := .int lcn) (C := "DiscMaker$Reader") (T := F_Reader) (N := 6) hx hb ht9 in_Reader hown hK hP 2 rfl rfl 3 (by decide) (ht9 _ k415) (fun _ h9 => h9) rfl d_Reader_open_103 ?_
        have hT0 : tot s.heap = T0 := hZq
        refine zz_know (fun hk9 hn9 => ?_)
        have hP9 := hP.part (X := [(ra, .inl (cF, 99, .inr (.inr (.inr (.inr (rowF lfa lmd)))))), (pr, .inr (6, [.ref im, lfw, .int lnm, .int lco, .int lta, .int llc])), (h0, .inr (7, [.ref im, .ref pr, .ref ra, .int lcn, .int x, .int lwr])), (im, .inr (1, [.ref iq, .int L])), (iq, .inl (cB, n, .inl f))]) (cx := [(h0, .inr (7, [.ref im, .ref pr, .ref ra, .int lcn, .int x, .int lwr])), (ra, .inl (cF, 99, .inr (.inr (.inr (.inr (rowF lfa lmd)))))), (pr, .inr (6, [.ref im, lfw, .int lnm, .int lco, .int lta, .int llc])), (im, .inr (1, [.ref iq, .int L])), (iq, .inl (cB, n, .inl f))]) [2, 0, 1, 3, 4] rfl
        have hD9 := hD.part (X := [(ra, .inl (cF, 99, .inr (.inr (.inr (.inr (rowF lfa lmd)))))), (pr, .inr (6, [.ref im, lfw, .int lnm, .int lco, .int lta, .int llc])), (h0, .inr (7, [.ref im, .ref pr, .ref ra, .int lcn, .int x, .int lwr])), (im, .inr (1, [.ref iq, .int L])), (iq, .inl (cB, n, .inl f))]) (cx := [(h0, .inr (7, [.ref im, .ref pr, .ref ra, .int lcn, .int x, .int lwr])), (ra, .inl (cF, 99, .inr (.inr (.inr (.inr (rowF lfa lmd)))))), (pr, .inr (6, [.ref im, lfw, .int lnm, .int lco, .int lta, .int llc])), (im, .inr (1, [.ref iq, .int L])), (iq, .inl (cB, n, .inl f))]) [2, 0, 1, 3, 4] (by decide +kernel) rfl
        refine W.widen (k := 597) (n := 94127) (by omega) (by omega) ?_
        exact W.iret (v := lcn) hx hb hr (fun t ht hW => ⟨⟨lcn, (lfw, lnm, lco, lta, llc, lcn, lwr, lfa, lga, lcf, lmd), rfl, ⟨(by (try dsimp only); first | assumption | omega | trivial), ((e9 (by omega)).on)⟩, ⟨by rw [ht]; omega, by rw [ht]; omega⟩, by rw [ht]; exact hP9, hD9⟩, hS.F ht⟩) hS.2.2 d_Reader_open_106
      · skip
        have g87_20 : ¬ lwr.toInt = (-1) := fun h8 => h_9 ((i_eq rfl (by decide)).mpr h8)
        refine lv_aload_n hx hb d_Reader_open_90 rfl (lv_at hl 0 rfl) ?_
        refine lv_iconst (v := 0) hx hb d_Reader_open_91 (by decide) ?_
        refine va_put (D := D) (ci := 7) (v := .int 0) (ty := .int) (C := "DiscMaker$Reader") (T := F_Reader) (N := 6) hx hb ht9 in_Reader t_Reader t_Reader_ok n_Reader hown hK hP hD hS 2 rfl rfl 3 (by decide) (ht9 _ k415) (fun _ h9 => h9) rfl (by decide +kernel) rfl rfl (Nat.le_of_ble_eq_true rfl) d_Reader_open_92 (fun H locs hP hD hS => ?_)
        have hP : va_P D CL (([(ra, .inl (cF, 99, .inr (.inr (.inr (.inr (rowF lfa lmd)))))), (pr, .inr (6, [.ref im, lfw, .int lnm, .int lco, .int lta, .int llc])), (h0, .inr (7, [.ref im, .ref pr, .ref ra, .int 0, .int x, .int lwr])), (im, .inr (1, [.ref iq, .int L])), (iq, .inl (cB, n, .inl f))] : va_W) ++ (PL (FC cB lfa lga lcf) lmd)) H := hP
        have hD : va_D A (([(ra, .inl (cF, 99, .inr (.inr (.inr (.inr (rowF lfa lmd)))))), (pr, .inr (6, [.ref im, lfw, .int lnm, .int lco, .int lta, .int llc])), (h0, .inr (7, [.ref im, .ref pr, .ref ra, .int 0, .int x, .int lwr])), (im, .inr (1, [.ref iq, .int L])), (iq, .inl (cB, n, .inl f))] : va_W) ++ (PL (FC cB lfa lga lcf) lmd)) := hD
        refine lv_iconst (v := (-1)) hx hb d_Reader_open_95 (by decide) ?_
        refine lv_aload_n hx hb d_Reader_open_96 rfl (lv_at hl 0 rfl) ?_
        refine va_get (D := D) (ci := 7) (v := .int lwr) (C := "DiscMaker$Reader") (T := F_Reader) (N := 6) hx hb ht9 in_Reader hown hK hP 2 rfl rfl 5 (by decide) (ht9 _ k417) (fun _ h9 => h9) rfl d_Reader_open_97 ?_
        refine lv_isub hx hb d_Reader_open_100 ?_
        refine lv_topi (fun v4 e_v4 => ?_)
        have hT0 : tot s.heap = T0 := hZq
        refine zz_know (fun hk9 hn9 => ?_)
        have hP9 := hP.part (X := [(ra, .inl (cF, 99, .inr (.inr (.inr (.inr (rowF lfa lmd)))))), (pr, .inr (6, [.ref im, lfw, .int lnm, .int lco, .int lta, .int llc])), (h0, .inr (7, [.ref im, .ref pr, .ref ra, .int 0, .int x, .int lwr])), (im, .inr (1, [.ref iq, .int L])), (iq, .inl (cB, n, .inl f))]) (cx := [(h0, .inr (7, [.ref im, .ref pr, .ref ra, .int 0, .int x, .int lwr])), (ra, .inl (cF, 99, .inr (.inr (.inr (.inr (rowF lfa lmd)))))), (pr, .inr (6, [.ref im, lfw, .int lnm, .int lco, .int lta, .int llc])), (im, .inr (1, [.ref iq, .int L])), (iq, .inl (cB, n, .inl f))]) [2, 0, 1, 3, 4] rfl
        have hD9 := hD.part (X := [(ra, .inl (cF, 99, .inr (.inr (.inr (.inr (rowF lfa lmd)))))), (pr, .inr (6, [.ref im, lfw, .int lnm, .int lco, .int lta, .int llc])), (h0, .inr (7, [.ref im, .ref pr, .ref ra, .int 0, .int x, .int lwr])), (im, .inr (1, [.ref iq, .int L])), (iq, .inl (cB, n, .inl f))]) (cx := [(h0, .inr (7, [.ref im, .ref pr, .ref ra, .int 0, .int x, .int lwr])), (ra, .inl (cF, 99, .inr (.inr (.inr (.inr (rowF lfa lmd)))))), (pr, .inr (6, [.ref im, lfw, .int lnm, .int lco, .int lta, .int llc])), (im, .inr (1, [.ref iq, .int L])), (iq, .inl (cB, n, .inl f))]) [2, 0, 1, 3, 4] (by decide +kernel) rfl
        refine W.widen (k := 597) (n := 94127) (by omega) (by omega) ?_
        exact W.iret (v := v4) hx hb hr (fun t ht hW => ⟨⟨v4, (lfw, lnm, lco, lta, llc, 0, lwr, lfa, lga, lcf, lmd), rfl, ⟨(by (try dsimp only); first | assumption | omega | trivial), (fun k hk => absurd hk (by omega))⟩, ⟨by rw [ht]; omega, by rw [ht]; omega⟩, by rw [ht]; exact hP9, hD9⟩, hS.F ht⟩) hS.2.2 d_Reader_open_101
    · skip
      have g44_16 : ¬ lcn.toInt ≤ kx.toInt := fun h8 => h_9 ((i_le rfl rfl).mpr h8)
      refine lv_aload_n hx hb d_Reader_open_47 rfl (lv_at hl 0 rfl) ?_
      refine va_get (D := D) (ci := 7) (v := .int lwr) (C := "DiscMaker$Reader") (T := F_Reader) (N := 6) hx hb ht9 in_Reader hown hK hP 2 rfl rfl 5 (by decide) (ht9 _ k417) (fun _ h9 => h9) rfl d_Reader_open_48 ?_
      refine lv_iconst (v := (-1)) hx hb d_Reader_open_51 (by decide) ?_
      refine lv_icmp_ne (tgt := 82) hx hb d_Reader_open_52 (by decide) (fun h_9 => ?_) (fun h_9 => ?_)
      · skip
        have g52_35 : ¬ lwr.toInt = (-1) := fun h8 => h_9 ((i_eq rfl (by decide)).mpr h8)
        refine lv_aload_n hx hb d_Reader_open_82 rfl (lv_at hl 0 rfl) ?_
        refine va_get (D := D) (ci := 7) (v := .int lwr) (C := "DiscMaker$Reader") (T := F_Reader) (N := 6) hx hb ht9 in_Reader hown hK hP 2 rfl rfl 5 (by decide) (ht9 _ k417) (fun _ h9 => h9) rfl d_Reader_open_83 ?_
        refine lv_iconst (v := (-1)) hx hb d_Reader_open_86 (by decide) ?_
        refine lv_icmp_eq (tgt := 102) hx hb d_Reader_open_87 (by decide) (fun h_9 => ?_) (fun h_9 => ?_)
        · skip
          have g87_39 : lwr.toInt = (-1) := (i_eq rfl (by decide)).mp h_9
          refine lv_aload_n hx hb d_Reader_open_102 rfl (lv_at hl 0 rfl) ?_
          refine va_get (D := D) (ci := 7) (v := .int lcn) (C := "DiscMaker$Reader") (T := F_Reader) (N := 6) hx hb ht9 in_Reader hown hK hP 2 rfl rfl 3 (by decide) (ht9 _ k415) (fun _ h9 => h9) rfl d_Reader_open_103 ?_
          have hT0 : tot s.heap = T0 := hZq
          refine zz_know (fun hk9 hn9 => ?_)
          have hP9 := hP.part (X := [(ra, .inl (cF, 99, .inr (.inr (.inr (.inr (rowF lfa lmd)))))), (pr, .inr (6, [.ref im, lfw, .int lnm, .int lco, .int lta, .int llc])), (h0, .inr (7, [.ref im, .ref pr, .ref ra, .int lcn, .int x, .int lwr])), (im, .inr (1, [.ref iq, .int L])), (iq, .inl (cB, n, .inl f))]) (cx := [(h0, .inr (7, [.ref im, .ref pr, .ref ra, .int lcn, .int x, .int lwr])), (ra, .inl (cF, 99, .inr (.inr (.inr (.inr (rowF lfa lmd)))))), (pr, .inr (6, [.ref im, lfw, .int lnm, .int lco, .int lta, .int llc])), (im, .inr (1, [.ref iq, .int L])), (iq, .inl (cB, n, .inl f))]) [2, 0, 1, 3, 4] rfl
          have hD9 := hD.part (X := [(ra, .inl (cF, 99, .inr (.inr (.inr (.inr (rowF lfa lmd)))))), (pr, .inr (6, [.ref im, lfw, .int lnm, .int lco, .int lta, .int llc])), (h0, .inr (7, [.ref im, .ref pr, .ref ra, .int lcn, .int x, .int lwr])), (im, .inr (1, [.ref iq, .int L])), (iq, .inl (cB, n, .inl f))]) (cx := [(h0, .inr (7, [.ref im, .ref pr, .ref ra, .int lcn, .int x, .int lwr])), (ra, .inl (cF, 99, .inr (.inr (.inr (.inr (rowF lfa lmd)))))), (pr, .inr (6, [.ref im, lfw, .int lnm, .int lco, .int lta, .int llc])), (im, .inr (1, [.ref iq, .int L])), (iq, .inl (cB, n, .inl f))]) [2, 0, 1, 3, 4] (by decide +kernel) rfl
          refine W.widen (k := 597) (n := 94127) (by omega) (by omega) ?_
          exact W.iret (v := lcn) hx hb hr (fun t ht hW => ⟨⟨lcn, (lfw, lnm, lco, lta, llc, lcn, lwr, lfa, lga, lcf, lmd), rfl, ⟨(by (try dsimp only); first | assumption | omega | trivial), ((e9 (by omega)).on)⟩, ⟨by rw [ht]; omega, by rw [ht]; omega⟩, by rw [ht]; exact hP9, hD9⟩, hS.F ht⟩) hS.2.2 d_Reader_open_106
        · skip
          have g87_39 : ¬ lwr.toInt = (-1) := fun h8 => h_9 ((i_eq rfl (by decide)).mpr h8)
          refine lv_aload_n hx hb d_Reader_open_90 rfl (lv_at hl 0 rfl) ?_
          refine lv_iconst (v := 0) hx hb d_Reader_open_91 (by decide) ?_
          refine va_put (D := D) (ci := 7) (v := .int 0) (ty := .int) (C := "DiscMaker$Reader") (T := F_Reader) (N := 6) hx hb ht9 in_Reader t_Reader t_Reader_ok n_Reader hown hK hP hD hS 2 rfl rfl 3 (by decide) (ht9 _ k415) (fun _ h9 => h9) rfl (by decide +kernel) rfl rfl (Nat.le_of_ble_eq_true rfl) d_Reader_open_92 (fun H locs hP hD hS => ?_)
          have hP : va_P D CL (([(ra, .inl (cF, 99, .inr (.inr (.inr (.inr (rowF lfa lmd)))))), (pr, .inr (6, [.ref im, lfw, .int lnm, .int lco, .int lta, .int llc])), (h0, .inr (7, [.ref im, .ref pr, .ref ra, .int 0, .int x, .int lwr])), (im, .inr (1, [.ref iq, .int L])), (iq, .inl (cB, n, .inl f))] : va_W) ++ (PL (FC cB lfa lga lcf) lmd)) H := hP
          have hD : va_D A (([(ra, .inl (cF, 99, .inr (.inr (.inr (.inr (rowF lfa lmd)))))), (pr, .inr (6, [.ref im, lfw, .int lnm, .int lco, .int lta, .int llc])), (h0, .inr (7, [.ref im, .ref pr, .ref ra, .int 0, .int x, .int lwr])), (im, .inr (1, [.ref iq, .int L])), (iq, .inl (cB, n, .inl f))] : va_W) ++ (PL (FC cB lfa lga lcf) lmd)) := hD
          refine lv_iconst (v := (-1)) hx hb d_Reader_open_95 (by decide) ?_
          refine lv_aload_n hx hb d_Reader_open_96 rfl (lv_at hl 0 rfl) ?_
          refine va_get (D := D) (ci := 7) (v := .int lwr) (C := "DiscMaker$Reader") (T := F_Reader) (N := 6) hx hb ht9 in_Reader hown hK hP 2 rfl rfl 5 (by decide) (ht9 _ k417) (fun _ h9 => h9) rfl d_Reader_open_97 ?_
          refine lv_isub hx hb d_Reader_open_100 ?_
          refine lv_topi (fun v5 e_v5 => ?_)
          have hT0 : tot s.heap = T0 := hZq
          refine zz_know (fun hk9 hn9 => ?_)
          have hP9 := hP.part (X := [(ra, .inl (cF, 99, .inr (.inr (.inr (.inr (rowF lfa lmd)))))), (pr, .inr (6, [.ref im, lfw, .int lnm, .int lco, .int lta, .int llc])), (h0, .inr (7, [.ref im, .ref pr, .ref ra, .int 0, .int x, .int lwr])), (im, .inr (1, [.ref iq, .int L])), (iq, .inl (cB, n, .inl f))]) (cx := [(h0, .inr (7, [.ref im, .ref pr, .ref ra, .int 0, .int x, .int lwr])), (ra, .inl (cF, 99, .inr (.inr (.inr (.inr (rowF lfa lmd)))))), (pr, .inr (6, [.ref im, lfw, .int lnm, .int lco, .int lta, .int llc])), (im, .inr (1, [.ref iq, .int L])), (iq, .inl (cB, n, .inl f))]) [2, 0, 1, 3, 4] rfl
          have hD9 := hD.part (X := [(ra, .inl (cF, 99, .inr (.inr (.inr (.inr (rowF lfa lmd)))))), (pr, .inr (6, [.ref im, lfw, .int lnm, .int lco, .int lta, .int llc])), (h0, .inr (7, [.ref im, .ref pr, .ref ra, .int 0, .int x, .int lwr])), (im, .inr (1, [.ref iq, .int L])), (iq, .inl (cB, n, .inl f))]) (cx := [(h0, .inr (7, [.ref im, .ref pr, .ref ra, .int 0, .int x, .int lwr])), (ra, .inl (cF, 99, .inr (.inr (.inr (.inr (rowF lfa lmd)))))), (pr, .inr (6, [.ref im, lfw, .int lnm, .int lco, .int lta, .int llc])), (im, .inr (1, [.ref iq, .int L])), (iq, .inl (cB, n, .inl f))]) [2, 0, 1, 3, 4] (by decide +kernel) rfl
          refine W.widen (k := 597) (n := 94127) (by omega) (by omega) ?_
          exact W.iret (v := v5) hx hb hr (fun t ht hW => ⟨⟨v5, (lfw, lnm, lco, lta, llc, 0, lwr, lfa, lga, lcf, lmd), rfl, ⟨(by (try dsimp only); first | assumption | omega | trivial), (fun k hk => absurd hk (by omega))⟩, ⟨by rw [ht]; omega, by rw [ht]; omega⟩, by rw [ht]; exact hP9, hD9⟩, hS.F ht⟩) hS.2.2 d_Reader_open_101
      · skip
        have g52_35 : lwr.toInt = (-1) := (i_eq rfl (by decide)).mp h_9
        refine lv_aload_n hx hb d_Reader_open_55 rfl (lv_at hl 0 rfl) ?_
        refine va_get (D := D) (ci := 7) (v := .ref ra) (C := "DiscMaker$Reader") (T := F_Reader) (N := 6) hx hb ht9 in_Reader hown hK hP 2 rfl rfl 2 (by decide) (ht9 _ k414) (fun _ h9 => h9) rfl d_Reader_open_56 ?_
        refine lv_iload_n hx hb d_Reader_open_59 rfl (lv_at hl 2 rfl) ?_
        refine va_aldq hx hb hK hP 0 5 rfl rfl (vp_in_iff.mpr ⟨by omega, by omega⟩) d_Reader_open_60 ?_
        have hk6 : kx.toNatClampNeg < lmd := by have := i_cl (a := kx) (by omega); omega
        obtain ⟨i_hj7, hj7⟩ : ∃ j : Nat, (PL (FC cB lfa lga lcf) lmd)[j]? = some ((lfa kx.toNatClampNeg 0), .inr (2, [.ref (lfa kx.toNatClampNeg 1), .ref (lfa kx.toNatClampNeg 2), .int (lga kx.toNatClampNeg 0), .int (lga kx.toNatClampNeg 1), .int (lga kx.toNatClampNeg 2), .int (lga kx.toNatClampNeg 3), .int (lga kx.toNatClampNeg 4), .int (lga kx.toNatClampNeg 5), .int (lga kx.toNatClampNeg 6), .int (lga kx.toNatClampNeg 7), .int (lga kx.toNatClampNeg 8), .int (lga kx.toNatClampNeg 9), .int (lga kx.toNatClampNeg 10)])) := PL_get (i := 0) hk6 rfl
        refine W.eq (g2 := F0 m 61 ls [.ref (lfa kx.toNatClampNeg 0)]) (by rw [show rowF lfa lmd kx.toNatClampNeg = some (lfa kx.toNatClampNeg 0) from rowF_some hk6]; rfl) ?_
        refine va_getN (D := D) (ci := 2) (v := .int (lga kx.toNatClampNeg 2)) (C := "DiscMaker$Found") (T := F_Found) (N := 13) hx hb ht9 in_Found hown hK hP _ (pix (X := [(ra, .inl (cF, 99, .inr (.inr (.inr (.inr (rowF lfa lmd)))))), (pr, .inr (6, [.ref im, lfw, .int lnm, .int lco, .int lta, .int llc])), (h0, .inr (7, [.ref im, .ref pr, .ref ra, .int lcn, .int x, .int lwr])), (im, .inr (1, [.ref iq, .int L])), (iq, .inl (cB, n, .inl f))]) hj7) rfl 4 (by decide) (va_Nw.use rfl (hN _ k1232)) (fun _ h9 => h9) rfl d_Reader_open_61 ?_
        refine lv_if_ne (tgt := 76) hx hb d_Reader_open_64 (by decide) (fun h_9 => ?_) (fun h_9 => ?_)
        · skip
          have g64_56 : ¬ (lga kx.toNatClampNeg 2).toInt = 0 := fun h8 => h_9 ((i_eq rfl (by decide)).mpr h8)
          obtain ⟨v8, e_v8⟩ : ∃ z : Int32, z = kx + 1 := ⟨_, rfl⟩
          refine lv_iinc (v := v8) hx hb d_Reader_open_76 hl (k := 2) rfl e_v8.symm (by decide +kernel) rfl (fun ls hl => ?_)
          have t_v8 : v8.toInt = kx.toInt + 1 := by rw [e_v8]; exact i_add rfl (by decide) (by omega) (by omega)
          have hl : lv_has ls 4 [(3, .int v8), (0, .ref h0), (1, .int x)] := hl
          refine lv_goto (tgt := 39) hx hb d_Reader_open_79 (by decide) ?_
          have hP := hP.part (X := [(ra, .inl (cF, 99, .inr (.inr (.inr (.inr (rowF lfa lmd)))))), (pr, .inr (6, [.ref im, lfw, .int lnm, .int lco, .int lta, .int llc])), (h0, .inr (7, [.ref im, .ref pr, .ref ra, .int lcn, .int x, .int lwr])), (im, .inr (1, [.ref iq, .int L])), (iq, .inl (cB, n, .inl f))]) (cx := [(ra, .inl (cF, 99, .inr (.inr (.inr (.inr (rowF lfa lmd)))))), (pr, .inr (6, [.ref im, lfw, .int lnm, .int lco, .int lta, .int llc])), (h0, .inr (7, [.ref im, .ref pr, .ref ra, .int lcn, .int x, .int lwr])), (im, .inr (1, [.ref iq, .int L])), (iq, .inl (cB, n, .inl f))]) [0, 1, 2, 3, 4] rfl
          have hD := hD.part (X := [(ra, .inl (cF, 99, .inr (.inr (.inr (.inr (rowF lfa lmd)))))), (pr, .inr (6, [.ref im, lfw, .int lnm, .int lco, .int lta, .int llc])), (h0, .inr (7, [.ref im, .ref pr, .ref ra, .int lcn, .int x, .int lwr])), (im, .inr (1, [.ref iq, .int L])), (iq, .inl (cB, n, .inl f))]) (cx := [(ra, .inl (cF, 99, .inr (.inr (.inr (.inr (rowF lfa lmd)))))), (pr, .inr (6, [.ref im, lfw, .int lnm, .int lco, .int lta, .int llc])), (h0, .inr (7, [.ref im, .ref pr, .ref ra, .int lcn, .int x, .int lwr])), (im, .inr (1, [.ref iq, .int L])), (iq, .inl (cB, n, .inl f))]) [0, 1, 2, 3, 4] (by decide +kernel) rfl
          refine zz_know (fun hk2 hn2 => ?_)
          refine W.widen (k := 297) (n := 46827) (by omega) (by omega) ?_
          have hl := lv_sub hl [1, 2, 0] rfl
          exact ih39 _ (by first | omega | (dsimp only; omega)) v8 lcn lwr lfw lnm lco lta llc lfa lga lcf lmd _ _ _ rfl ((by (try dsimp only); first | assumption | omega | trivial)) ((by (try dsimp only); first | assumption | omega | trivial)) (⟨by omega, by omega⟩) (e9) ((by intro _ h7; exfalso; omega)) hP hD hS hl
        · skip
          have g64_56 : (lga kx.toNatClampNeg 2).toInt = 0 := (i_eq rfl (by decide)).mp h_9
          refine lv_aload_n hx hb d_Reader_open_67 rfl (lv_at hl 0 rfl) ?_
          refine lv_aload_n hx hb d_Reader_open_68 rfl (lv_at hl 0 rfl) ?_
          refine lv_iload_n hx hb d_Reader_open_69 rfl (lv_at hl 2 rfl) ?_
          refine zz_know (fun hk1 hn1 => ?_)
          have hkc0 := i_cl (a := kx) (by omega)
          have hPc := hP.part (X := [(ra, .inl (cF, 99, .inr (.inr (.inr (.inr (rowF lfa lmd)))))), (pr, .inr (6, [.ref im, lfw, .int lnm, .int lco, .int lta, .int llc])), (h0, .inr (7, [.ref im, .ref pr, .ref ra, .int lcn, .int x, .int lwr])), (im, .inr (1, [.ref iq, .int L])), (iq, .inl (cB, n, .inl f))]) (cx := [(h0, .inr (7, [.ref im, .ref pr, .ref ra, .int lcn, .int x, .int lwr])), (ra, .inl (cF, 99, .inr (.inr (.inr (.inr (rowF lfa lmd)))))), (pr, .inr (6, [.ref im, lfw, .int lnm, .int lco, .int lta, .int llc])), (im, .inr (1, [.ref iq, .int L])), (iq, .inl (cB, n, .inl f))]) [2, 0, 1, 3, 4] rfl
          have hDc := hD.part (X := [(ra, .inl (cF, 99, .inr (.inr (.inr (.inr (rowF lfa lmd)))))), (pr, .inr (6, [.ref im, lfw, .int lnm, .int lco, .int lta, .int llc])), (h0, .inr (7, [.ref im, .ref pr, .ref ra, .int lcn, .int x, .int lwr])), (im, .inr (1, [.ref iq, .int L])), (iq, .inl (cB, n, .inl f))]) (cx := [(h0, .inr (7, [.ref im, .ref pr, .ref ra, .int lcn, .int x, .int lwr])), (ra, .inl (cF, 99, .inr (.inr (.inr (.inr (rowF lfa lmd)))))), (pr, .inr (6, [.ref im, lfw, .int lnm, .int lco, .int lta, .int llc])), (im, .inr (1, [.ref iq, .int L])), (iq, .inl (cB, n, .inl f))]) [2, 0, 1, 3, 4] (by decide +kernel) rfl
          have hFc := va_freeP (X := [(ra, .inl (cF, 99, .inr (.inr (.inr (.inr (rowF lfa lmd)))))), (pr, .inr (6, [.ref im, lfw, .int lnm, .int lco, .int lta, .int llc])), (h0, .inr (7, [.ref im, .ref pr, .ref ra, .int lcn, .int x, .int lwr])), (im, .inr (1, [.ref iq, .int L])), (iq, .inl (cB, n, .inl f))]) (cx := [(h0, .inr (7, [.ref im, .ref pr, .ref ra, .int lcn, .int x, .int lwr])), (ra, .inl (cF, 99, .inr (.inr (.inr (.inr (rowF lfa lmd)))))), (pr, .inr (6, [.ref im, lfw, .int lnm, .int lco, .int lta, .int llc])), (im, .inr (1, [.ref iq, .int L])), (iq, .inl (cB, n, .inl f))]) hD hS hA [2, 0, 1, 3, 4] rfl
          have hkc : (3 * (lmd - md)) + 300 ≤ 597 := by omega
          have hks : (473 * (lmd - md)) + 47300 ≤ 94127 := by omega
          refine va_calli (va_runV (C := "DiscMaker$Reader") (As := [.int kx]) (rest := [.ref h0]) ⟨hx, hb, hml, hown, hts⟩ (c3_readDirectory l D cB cI cJ cZ cN cF H.size h0 pr ra im iq n L f lcn x lwr lfw lnm lco lta llc lfa lga lcf lmd (tot H) kx (by (try dsimp only); first | assumption | omega | trivial) (by (try dsimp only); first | assumption | omega | trivial) (by (try dsimp only); first | assumption | omega | trivial) (by (try dsimp only); first | assumption | omega | trivial) (by (try dsimp only); first | assumption | omega | trivial) (by omega) (e9 (by omega)) (fun h7 => (e10 (by omega) h7).elim id (fun h8 => by exfalso; omega))) (cwV 1 hts (lg_goodV k1284 k1286 k39 k123 kc_Reader_readDirectory) rfl rfl rfl (by decide +kernel) ⟨Nat.le_of_ble_eq_true rfl, Nat.le_of_ble_eq_true rfl⟩) ⟨fun a U g mk q => by obtain ⟨q0, q1, qP, qK, qN, qD, qZ0⟩ := q; exact ⟨q0, q1, qP, va_K.moved (u := U) (U := U.calling g mk a) (Vm.Alike.refl U.vm) qK, qN.calling, qD, TOT_blind qZ0⟩, va_recv hK hP (ci := 7) (q0 := 2) rfl rfl, fun U hU hW => ⟨rfl, by rw [hU], by rw [hU]; exact hPc, va_K.moved hW.alike hK, NN.warm hW hN, hDc.weaken (fun _ _ _ _ => trivial), congrArg tot hU⟩⟩ rfl rfl hl.1 rfl (lv_room (Nat.le_of_ble_eq_true rfl)) d_Reader_open_70 ⟨hkc, hks⟩) hS (fun q _ h => hFc q h) hFc (fun r9 u t H1 locs ht hvm hp_r9 hB hz1 hk1 hS => ?_)
          obtain ⟨fw2_10, nm2_11, co2_12, ta2_13, lc2_14, cn2_15, fa2_16, ga2_17, cf2_18, md2_19⟩ := u
          obtain ⟨hq_20, hP1, hD1⟩ := hB
          rw [ht] at hP1
          try rw [ht] at hq_20
          obtain ⟨hP, hD⟩ := va_joinP (X := [(ra, .inl (cF, 99, .inr (.inr (.inr (.inr (rowF lfa lmd)))))), (pr, .inr (6, [.ref im, lfw, .int lnm, .int lco, .int lta, .int llc])), (h0, .inr (7, [.ref im, .ref pr, .ref ra, .int lcn, .int x, .int lwr])), (im, .inr (1, [.ref iq, .int L])), (iq, .inl (cB, n, .inl f))]) (cx := [(h0, .inr (7, [.ref im, .ref pr, .ref ra, .int lcn, .int x, .int lwr])), (ra, .inl (cF, 99, .inr (.inr (.inr (.inr (rowF lfa lmd)))))), (pr, .inr (6, [.ref im, lfw, .int lnm, .int lco, .int lta, .int llc])), (im, .inr (1, [.ref iq, .int L])), (iq, .inl (cB, n, .inl f))]) (wr := []) (rx := [(h0, .inr (7, [.ref im, .ref pr, .ref ra, .int cn2_15, .int x, .int lwr])), (ra, .inl (cF, 99, .inr (.inr (.inr (.inr (rowF fa2_16 md2_19)))))), (pr, .inr (6, [.ref im, fw2_10, .int nm2_11, .int co2_12, .int ta2_13, .int lc2_14])), (im, .inr (1, [.ref iq, .int L])), (iq, .inl (cB, n, .inl f))]) hP hD [2, 0, 1, 3, 4] [] rfl rfl (by decide +kernel) (by decide +kernel) hk1 hFc hP1 hD1
          clear hPc hDc hFc hP1 hD1 hk1 hz1 hkc hks
          generalize H1 = H at hP hS hq_20 ⊢
          have hP : va_P D CL (([(h0, .inr (7, [.ref im, .ref pr, .ref ra, .int cn2_15, .int x, .int lwr])), (ra, .inl (cF, 99, .inr (.inr (.inr (.inr (rowF fa2_16 md2_19)))))), (pr, .inr (6, [.ref im, fw2_10, .int nm2_11, .int co2_12, .int ta2_13, .int lc2_14])), (im, .inr (1, [.ref iq, .int L])), (iq, .inl (cB, n, .inl f))] : va_W) ++ (PL (FC cB fa2_16 ga2_17 cf2_18) md2_19)) H := hP
          have hD : va_D A (([(h0, .inr (7, [.ref im, .ref pr, .ref ra, .int cn2_15, .int x, .int lwr])), (ra, .inl (cF, 99, .inr (.inr (.inr (.inr (rowF fa2_16 md2_19)))))), (pr, .inr (6, [.ref im, fw2_10, .int nm2_11, .int co2_12, .int ta2_13, .int lc2_14])), (im, .inr (1, [.ref iq, .int L])), (iq, .inl (cB, n, .inl f))] : va_W) ++ (PL (FC cB fa2_16 ga2_17 cf2_18) md2_19)) := hD
          try dsimp only at hp_r9
          obtain ⟨hm2_21, hrok2_22⟩ := hp_r9
          refine zz_tightT (k := 3 * (md2_19 - md)) (n := 473 * (md2_19 - md)) (by omega) (by omega) ?_
          refine va_put (D := D) (ci := 7) (v := .int r9) (ty := .int) (C := "DiscMaker$Reader") (T := F_Reader) (N := 6) hx hb ht9 in_Reader t_Reader t_Reader_ok n_Reader hown hK hP hD hS 0 rfl rfl 5 (by decide) (ht9 _ k417) (fun _ h9 => h9) rfl (by decide +kernel) rfl rfl (Nat.le_of_ble_eq_true rfl) d_Reader_open_73 (fun H locs hP hD hS => ?_)
          have hP : va_P D CL (([(h0, .inr (7, [.ref im, .ref pr, .ref ra, .int cn2_15, .int x, .int r9])), (ra, .inl (cF, 99, .inr (.inr (.inr (.inr (rowF fa2_16 md2_19)))))), (pr, .inr (6, [.ref im, fw2_10, .int nm2_11, .int co2_12, .int ta2_13, .int lc2_14])), (im, .inr (1, [.ref iq, .int L])), (iq, .inl (cB, n, .inl f))] : va_W) ++ (PL (FC cB fa2_16 ga2_17 cf2_18) md2_19)) H := hP
          have hD : va_D A (([(h0, .inr (7, [.ref im, .ref pr, .ref ra, .int cn2_15, .int x, .int r9])), (ra, .inl (cF, 99, .inr (.inr (.inr (.inr (rowF fa2_16 md2_19)))))), (pr, .inr (6, [.ref im, fw2_10, .int nm2_11, .int co2_12, .int ta2_13, .int lc2_14])), (im, .inr (1, [.ref iq, .int L])), (iq, .inl (cB, n, .inl f))] : va_W) ++ (PL (FC cB fa2_16 ga2_17 cf2_18) md2_19)) := hD
          obtain ⟨v23, e_v23⟩ : ∃ z : Int32, z = kx + 1 := ⟨_, rfl⟩
          refine lv_iinc (v := v23) hx hb d_Reader_open_76 hl (k := 2) rfl e_v23.symm (by decide +kernel) rfl (fun ls hl => ?_)
          have t_v23 : v23.toInt = kx.toInt + 1 := by rw [e_v23]; exact i_add rfl (by decide) (by omega) (by omega)
          have hl : lv_has ls 4 [(3, .int v23), (0, .ref h0), (1, .int x)] := hl
          refine lv_goto (tgt := 39) hx hb d_Reader_open_79 (by decide) ?_
          have hP := hP.part (X := [(h0, .inr (7, [.ref im, .ref pr, .ref ra, .int cn2_15, .int x, .int r9])), (ra, .inl (cF, 99, .inr (.inr (.inr (.inr (rowF fa2_16 md2_19)))))), (pr, .inr (6, [.ref im, fw2_10, .int nm2_11, .int co2_12, .int ta2_13, .int lc2_14])), (im, .inr (1, [.ref iq, .int L])), (iq, .inl (cB, n, .inl f))]) (cx := [(ra, .inl (cF, 99, .inr (.inr (.inr (.inr (rowF fa2_16 md2_19)))))), (pr, .inr (6, [.ref im, fw2_10, .int nm2_11, .int co2_12, .int ta2_13, .int lc2_14])), (h0, .inr (7, [.ref im, .ref pr, .ref ra, .int cn2_15, .int x, .int r9])), (im, .inr (1, [.ref iq, .int L])), (iq, .inl (cB, n, .inl f))]) [1, 2, 0, 3, 4] rfl
          have hD := hD.part (X := [(h0, .inr (7, [.ref im, .ref pr, .ref ra, .int cn2_15, .int x, .int r9])), (ra, .inl (cF, 99, .inr (.inr (.inr (.inr (rowF fa2_16 md2_19)))))), (pr, .inr (6, [.ref im, fw2_10, .int nm2_11, .int co2_12, .int ta2_13, .int lc2_14])), (im, .inr (1, [.ref iq, .int L])), (iq, .inl (cB, n, .inl f))]) (cx := [(ra, .inl (cF, 99, .inr (.inr (.inr (.inr (rowF fa2_16 md2_19)))))), (pr, .inr (6, [.ref im, fw2_10, .int nm2_11, .int co2_12, .int ta2_13, .int lc2_14])), (h0, .inr (7, [.ref im, .ref pr, .ref ra, .int cn2_15, .int x, .int r9])), (im, .inr (1, [.ref iq, .int L])), (iq, .inl (cB, n, .inl f))]) [1, 2, 0, 3, 4] (by decide +kernel) rfl
          refine zz_know (fun hk2 hn2 => ?_)
          refine W.widen (k := 297) (n := 46827) (by omega) (by omega) ?_
          have hl := lv_sub hl [1, 2, 0] rfl
          exact ih39 _ (by first | omega | (dsimp only; omega)) v23 cn2_15 r9 fw2_10 nm2_11 co2_12 ta2_13 lc2_14 fa2_16 ga2_17 cf2_18 md2_19 _ _ _ rfl ((by (try dsimp only); first | assumption | omega | trivial)) ((by (try dsimp only); first | assumption | omega | trivial)) (⟨by omega, by omega⟩) (hrok2_22) ((by intro _ h7; exfalso; omega)) hP hD hS hl
  · skip
    intro kk39
    refine zz_tightT (k := 0) (n := 0) hk0 hn0 ?_
    refine lv_aload_n hx hb d_Reader_open_20 rfl (lv_at hl 1 rfl) ?_
    refine va_get (D := D) (ci := 7) (v := .int w2_2) (C := "DiscMaker$Reader") (T := F_Reader) (N := 6) hx hb ht9 in_Reader hown hK hP 2 rfl rfl 5 (by decide) (ht9 _ k417) (fun _ h9 => h9) rfl d_Reader_open_21 ?_
    refine lv_iconst (v := (-1)) hx hb d_Reader_open_24 (by decide) ?_
    refine lv_icmp_ne (tgt := 37) hx hb d_Reader_open_25 (by decide) (fun h_9 => ?_) (fun h_9 => ?_)
    · skip
      have g25_71 : ¬ w2_2.toInt = (-1) := fun h8 => h_9 ((i_eq rfl (by decide)).mpr h8)
      refine lv_iconst (v := 0) hx hb d_Reader_open_37 (by decide) ?_
      refine lv_istore_n hx hb d_Reader_open_38 rfl hl (by decide) rfl (fun ls hl => ?_)
      have hl : lv_has ls 4 [(3, .int 0), (2, .int r1), (0, .ref h0), (1, .int x)] := hl
      have hP := hP.part (X := [(ra, .inl (cF, 99, .inr (.inr (.inr (.inr (rowF fa md)))))), (pr, .inr (6, [.ref im, fw, .int nm, .int co, .int ta, .int lc])), (h0, .inr (7, [.ref im, .ref pr, .ref ra, .int 0, .int x, .int w2_2])), (im, .inr (1, [.ref iq, .int L])), (iq, .inl (cB, n, .inl f))]) (cx := [(ra, .inl (cF, 99, .inr (.inr (.inr (.inr (rowF fa md)))))), (pr, .inr (6, [.ref im, fw, .int nm, .int co, .int ta, .int lc])), (h0, .inr (7, [.ref im, .ref pr, .ref ra, .int 0, .int x, .int w2_2])), (im, .inr (1, [.ref iq, .int L])), (iq, .inl (cB, n, .inl f))]) [0, 1, 2, 3, 4] rfl
      have hD := hD.part (X := [(ra, .inl (cF, 99, .inr (.inr (.inr (.inr (rowF fa md)))))), (pr, .inr (6, [.ref im, fw, .int nm, .int co, .int ta, .int lc])), (h0, .inr (7, [.ref im, .ref pr, .ref ra, .int 0, .int x, .int w2_2])), (im, .inr (1, [.ref iq, .int L])), (iq, .inl (cB, n, .inl f))]) (cx := [(ra, .inl (cF, 99, .inr (.inr (.inr (.inr (rowF fa md)))))), (pr, .inr (6, [.ref im, fw, .int nm, .int co, .int ta, .int lc])), (h0, .inr (7, [.ref im, .ref pr, .ref ra, .int 0, .int x, .int w2_2])), (im, .inr (1, [.ref iq, .int L])), (iq, .inl (cB, n, .inl f))]) [0, 1, 2, 3, 4] (by decide +kernel) rfl
      refine zz_know (fun hk2 hn2 => ?_)
      refine W.widen (k := 297) (n := 46827) (by omega) (by omega) ?_
      have hl := lv_sub hl [2, 3, 0] rfl
      exact kk39 _ 0 0 w2_2 fw nm co ta lc fa ga cf md _ _ _ rfl ((by (try dsimp only); first | assumption | omega | trivial)) ((by (try dsimp only); first | assumption | omega | trivial)) (⟨by omega, by omega⟩) ((fun _ k hk => absurd hk (by omega))) ((fun _ _ => Or.inr (by omega))) hP hD hS hl
    · skip
      have g25_71 : w2_2.toInt = (-1) := (i_eq rfl (by decide)).mp h_9
      refine lv_aload_n hx hb d_Reader_open_28 rfl (lv_at hl 1 rfl) ?_
      refine lv_aload_n hx hb d_Reader_open_29 rfl (lv_at hl 1 rfl) ?_
      refine lv_iload_n hx hb d_Reader_open_30 rfl (lv_at hl 0 rfl) ?_
      refine zz_know (fun hk1 hn1 => ?_)
      have hPc := hP.part (X := [(ra, .inl (cF, 99, .inr (.inr (.inr (.inr (rowF fa md)))))), (pr, .inr (6, [.ref im, fw, .int nm, .int co, .int ta, .int lc])), (h0, .inr (7, [.ref im, .ref pr, .ref ra, .int 0, .int x, .int w2_2])), (im, .inr (1, [.ref iq, .int L])), (iq, .inl (cB, n, .inl f))]) (cx := [(h0, .inr (7, [.ref im, .ref pr, .ref ra, .int 0, .int x, .int w2_2])), (ra, .inl (cF, 99, .inr (.inr (.inr (.inr (rowF fa md)))))), (im, .inr (1, [.ref iq, .int L])), (iq, .inl (cB, n, .inl f))]) [2, 0, 3, 4] rfl
      have hDc := hD.part (X := [(ra, .inl (cF, 99, .inr (.inr (.inr (.inr (rowF fa md)))))), (pr, .inr (6, [.ref im, fw, .int nm, .int co, .int ta, .int lc])), (h0, .inr (7, [.ref im, .ref pr, .ref ra, .int 0, .int x, .int w2_2])), (im, .inr (1, [.ref iq, .int L])), (iq, .inl (cB, n, .inl f))]) (cx := [(h0, .inr (7, [.ref im, .ref pr, .ref ra, .int 0, .int x, .int w2_2])), (ra, .inl (cF, 99, .inr (.inr (.inr (.inr (rowF fa md)))))), (im, .inr (1, [.ref iq, .int L])), (iq, .inl (cB, n, .inl f))]) [2, 0, 3, 4] (by decide +kernel) rfl
      have hFc := va_freeP (X := [(ra, .inl (cF, 99, .inr (.inr (.inr (.inr (rowF fa md)))))), (pr, .inr (6, [.ref im, fw, .int nm, .int co, .int ta, .int lc])), (h0, .inr (7, [.ref im, .ref pr, .ref ra, .int 0, .int x, .int w2_2])), (im, .inr (1, [.ref iq, .int L])), (iq, .inl (cB, n, .inl f))]) (cx := [(h0, .inr (7, [.ref im, .ref pr, .ref ra, .int 0, .int x, .int w2_2])), (ra, .inl (cF, 99, .inr (.inr (.inr (.inr (rowF fa md)))))), (im, .inr (1, [.ref iq, .int L])), (iq, .inl (cB, n, .inl f))]) hD hS hA [2, 0, 3, 4] rfl
      have hkc : 3 ≤ 597 := by decide
      have hks : 473 ≤ 94127 := by decide
      refine va_calli (va_runV (C := "DiscMaker$Reader") (As := [.int r1]) (rest := [.ref h0]) ⟨hx, hb, hml, hown, hts⟩ (c3_readRoot l D cB cI cJ cZ cN cF H.size h0 pr ra im iq n L f 0 x w2_2 fa ga cf md (tot H) r1 (by (try dsimp only); first | assumption | omega | trivial) (by (try dsimp only); first | assumption | omega | trivial) (by (try dsimp only); first | assumption | omega | trivial) (by (try dsimp only); first | assumption | omega | trivial) (by (try dsimp only); first | assumption | omega | trivial) (by (try dsimp only); first | assumption | omega | trivial)) (cwV 1 hts (lg_goodV k1185 k1187 k33 k123 kc_Reader_readRoot) rfl rfl rfl (by decide +kernel) ⟨Nat.le_of_ble_eq_true rfl, Nat.le_of_ble_eq_true rfl⟩) ⟨fun a U g mk q => by obtain ⟨q0, q1, qP, qK, qN, qD, qZ0⟩ := q; exact ⟨q0, q1, qP, va_K.moved (u := U) (U := U.calling g mk a) (Vm.Alike.refl U.vm) qK, qN.calling, qD, TOT_blind qZ0⟩, va_recv hK hP (ci := 7) (q0 := 2) rfl rfl, fun U hU hW => ⟨rfl, by rw [hU], by rw [hU]; exact hPc, va_K.moved hW.alike hK, NN.warm hW hN, hDc.weaken (fun _ _ _ _ => trivial), congrArg tot hU⟩⟩ rfl rfl hl.1 rfl (lv_room (Nat.le_of_ble_eq_true rfl)) d_Reader_open_31 ⟨hkc, hks⟩) hS (fun q _ h => hFc q h) hFc (fun r24 u t H1 locs ht hvm hp_r24 hB hz1 hk1 hS => ?_)
      obtain ⟨cn2_25, fa2_26, ga2_27, cf2_28, md2_29⟩ := u
      obtain ⟨hq_30, hP1, hD1⟩ := hB
      rw [ht] at hP1
      try rw [ht] at hq_30
      obtain ⟨hP, hD⟩ := va_joinP (X := [(ra, .inl (cF, 99, .inr (.inr (.inr (.inr (rowF fa md)))))), (pr, .inr (6, [.ref im, fw, .int nm, .int co, .int ta, .int lc])), (h0, .inr (7, [.ref im, .ref pr, .ref ra, .int 0, .int x, .int w2_2])), (im, .inr (1, [.ref iq, .int L])), (iq, .inl (cB, n, .inl f))]) (cx := [(h0, .inr (7, [.ref im, .ref pr, .ref ra, .int 0, .int x, .int w2_2])), (ra, .inl (cF, 99, .inr (.inr (.inr (.inr (rowF fa md)))))), (im, .inr (1, [.ref iq, .int L])), (iq, .inl (cB, n, .inl f))]) (wr := [(pr, .inr (6, [.ref im, fw, .int nm, .int co, .int ta, .int lc]))]) (rx := [(h0, .inr (7, [.ref im, .ref pr, .ref ra, .int cn2_25, .int x, .int w2_2])), (ra, .inl (cF, 99, .inr (.inr (.inr (.inr (rowF fa2_26 md2_29)))))), (im, .inr (1, [.ref iq, .int L])), (iq, .inl (cB, n, .inl f))]) hP hD [2, 0, 3, 4] [1] rfl rfl (by decide +kernel) (by decide +kernel) hk1 hFc hP1 hD1
      clear hPc hDc hFc hP1 hD1 hk1 hz1 hkc hks
      generalize H1 = H at hP hS hq_30 ⊢
      have hP : va_P D CL (([(pr, .inr (6, [.ref im, fw, .int nm, .int co, .int ta, .int lc])), (h0, .inr (7, [.ref im, .ref pr, .ref ra, .int cn2_25, .int x, .int w2_2])), (ra, .inl (cF, 99, .inr (.inr (.inr (.inr (rowF fa2_26 md2_29)))))), (im, .inr (1, [.ref iq, .int L])), (iq, .inl (cB, n, .inl f))] : va_W) ++ (PL (FC cB fa2_26 ga2_27 cf2_28) md2_29)) H := hP
      have hD : va_D A (([(pr, .inr (6, [.ref im, fw, .int nm, .int co, .int ta, .int lc])), (h0, .inr (7, [.ref im, .ref pr, .ref ra, .int cn2_25, .int x, .int w2_2])), (ra, .inl (cF, 99, .inr (.inr (.inr (.inr (rowF fa2_26 md2_29)))))), (im, .inr (1, [.ref iq, .int L])), (iq, .inl (cB, n, .inl f))] : va_W) ++ (PL (FC cB fa2_26 ga2_27 cf2_28) md2_29)) := hD
      refine W.widen (k := 3) (n := 473) (by decide) (by decide) ?_
      try dsimp only at hp_r24
      obtain ⟨hm2_31, hrok2_32, hnew_33⟩ := hp_r24
      refine zz_tightT (k := 3 * (md2_29 - md)) (n := 473 * (md2_29 - md)) (by omega) (by omega) ?_
      refine va_put (D := D) (ci := 7) (v := .int r24) (ty := .int) (C := "DiscMaker$Reader") (T := F_Reader) (N := 6) hx hb ht9 in_Reader t_Reader t_Reader_ok n_Reader hown hK hP hD hS 1 rfl rfl 5 (by decide) (ht9 _ k417) (fun _ h9 => h9) rfl (by decide +kernel) rfl rfl (Nat.le_of_ble_eq_true rfl) d_Reader_open_34 (fun H locs hP hD hS => ?_)
      have hP : va_P D CL (([(pr, .inr (6, [.ref im, fw, .int nm, .int co, .int ta, .int lc])), (h0, .inr (7, [.ref im, .ref pr, .ref ra, .int cn2_25, .int x, .int r24])), (ra, .inl (cF, 99, .inr (.inr (.inr (.inr (rowF fa2_26 md2_29)))))), (im, .inr (1, [.ref iq, .int L])), (iq, .inl (cB, n, .inl f))] : va_W) ++ (PL (FC cB fa2_26 ga2_27 cf2_28) md2_29)) H := hP
      have hD : va_D A (([(pr, .inr (6, [.ref im, fw, .int nm, .int co, .int ta, .int lc])), (h0, .inr (7, [.ref im, .ref pr, .ref ra, .int cn2_25, .int x, .int r24])), (ra, .inl (cF, 99, .inr (.inr (.inr (.inr (rowF fa2_26 md2_29)))))), (im, .inr (1, [.ref iq, .int L])), (iq, .inl (cB, n, .inl f))] : va_W) ++ (PL (FC cB fa2_26 ga2_27 cf2_28) md2_29)) := hD
      refine lv_iconst (v := 0) hx hb d_Reader_open_37 (by decide) ?_
      refine lv_istore_n hx hb d_Reader_open_38 rfl hl (by decide) rfl (fun ls hl => ?_)
      have hl : lv_has ls 4 [(3, .int 0), (2, .int r1), (0, .ref h0), (1, .int x)] := hl
      have hP := hP.part (X := [(pr, .inr (6, [.ref im, fw, .int nm, .int co, .int ta, .int lc])), (h0, .inr (7, [.ref im, .ref pr, .ref ra, .int cn2_25, .int x, .int r24])), (ra, .inl (cF, 99, .inr (.inr (.inr (.inr (rowF fa2_26 md2_29)))))), (im, .inr (1, [.ref iq, .int L])), (iq, .inl (cB, n, .inl f))]) (cx := [(ra, .inl (cF, 99, .inr (.inr (.inr (.inr (rowF fa2_26 md2_29)))))), (pr, .inr (6, [.ref im, fw, .int nm, .int co, .int ta, .int lc])), (h0, .inr (7, [.ref im, .ref pr, .ref ra, .int cn2_25, .int x, .int r24])), (im, .inr (1, [.ref iq, .int L])), (iq, .inl (cB, n, .inl f))]) [2, 0, 1, 3, 4] rfl
      have hD := hD.part (X := [(pr, .inr (6, [.ref im, fw, .int nm, .int co, .int ta, .int lc])), (h0, .inr (7, [.ref im, .ref pr, .ref ra, .int cn2_25, .int x, .int r24])), (ra, .inl (cF, 99, .inr (.inr (.inr (.inr (rowF fa2_26 md2_29)))))), (im, .inr (1, [.ref iq, .int L])), (iq, .inl (cB, n, .inl f))]) (cx := [(ra, .inl (cF, 99, .inr (.inr (.inr (.inr (rowF fa2_26 md2_29)))))), (pr, .inr (6, [.ref im, fw, .int nm, .int co, .int ta, .int lc])), (h0, .inr (7, [.ref im, .ref pr, .ref ra, .int cn2_25, .int x, .int r24])), (im, .inr (1, [.ref iq, .int L])), (iq, .inl (cB, n, .inl f))]) [2, 0, 1, 3, 4] (by decide +kernel) rfl
      refine zz_know (fun hk2 hn2 => ?_)
      refine W.widen (k := 297) (n := 46827) (by omega) (by omega) ?_
      have hl := lv_sub hl [2, 3, 0] rfl
      exact kk39 _ 0 cn2_25 r24 fw nm co ta lc fa2_26 ga2_27 cf2_28 md2_29 _ _ _ rfl ((by (try dsimp only); first | assumption | omega | trivial)) ((by (try dsimp only); first | assumption | omega | trivial)) (⟨by omega, by omega⟩) (hrok2_32) ((fun h7 _ => Or.inl (hnew_33 h7))) hP hD hS hl
