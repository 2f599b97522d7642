theorem d_DiscMaker_mount_0 : decode b_DiscMaker_mount 0 = .ok (.iload_n 1, 1) := by decide +kernel
theorem d_DiscMaker_mount_1 : decode b_DiscMaker_mount 1 = .ok (.ifCond .lt 8, 3) := by decide +kernel
theorem d_DiscMaker_mount_4 : decode b_DiscMaker_mount 4 = .ok (.iload_n 1, 1) := by decide +kernel
theorem d_DiscMaker_mount_5 : decode b_DiscMaker_mount 5 = .ok (.iconst 2, 1) := by decide +kernel
theorem d_DiscMaker_mount_6 : decode b_DiscMaker_mount 6 = .ok (.if_icmp .le 11, 3) := by decide +kernel
theorem d_DiscMaker_mount_17 : decode b_DiscMaker_mount 17 = .ok (.aload_n 0, 1) := by decide +kernel
theorem d_DiscMaker_mount_18 : decode b_DiscMaker_mount 18 = .ok (.getfield 46, 3) := by decide +kernel
theorem d_DiscMaker_mount_21 : decode b_DiscMaker_mount 21 = .ok (.iload_n 1, 1) := by decide +kernel
theorem d_DiscMaker_mount_22 : decode b_DiscMaker_mount 22 = .ok (.invokevirtual 136, 3) := by decide +kernel
theorem d_DiscMaker_mount_25 : decode b_DiscMaker_mount 25 = .ok (.ireturn, 1) := by decide +kernel
set_option maxHeartbeats 4000000 in
set_option maxRecDepth 100000 in
theorem c3_mount (l : Launch) (D : va_G) (cB cI cJ cZ cN cF : ClassId) (sz : Nat) (d0 : Nat) (tx : Nat) (tr : Nat) (im : Nat) (m0 : Nat) (rd : Nat) (pr : Nat) (ra : Nat) (iq : Nat) (n : Nat) (L : Int32) (f : Nat → Int32) (rc : Int32) (vw : Int32) (wr : Int32) (fw : Value) (nm : Int32) (co : Int32) (ta : Int32) (lc : Int32) (fa : Nat → Nat → Nat) (ga : Nat → Nat → Int32) (cf : Nat → Nat → Nat → Int32) (md : Nat) (td : Nat) (ts : Nat) (tl : Nat) (gd : Nat → Int32) (gs : Nat → Int32) (gl : Nat → Int32) (T0 : Nat) (x : Int32) (hL : 0 ≤ L.toInt ∧ L.toInt ≤ n) (hn : n ≤ 3000000) (hcn : 0 ≤ rc.toInt ∧ rc.toInt ≤ md) (hmd : md ≤ 99) (hx : 0 ≤ x.toInt ∧ x.toInt ≤ 2) : Met l y_DiscMaker_mount w_DiscMaker_mount ({ frames := 7, cells := 597, slots := 94127, locals := 217 }) (va_Pc [.ref d0, .int x] (fun U => U.heap.size = sz ∧ va_P D CL (([(d0, .inr (0, [.ref tx, .ref tr, .ref im, .ref m0, .ref rd])), (rd, .inr (7, [.ref im, .ref pr, .ref ra, .int rc, .int vw, .int wr])), (ra, .inl (cF, 99, .inr (.inr (.inr (.inr (rowF fa md)))))), (pr, .inr (6, [.ref im, fw, .int nm, .int co, .int ta, .int lc])), (im, .inr (1, [.ref iq, .int L])), (iq, .inl (cB, n, .inl f))] : va_W) ++ (PL (FC cB fa ga cf) md)) U.heap ∧ va_K D CL (TY cB cI cJ cZ cN cF) U ∧ NN U ∧ va_D (fun _ => True) (([(d0, .inr (0, [.ref tx, .ref tr, .ref im, .ref m0, .ref rd])), (rd, .inr (7, [.ref im, .ref pr, .ref ra, .int rc, .int vw, .int wr])), (ra, .inl (cF, 99, .inr (.inr (.inr (.inr (rowF fa md)))))), (pr, .inr (6, [.ref im, fw, .int nm, .int co, .int ta, .int lc])), (im, .inr (1, [.ref iq, .int L])), (iq, .inl (cB, n, .inl f))] : va_W) ++ (PL (FC cB fa ga cf) md)) ∧ SZ td ts tl gd gs gl (va_A (([(d0, .inr (0, [.ref tx, .ref tr, .ref im, .ref m0, .ref rd])), (rd, .inr (7, [.ref im, .ref pr, .ref ra, .int rc, .int vw, .int wr])), (ra, .inl (cF, 99, .inr (.inr (.inr (.inr (rowF fa md)))))), (pr, .inr (6, [.ref im, fw, .int nm, .int co, .int ta, .int lc])), (im, .inr (1, [.ref iq, .int L])), (iq, .inl (cB, n, .inl f))] : va_W) ++ (PL (FC cB fa ga cf) md)) sz) U U.heap ∧ TOT T0 (va_A (([(d0, .inr (0, [.ref tx, .ref tr, .ref im, .ref m0, .ref rd])), (rd, .inr (7, [.ref im, .ref pr, .ref ra, .int rc, .int vw, .int wr])), (ra, .inl (cF, 99, .inr (.inr (.inr (.inr (rowF fa md)))))), (pr, .inr (6, [.ref im, fw, .int nm, .int co, .int ta, .int lc])), (im, .inr (1, [.ref iq, .int L])), (iq, .inl (cB, n, .inl f))] : va_W) ++ (PL (FC cB fa ga cf) md)) sz) U U.heap)) (va_Qi (fun (r : Int32) (u : Value × Int32 × Int32 × Int32 × Int32 × Int32 × Int32 × (Nat → Nat → Nat) × (Nat → Nat → Int32) × (Nat → Nat → Nat → Int32) × Nat) => match u with | (fw2, nm2, co2, ta2, lc2, cn2, wr2, fa2, ga2, cf2, md2) => (0 ≤ cn2.toInt ∧ cn2.toInt ≤ md2 ∧ md ≤ md2 ∧ md2 ≤ 99) ∧ (ROn cn2.toInt ga2)) (fun (u : Value × Int32 × Int32 × Int32 × Int32 × Int32 × Int32 × (Nat → Nat → Nat) × (Nat → Nat → Int32) × (Nat → Nat → Nat → Int32) × Nat) (t : State) => match u with | (fw2, nm2, co2, ta2, lc2, cn2, wr2, fa2, ga2, cf2, md2) => (t.heap.size ≤ sz + 3 * (md2 - md) ∧ tot t.heap ≤ T0 + 473 * (md2 - md)) ∧ va_P D CL (([(d0, .inr (0, [.ref tx, .ref tr, .ref im, .ref m0, .ref rd])), (rd, .inr (7, [.ref im, .ref pr, .ref ra, .int cn2, .int x, .int wr2])), (ra, .inl (cF, 99, .inr (.inr (.inr (.inr (rowF fa2 md2)))))), (pr, .inr (6, [.ref im, fw2, .int nm2, .int co2, .int ta2, .int lc2])), (im, .inr (1, [.ref iq, .int L])), (iq, .inl (cB, n, .inl f))] : va_W) ++ (PL (FC cB fa2 ga2 cf2) md2)) t.heap ∧ va_D (va_A (([(d0, .inr (0, [.ref tx, .ref tr, .ref im, .ref m0, .ref rd])), (rd, .inr (7, [.ref im, .ref pr, .ref ra, .int rc, .int vw, .int wr])), (ra, .inl (cF, 99, .inr (.inr (.inr (.inr (rowF fa md)))))), (pr, .inr (6, [.ref im, fw, .int nm, .int co, .int ta, .int lc])), (im, .inr (1, [.ref iq, .int L])), (iq, .inl (cB, n, .inl f))] : va_W) ++ (PL (FC cB fa ga cf) md)) sz) (([(d0, .inr (0, [.ref tx, .ref tr, .ref im, .ref m0, .ref rd])), (rd, .inr (7, [.ref im, .ref pr, .ref ra, .int cn2, .int x, .int wr2])), (ra, .inl (cF, 99, .inr (.inr (.inr (.inr (rowF fa2 md2)))))), (pr, .inr (6, [.ref im, fw2, .int nm2, .int co2, .int ta2, .int lc2])), (im, .inr (1, [.ref iq, .int L])), (iq, .inl (cB, n, .inl f))] : va_W) ++ (PL (FC cB fa2 ga2 cf2) md2))) (va_A (([(d0, .inr (0, [.ref tx, .ref tr, .ref im, .ref m0, .ref rd])), (rd, .inr (7, [.ref im, .ref pr, .ref ra, .int rc, .int vw, .int wr])), (ra, .inl (cF, 99, .inr (.inr (.inr (.inr (rowF fa md)))))), (pr, .inr (6, [.ref im, fw, .int nm, .int co, .int ta, .int lc])), (im, .inr (1, [.ref iq, .int L])), (iq, .inl (cB, n, .inl f))] : va_W) ++ (PL (FC cB fa ga cf) md)) sz)) 597 94127 (va_A (([(d0, .inr (0, [.ref tx, .ref tr, .ref im, .ref m0, .ref rd])), (rd, .inr (7, [.ref im, .ref pr, .ref ra, .int rc, .int vw, .int wr])), (ra, .inl (cF, 99, .inr (.inr (.inr (.inr (rowF fa md)))))), (pr, .inr (6, [.ref im, fw, .int nm, .int co, .int ta, .int lc])), (im, .inr (1, [.ref iq, .int L])), (iq, .inl (cB, n, .inl f))] : va_W) ++ (PL (FC cB fa ga cf) md)) sz) := by
  refine Met.ofW (cc := b_DiscMaker_mount) (maxL := 2) (ret := some .int) (by decide +kernel) rfl ?_
  intro p e s m args below meth c s₁ B hml hv
  obtain ⟨rfl, hsz, hP, hK, hN, hD0, hZs, hZq⟩ := hv
  have hx := B.exec
  have hb := B.bytes
  have hr := B.returns
  have hts := atoms_spec (ws := w_DiscMaker_mount) B.pre
  have ht9 := fun (w : Cond) (h : w ∈ lw_g) => hts w (List.mem_cons_of_mem _ h)
  have hown : s.vm.findClass "DiscMaker" = some m.cls := findClass_of_methodNamed B.named
  have hlocks := B.notSynchronized
  subst hsz
  have hD := hD0.self (sz := s.heap.size)
  generalize hAe : va_A (([(d0, .inr (0, [.ref tx, .ref tr, .ref im, .ref m0, .ref rd])), (rd, .inr (7, [.ref im, .ref pr, .ref ra, .int rc, .int vw, .int wr])), (ra, .inl (cF, 99, .inr (.inr (.inr (.inr (rowF fa md)))))), (pr, .inr (6, [.ref im, fw, .int nm, .int co, .int ta, .int lc])), (im, .inr (1, [.ref iq, .int L])), (iq, .inl (cB, n, .inl f))] : va_W) ++ (PL (FC cB fa ga cf) md)) s.heap.size = A at hD hZs hZq ⊢
  have hA : ∀ q : Nat, s.heap.size ≤ q → A q := fun q h => by rw [← hAe]; exact Or.inr h
  have hS : va_S A s.heap s.heap [] := va_S.rf
  have hP : va_P D CL (([(d0, .inr (0, [.ref tx, .ref tr, .ref im, .ref m0, .ref rd])), (rd, .inr (7, [.ref im, .ref pr, .ref ra, .int rc, .int vw, .int wr])), (ra, .inl (cF, 99, .inr (.inr (.inr (.inr (rowF fa md)))))), (pr, .inr (6, [.ref im, fw, .int nm, .int co, .int ta, .int lc])), (im, .inr (1, [.ref iq, .int L])), (iq, .inl (cB, n, .inl f))] : va_W) ++ (PL (FC cB fa ga cf) md)) s.heap := hP
  have hl := lv_entry [.ref d0, .int x] (n := 2) (Nat.le_of_ble_eq_true rfl)
  rw [lg_entry_eq]
  generalize (lg_sl [.ref d0, .int x] ++ List.replicate (2 - (lg_sl [.ref d0, .int x]).length) Slot.unset).toArray = ls at hl ⊢
  have hl : lv_has ls 2 [(0, .ref d0), (1, .int x)] := hl
  have L_m1 : ((-1) : Int32).toInt = (-1) := by decide
  have L_0 : (0 : Int32).toInt = 0 := by decide
  have L_1 : (1 : Int32).toInt = 1 := by decide
  have L_2 : (2 : Int32).toInt = 2 := by decide
  refine lv_iload_n hx hb d_DiscMaker_mount_0 rfl (lv_at hl 1 rfl) ?_
  refine lv_if_lt (tgt := 9) hx hb d_DiscMaker_mount_1 (by decide) (fun h_9 => ?_) (fun h_9 => ?_)
  · skip
    have g1_2 : x.toInt < 0 := (i_lt rfl (by decide)).mp h_9
    exfalso
    omega
  · skip
    have g1_2 : ¬ x.toInt < 0 := fun h8 => h_9 ((i_lt rfl (by decide)).mpr h8)
    refine lv_iload_n hx hb d_DiscMaker_mount_4 rfl (lv_at hl 1 rfl) ?_
    refine lv_iconst (v := 2) hx hb d_DiscMaker_mount_5 (by decide) ?_
    refine lv_icmp_le (tgt := 17) hx hb d_DiscMaker_mount_6 (by decide) (fun h_9 => ?_) (fun h_9 => ?_)
    · skip
      have g6_5 : x.toInt ≤ 2 := (i_le rfl (by decide)).mp h_9
      refine lv_aload_n hx hb d_DiscMaker_mount_17 rfl (lv_at hl 0 rfl) ?_
      refine va_get (D := D) (ci := 0) (v := .ref rd) (C := "DiscMaker") (T := F_DiscMaker) (N := 5) hx hb ht9 in_DiscMaker hown hK hP 0 rfl rfl 4 (by decide) (ht9 _ k435) (fun _ h9 => h9) rfl d_DiscMaker_mount_18 ?_
      refine lv_iload_n hx hb d_DiscMaker_mount_21 rfl (lv_at hl 1 rfl) ?_
      have hPc := hP.part (X := [(d0, .inr (0, [.ref tx, .ref tr, .ref im, .ref m0, .ref rd])), (rd, .inr (7, [.ref im, .ref pr, .ref ra, .int rc, .int vw, .int wr])), (ra, .inl (cF, 99, .inr (.inr (.inr (.inr (rowF fa md)))))), (pr, .inr (6, [.ref im, fw, .int nm, .int co, .int ta, .int lc])), (im, .inr (1, [.ref iq, .int L])), (iq, .inl (cB, n, .inl f))]) (cx := [(rd, .inr (7, [.ref im, .ref pr, .ref ra, .int rc, .int vw, .int wr])), (ra, .inl (cF, 99, .inr (.inr (.inr (.inr (rowF fa md)))))), (pr, .inr (6, [.ref im, fw, .int nm, .int co, .int ta, .int lc])), (im, .inr (1, [.ref iq, .int L])), (iq, .inl (cB, n, .inl f))]) [1, 2, 3, 4, 5] rfl
      have hDc := hD.part (X := [(d0, .inr (0, [.ref tx, .ref tr, .ref im, .ref m0, .ref rd])), (rd, .inr (7, [.ref im, .ref pr, .ref ra, .int rc, .int vw, .int wr])), (ra, .inl (cF, 99, .inr (.inr (.inr (.inr (rowF fa md)))))), (pr, .inr (6, [.ref im, fw, .int nm, .int co, .int ta, .int lc])), (im, .inr (1, [.ref iq, .int L])), (iq, .inl (cB, n, .inl f))]) (cx := [(rd, .inr (7, [.ref im, .ref pr, .ref ra, .int rc, .int vw, .int wr])), (ra, .inl (cF, 99, .inr (.inr (.inr (.inr (rowF fa md)))))), (pr, .inr (6, [.ref im, fw, .int nm, .int co, .int ta, .int lc])), (im, .inr (1, [.ref iq, .int L])), (iq, .inl (cB, n, .inl f))]) [1, 2, 3, 4, 5] (by decide +kernel) rfl
      have hFc := va_freeP (X := [(d0, .inr (0, [.ref tx, .ref tr, .ref im, .ref m0, .ref rd])), (rd, .inr (7, [.ref im, .ref pr, .ref ra, .int rc, .int vw, .int wr])), (ra, .inl (cF, 99, .inr (.inr (.inr (.inr (rowF fa md)))))), (pr, .inr (6, [.ref im, fw, .int nm, .int co, .int ta, .int lc])), (im, .inr (1, [.ref iq, .int L])), (iq, .inl (cB, n, .inl f))]) (cx := [(rd, .inr (7, [.ref im, .ref pr, .ref ra, .int rc, .int vw, .int wr])), (ra, .inl (cF, 99, .inr (.inr (.inr (.inr (rowF fa md)))))), (pr, .inr (6, [.ref im, fw, .int nm, .int co, .int ta, .int lc])), (im, .inr (1, [.ref iq, .int L])), (iq, .inl (cB, n, .inl f))]) hD hS hA [1, 2, 3, 4, 5] rfl
      have hkc : 597 ≤ 597 := by decide
      have hks : 94127 ≤ 94127 := by decide
      refine va_calli (va_runV (C := "DiscMaker$Reader") (As := [.int x]) (rest := []) ⟨hx, hb, hml, hown, hts⟩ (c3_open l D cB cI cJ cZ cN cF s.heap.size rd pr ra im iq n L f rc vw wr fw nm co ta lc fa ga cf md td ts tl gd gs gl (tot s.heap) x (by (try dsimp only); first | assumption | omega | trivial) (by (try dsimp only); first | assumption | omega | trivial) (by (try dsimp only); first | assumption | omega | trivial) (by (try dsimp only); first | assumption | omega | trivial)) (cwV 1 hts (lg_goodV k1165 k1166 k1167 k123 kc_Reader_open) rfl rfl rfl (by decide +kernel) ⟨Nat.le_of_ble_eq_true rfl, Nat.le_of_ble_eq_true rfl⟩) ⟨fun a U g mk q => by obtain ⟨q0, q1, qP, qK, qN, qD, qZ0, qZ1⟩ := q; exact ⟨q0, q1, qP, va_K.moved (u := U) (U := U.calling g mk a) (Vm.Alike.refl U.vm) qK, qN.calling, qD, SZ_blind qZ0, TOT_blind qZ1⟩, va_recv hK hP (ci := 7) (q0 := 1) rfl rfl, fun U hU hW => ⟨rfl, by rw [hU], by rw [hU]; exact hPc, va_K.moved hW.alike hK, NN.warm hW hN, hDc.weaken (fun _ _ _ _ => trivial), SZ_pass hZs hS hFc hW.alike hU, congrArg tot hU⟩⟩ rfl rfl hl.1 rfl (lv_room (Nat.le_of_ble_eq_true rfl)) d_DiscMaker_mount_22 ⟨hkc, hks⟩) hS (fun q _ h => hFc q h) hFc (fun r1 u t H1 locs ht hvm hp_r1 hB hz1 hk1 hS => ?_)
      obtain ⟨fw2_2, nm2_3, co2_4, ta2_5, lc2_6, cn2_7, wr2_8, fa2_9, ga2_10, cf2_11, md2_12⟩ := u
      obtain ⟨hq_13, hP1, hD1⟩ := hB
      rw [ht] at hP1
      try rw [ht] at hq_13
      obtain ⟨hP, hD⟩ := va_joinP (X := [(d0, .inr (0, [.ref tx, .ref tr, .ref im, .ref m0, .ref rd])), (rd, .inr (7, [.ref im, .ref pr, .ref ra, .int rc, .int vw, .int wr])), (ra, .inl (cF, 99, .inr (.inr (.inr (.inr (rowF fa md)))))), (pr, .inr (6, [.ref im, fw, .int nm, .int co, .int ta, .int lc])), (im, .inr (1, [.ref iq, .int L])), (iq, .inl (cB, n, .inl f))]) (cx := [(rd, .inr (7, [.ref im, .ref pr, .ref ra, .int rc, .int vw, .int wr])), (ra, .inl (cF, 99, .inr (.inr (.inr (.inr (rowF fa md)))))), (pr, .inr (6, [.ref im, fw, .int nm, .int co, .int ta, .int lc])), (im, .inr (1, [.ref iq, .int L])), (iq, .inl (cB, n, .inl f))]) (wr := [(d0, .inr (0, [.ref tx, .ref tr, .ref im, .ref m0, .ref rd]))]) (rx := [(rd, .inr (7, [.ref im, .ref pr, .ref ra, .int cn2_7, .int x, .int wr2_8])), (ra, .inl (cF, 99, .inr (.inr (.inr (.inr (rowF fa2_9 md2_12)))))), (pr, .inr (6, [.ref im, fw2_2, .int nm2_3, .int co2_4, .int ta2_5, .int lc2_6])), (im, .inr (1, [.ref iq, .int L])), (iq, .inl (cB, n, .inl f))]) hP hD [1, 2, 3, 4, 5] [0] rfl rfl (by decide +kernel) (by decide +kernel) hk1 hFc hP1 hD1
      clear hPc hDc hFc hP1 hD1 hk1 hz1 hkc hks
      generalize H1 = H at hP hS hq_13 ⊢
      have hP : va_P D CL (([(d0, .inr (0, [.ref tx, .ref tr, .ref im, .ref m0, .ref rd])), (rd, .inr (7, [.ref im, .ref pr, .ref ra, .int cn2_7, .int x, .int wr2_8])), (ra, .inl (cF, 99, .inr (.inr (.inr (.inr (rowF fa2_9 md2_12)))))), (pr, .inr (6, [.ref im, fw2_2, .int nm2_3, .int co2_4, .int ta2_5, .int lc2_6])), (im, .inr (1, [.ref iq, .int L])), (iq, .inl (cB, n, .inl f))] : va_W) ++ (PL (FC cB fa2_9 ga2_10 cf2_11) md2_12)) H := hP
      have hD : va_D A (([(d0, .inr (0, [.ref tx, .ref tr, .ref im, .ref m0, .ref rd])), (rd, .inr (7, [.ref im, .ref pr, .ref ra, .int cn2_7, .int x, .int wr2_8])), (ra, .inl (cF, 99, .inr (.inr (.inr (.inr (rowF fa2_9 md2_12)))))), (pr, .inr (6, [.ref im, fw2_2, .int nm2_3, .int co2_4, .int ta2_5, .int lc2_6])), (im, .inr (1, [.ref iq, .int L])), (iq, .inl (cB, n, .inl f))] : va_W) ++ (PL (FC cB fa2_9 ga2_10 cf2_11) md2_12)) := hD
      refine W.widen (k := 597) (n := 94127) (by decide) (by decide) ?_
      try dsimp only at hp_r1
      obtain ⟨hm2_14, hron_15⟩ := hp_r1
      have hT0 : tot s.heap = T0 := hZq
      have hP9 := hP.part (X := [(d0, .inr (0, [.ref tx, .ref tr, .ref im, .ref m0, .ref rd])), (rd, .inr (7, [.ref im, .ref pr, .ref ra, .int cn2_7, .int x, .int wr2_8])), (ra, .inl (cF, 99, .inr (.inr (.inr (.inr (rowF fa2_9 md2_12)))))), (pr, .inr (6, [.ref im, fw2_2, .int nm2_3, .int co2_4, .int ta2_5, .int lc2_6])), (im, .inr (1, [.ref iq, .int L])), (iq, .inl (cB, n, .inl f))]) (cx := [(d0, .inr (0, [.ref tx, .ref tr, .ref im, .ref m0, .ref rd])), (rd, .inr (7, [.ref im, .ref pr, .ref ra, .int cn2_7, .int x, .int wr2_8])), (ra, .inl (cF, 99, .inr (.inr (.inr (.inr (rowF fa2_9 md2_12)))))), (pr, .inr (6, [.ref im, fw2_2, .int nm2_3, .int co2_4, .int ta2_5, .int lc2_6])), (im, .inr (1, [.ref iq, .int L])), (iq, .inl (cB, n, .inl f))]) [0, 1, 2, 3, 4, 5] rfl
      have hD9 := hD.part (X := [(d0, .inr (0, [.ref tx, .ref tr, .ref im, .ref m0, .ref rd])), (rd, .inr (7, [.ref im, .ref pr, .ref ra, .int cn2_7, .int x, .int wr2_8])), (ra, .inl (cF, 99, .inr (.inr (.inr (.inr (rowF fa2_9 md2_12)))))), (pr, .inr (6, [.ref im, fw2_2, .int nm2_3, .int co2_4, .int ta2_5, .int lc2_6])), (im, .inr (1, [.ref iq, .int L])), (iq, .inl (cB, n, .inl f))]) (cx := [(d0, .inr (0, [.ref tx, .ref tr, .ref im, .ref m0, .ref rd])), (rd, .inr (7, [.ref im, .ref pr, .ref ra, .int cn2_7, .int x, .int wr2_8])), (ra, .inl (cF, 99, .inr (.inr (.inr (.inr (rowF fa2_9 md2_12)))))), (pr, .inr (6, [.ref im, fw2_2, .int nm2_3, .int co2_4, .int ta2_5, .int lc2_6])), (im, .inr (1, [.ref iq, .int L])), (iq, .inl (cB, n, .inl f))]) [0, 1, 2, 3, 4, 5] (by decide +kernel) rfl
      exact W.iret (v := r1) hx hb hr (fun t ht hW => ⟨⟨r1, (fw2_2, nm2_3, co2_4, ta2_5, lc2_6, cn2_7, wr2_8, fa2_9, ga2_10, cf2_11, md2_12), rfl, ⟨(by (try dsimp only); first | assumption | omega | trivial), hron_15⟩, (by rw [ht]; rw [← hT0]; exact hq_13), by rw [ht]; exact hP9, hD9⟩, hS.F ht⟩) hS.2.2 d_DiscMaker_mount_25
    · skip
      have g6_5 : ¬ x.toInt ≤ 2 := fun h8 => h_9 ((i_le rfl (by decide)).mpr h8)
      exfalso
      omega

theorem d_DiscMaker_mount_9 : decode b_DiscMaker_mount 9 = .ok (.new 133, 3) := by decide +kernel
theorem d_DiscMaker_mount_12 : decode b_DiscMaker_mount 12 = .ok (.dup, 1) := by decide +kernel
theorem d_DiscMaker_mount_13 : decode b_DiscMaker_mount 13 = .ok (.invokespecial 135, 3) := by decide +kernel
theorem d_DiscMaker_mount_16 : decode b_DiscMaker_mount 16 = .ok (.athrow, 1) := by decide +kernel
set_option maxHeartbeats 4000000 in
set_option maxRecDepth 100000 in
theorem c3_t_mount (l : Launch) (htl : l.stackTraces = false) (D : va_G) (cB cI cJ cZ cN cF : ClassId) (sz : Nat) (d0 : Nat) (tx : Nat) (tr : Nat) (im : Nat) (m0 : Nat) (rd : Nat) (x : Int32) (hx : ¬ (0 ≤ x.toInt ∧ x.toInt ≤ 2)) : MetT l y_DiscMaker_mount w_DiscMaker_mount ({ frames := 6, cells := 1, slots := 6, locals := 100 }) (va_Pc [.ref d0, .int x] (fun U => U.heap.size = sz ∧ va_P D CL [] U.heap ∧ va_K D CL (TY cB cI cJ cZ cN cF) U ∧ NN U ∧ va_D (fun _ => True) [] ∧ TX (va_A [] sz) U U.heap ∧ RO D [(d0, .inr (0, [.ref tx, .ref tr, .ref im, .ref m0, .ref rd]))] (va_A [] sz) U U.heap)) "java/lang/IllegalArgumentException" (va_A [] sz) 1 6 (va_A [] sz) := by
  refine MetT.ofW (cc := b_DiscMaker_mount) (maxL := 2) (ret := some .int) (by decide +kernel) rfl ?_
  intro p e s m args below meth c s₁ B hml hv
  obtain ⟨rfl, hsz, hP, hK, hN, hD0, hZx, hZr⟩ := hv
  have hx := B.exec
  have hb := B.bytes
  have hr := B.returns
  have hts := atoms_spec (ws := w_DiscMaker_mount) B.pre
  have ht9 := fun (w : Cond) (h : w ∈ lw_g) => hts w (List.mem_cons_of_mem _ h)
  have hown : s.vm.findClass "DiscMaker" = some m.cls := findClass_of_methodNamed B.named
  have hlocks := B.notSynchronized
  subst hsz
  have hD := hD0.self (sz := s.heap.size)
  generalize hAe : va_A [] s.heap.size = A at hD hZx hZr ⊢
  have hA : ∀ q : Nat, s.heap.size ≤ q → A q := fun q h => by rw [← hAe]; exact Or.inr h
  have hS : va_S A s.heap s.heap [] := va_S.rf
  have hP : va_P D CL [] s.heap := hP
  have hP0 := hP
  have hemp := B.noHandlers (hts _ List.mem_cons_self)
  have hl := lv_entry [.ref d0, .int x] (n := 2) (Nat.le_of_ble_eq_true rfl)
  rw [lg_entry_eq]
  generalize (lg_sl [.ref d0, .int x] ++ List.replicate (2 - (lg_sl [.ref d0, .int x]).length) Slot.unset).toArray = ls at hl ⊢
  have hl : lv_has ls 2 [(0, .ref d0), (1, .int x)] := hl
  have L_m1 : ((-1) : Int32).toInt = (-1) := by decide
  have L_0 : (0 : Int32).toInt = 0 := by decide
  have L_1 : (1 : Int32).toInt = 1 := by decide
  have L_2 : (2 : Int32).toInt = 2 := by decide
  refine lv_iload_n hx hb d_DiscMaker_mount_0 rfl (lv_at hl 1 rfl) ?_
  refine lv_if_lt (tgt := 9) hx hb d_DiscMaker_mount_1 (by decide) (fun h_9 => ?_) (fun h_9 => ?_)
  · skip
    have g1_2 : x.toInt < 0 := (i_lt rfl (by decide)).mp h_9
    exact zz_throw0 htl hx hb hml hlocks hemp (own := "DiscMaker") (cls := "java/lang/IllegalArgumentException") (ia := 133) (ic := 135) hown (by decide +kernel) (at_of atI_ok ht9 hZx) (zt_locs hK hP0 (fun k q hq => by simp at hq) hAe hS) (ht9 _ k1154) (ht9 _ k130) hS (fun q h => h) hl.1 d_DiscMaker_mount_9 d_DiscMaker_mount_12 d_DiscMaker_mount_13 d_DiscMaker_mount_16 (by decide) (by decide) (by decide) (by decide)
  · skip
    have g1_2 : ¬ x.toInt < 0 := fun h8 => h_9 ((i_lt rfl (by decide)).mpr h8)
    refine lv_iload_n hx hb d_DiscMaker_mount_4 rfl (lv_at hl 1 rfl) ?_
    refine lv_iconst (v := 2) hx hb d_DiscMaker_mount_5 (by decide) ?_
    refine lv_icmp_le (tgt := 17) hx hb d_DiscMaker_mount_6 (by decide) (fun h_9 => ?_) (fun h_9 => ?_)
    · skip
      have g6_6 : x.toInt ≤ 2 := (i_le rfl (by decide)).mp h_9
      exfalso
      omega
    · skip
      have g6_6 : ¬ x.toInt ≤ 2 := fun h8 => h_9 ((i_le rfl (by decide)).mpr h8)
      exact zz_throw0 htl hx hb hml hlocks hemp (own := "DiscMaker") (cls := "java/lang/IllegalArgumentException") (ia := 133) (ic := 135) hown (by decide +kernel) (at_of atI_ok ht9 hZx) (zt_locs hK hP0 (fun k q hq => by simp at hq) hAe hS) (ht9 _ k1154) (ht9 _ k130) hS (fun q h => h) hl.1 d_DiscMaker_mount_9 d_DiscMaker_mount_12 d_DiscMaker_mount_13 d_DiscMaker_mount_16 (by decide) (by decide) (by decide) (by decide)

set_option maxHeartbeats 4000000 in
set_option maxRecDepth 100000 in
theorem c3_numberR (l : Launch) (D : va_G) (cB cI cJ cZ cN cF : ClassId) (sz : Nat) (h0 : Nat) (a1 : Nat) (a2 : Nat) (pa : Int32) (de : Int32) (so : Int32) (si : Int32) (se : Int32) (mo : Int32) (ow : Int32) (gr : Int32) (nl : Int32) (tl : Int32) (mk : Int32) (x : Int32) : Met l y_Found_number w_Found_number ({ frames := 0, cells := 0, slots := 0, locals := 0 }) (va_Pc [.ref h0, .int x] (fun U => U.heap.size = sz ∧ va_P D CL [] U.heap ∧ va_K D CL (TY cB cI cJ cZ cN cF) U ∧ NN U ∧ va_D (fun _ => True) [] ∧ RO D [(h0, .inr (2, [.ref a1, .ref a2, .int pa, .int de, .int so, .int si, .int se, .int mo, .int ow, .int gr, .int nl, .int tl, .int mk]))] (va_A [] sz) U U.heap)) (va_Qi (fun (r : Int32) (u : Unit) => True) (fun (u : Unit) (t : State) => match u with | () => va_P D CL [] t.heap ∧ va_D (va_A [] sz) []) (va_A [] sz)) 0 0 (va_A [] sz) := by
  refine Met.ofW (cc := b_Found_number) (maxL := 2) (ret := some .int) (by decide +kernel) rfl ?_
  intro p e s m args below meth c s₁ B hml hv
  obtain ⟨rfl, hsz, hP, hK, hN, hD0, hZr⟩ := hv
  have hx := B.exec
  have hb := B.bytes
  have hr := B.returns
  have hts := atoms_spec (ws := w_Found_number) B.pre
  have ht9 := fun (w : Cond) (h : w ∈ lw_g) => hts w (List.mem_cons_of_mem _ h)
  have hown : s.vm.findClass "DiscMaker$Found" = some m.cls := findClass_of_methodNamed B.named
  have hlocks := B.notSynchronized
  subst hsz
  have hD := hD0.self (sz := s.heap.size)
  generalize hAe : va_A [] s.heap.size = A at hD hZr ⊢
  have hA : ∀ q : Nat, s.heap.size ≤ q → A q := fun q h => by rw [← hAe]; exact Or.inr h
  have hS : va_S A s.heap s.heap [] := va_S.rf
  have hP : va_P D CL [] s.heap := hP
  have hl := lv_entry [.ref h0, .int x] (n := 2) (Nat.le_of_ble_eq_true rfl)
  rw [lg_entry_eq]
  generalize (lg_sl [.ref h0, .int x] ++ List.replicate (2 - (lg_sl [.ref h0, .int x]).length) Slot.unset).toArray = ls at hl ⊢
  have hl : lv_has ls 2 [(0, .ref h0), (1, .int x)] := hl
  have L_m1 : ((-1) : Int32).toInt = (-1) := by decide
  have L_0 : (0 : Int32).toInt = 0 := by decide
  have L_1 : (1 : Int32).toInt = 1 := by decide
  refine lv_iload_n hx hb d_Found_number_0 rfl (lv_at hl 1 rfl) ?_
  rcases (show x.toInt = 0 ∨ x.toInt = 1 ∨ x.toInt = 2 ∨ x.toInt = 3 ∨ x.toInt = 4 ∨ x.toInt = 5 ∨ x.toInt = 6 ∨ x.toInt = 7 ∨ (x.toInt < 0 ∨ 7 < x.toInt) by omega) with h_9 | h_9 | h_9 | h_9 | h_9 | h_9 | h_9 | h_9 | h_9
  · skip
    refine lv_tableIn (off := 47) (tgt := 48) hx hb d_Found_number_1 (by omega) (by omega) (by rw [h_9]; rfl) (by decide) ?_
    refine lv_aload_n hx hb d_Found_number_48 rfl (lv_at hl 0 rfl) ?_
    have hPR := RO_at hZr hS
    refine va_get (D := D) (ci := 2) (v := .int pa) (C := "DiscMaker$Found") (T := F_Found) (N := 13) hx hb ht9 in_Found hown hK hPR 0 rfl rfl 2 (by decide) (ht9 _ k1227) (fun _ h9 => h9) rfl d_Found_number_49 ?_
    have hP9 := hP.sub (ws' := []) [] rfl
    have hD9 := hD.sub (ws' := []) [] (by decide +kernel) rfl
    exact W.iret (v := pa) hx hb hr (fun t ht hW => ⟨⟨pa, (), rfl, trivial, by rw [ht]; exact hP9, hD9⟩, hS.F ht⟩) hS.2.2 d_Found_number_52
  · skip
    refine lv_tableIn (off := 52) (tgt := 53) hx hb d_Found_number_1 (by omega) (by omega) (by rw [h_9]; rfl) (by decide) ?_
    refine lv_aload_n hx hb d_Found_number_53 rfl (lv_at hl 0 rfl) ?_
    have hPR := RO_at hZr hS
    refine va_get (D := D) (ci := 2) (v := .int so) (C := "DiscMaker$Found") (T := F_Found) (N := 13) hx hb ht9 in_Found hown hK hPR 0 rfl rfl 4 (by decide) (ht9 _ k1230) (fun _ h9 => h9) rfl d_Found_number_54 ?_
    have hP9 := hP.sub (ws' := []) [] rfl
    have hD9 := hD.sub (ws' := []) [] (by decide +kernel) rfl
    exact W.iret (v := so) hx hb hr (fun t ht hW => ⟨⟨so, (), rfl, trivial, by rw [ht]; exact hP9, hD9⟩, hS.F ht⟩) hS.2.2 d_Found_number_57
  · skip
    refine lv_tableIn (off := 57) (tgt := 58) hx hb d_Found_number_1 (by omega) (by omega) (by rw [h_9]; rfl) (by decide) ?_
    refine lv_aload_n hx hb d_Found_number_58 rfl (lv_at hl 0 rfl) ?_
    have hPR := RO_at hZr hS
    refine va_get (D := D) (ci := 2) (v := .int si) (C := "DiscMaker$Found") (T := F_Found) (N := 13) hx hb ht9 in_Found hown hK hPR 0 rfl rfl 5 (by decide) (ht9 _ k1234) (fun _ h9 => h9) rfl d_Found_number_59 ?_
    have hP9 := hP.sub (ws' := []) [] rfl
    have hD9 := hD.sub (ws' := []) [] (by decide +kernel) rfl
    exact W.iret (v := si) hx hb hr (fun t ht hW => ⟨⟨si, (), rfl, trivial, by rw [ht]; exact hP9, hD9⟩, hS.F ht⟩) hS.2.2 d_Found_number_62
  · skip
    refine lv_tableIn (off := 62) (tgt := 63) hx hb d_Found_number_1 (by omega) (by omega) (by rw [h_9]; rfl) (by decide) ?_
    refine lv_aload_n hx hb d_Found_number_63 rfl (lv_at hl 0 rfl) ?_
    have hPR := RO_at hZr hS
    refine va_get (D := D) (ci := 2) (v := .int se) (C := "DiscMaker$Found") (T := F_Found) (N := 13) hx hb ht9 in_Found hown hK hPR 0 rfl rfl 6 (by decide) (ht9 _ k1237) (fun _ h9 => h9) rfl d_Found_number_64 ?_
    have hP9 := hP.sub (ws' := []) [] rfl
    have hD9 := hD.sub (ws' := []) [] (by decide +kernel) rfl
    exact W.iret (v := se) hx hb hr (fun t ht hW => ⟨⟨se, (), rfl, trivial, by rw [ht]; exact hP9, hD9⟩, hS.F ht⟩) hS.2.2 d_Found_number_67
  · skip
    refine lv_tableIn (off := 67) (tgt := 68) hx hb d_Found_number_1 (by omega) (by omega) (by rw [h_9]; rfl) (by decide) ?_
    refine lv_aload_n hx hb d_Found_number_68 rfl (lv_at hl 0 rfl) ?_
    have hPR := RO_at hZr hS
    refine va_get (D := D) (ci := 2) (v := .int mo) (C := "DiscMaker$Found") (T := F_Found) (N := 13) hx hb ht9 in_Found hown hK hPR 0 rfl rfl 7 (by decide) (ht9 _ k1240) (fun _ h9 => h9) rfl d_Found_number_69 ?_
    have hP9 := hP.sub (ws' := []) [] rfl
    have hD9 := hD.sub (ws' := []) [] (by decide +kernel) rfl
    exact W.iret (v := mo) hx hb hr (fun t ht hW => ⟨⟨mo, (), rfl, trivial, by rw [ht]; exact hP9, hD9⟩, hS.F ht⟩) hS.2.2 d_Found_number_72
  · skip
    refine lv_tableIn (off := 72) (tgt := 73) hx hb d_Found_number_1 (by omega) (by omega) (by rw [h_9]; rfl) (by decide) ?_
    refine lv_aload_n hx hb d_Found_number_73 rfl (lv_at hl 0 rfl) ?_
    have hPR := RO_at hZr hS
    refine va_get (D := D) (ci := 2) (v := .int ow) (C := "DiscMaker$Found") (T := F_Found) (N := 13) hx hb ht9 in_Found hown hK hPR 0 rfl rfl 8 (by decide) (ht9 _ k1242) (fun _ h9 => h9) rfl d_Found_number_74 ?_
    have hP9 := hP.sub (ws' := []) [] rfl
    have hD9 := hD.sub (ws' := []) [] (by decide +kernel) rfl
    exact W.iret (v := ow) hx hb hr (fun t ht hW => ⟨⟨ow, (), rfl, trivial, by rw [ht]; exact hP9, hD9⟩, hS.F ht⟩) hS.2.2 d_Found_number_77
  · skip
    refine lv_tableIn (off := 77) (tgt := 78) hx hb d_Found_number_1 (by omega) (by omega) (by rw [h_9]; rfl) (by decide) ?_
    refine lv_aload_n hx hb d_Found_number_78 rfl (lv_at hl 0 rfl) ?_
    have hPR := RO_at hZr hS
    refine va_get (D := D) (ci := 2) (v := .int gr) (C := "DiscMaker$Found") (T := F_Found) (N := 13) hx hb ht9 in_Found hown hK hPR 0 rfl rfl 9 (by decide) (ht9 _ k1244) (fun _ h9 => h9) rfl d_Found_number_79 ?_
    have hP9 := hP.sub (ws' := []) [] rfl
    have hD9 := hD.sub (ws' := []) [] (by decide +kernel) rfl
    exact W.iret (v := gr) hx hb hr (fun t ht hW => ⟨⟨gr, (), rfl, trivial, by rw [ht]; exact hP9, hD9⟩, hS.F ht⟩) hS.2.2 d_Found_number_82
  · skip
    refine lv_tableIn (off := 82) (tgt := 83) hx hb d_Found_number_1 (by omega) (by omega) (by rw [h_9]; rfl) (by decide) ?_
    refine lv_aload_n hx hb d_Found_number_83 rfl (lv_at hl 0 rfl) ?_
    have hPR := RO_at hZr hS
    refine va_get (D := D) (ci := 2) (v := .int nl) (C := "DiscMaker$Found") (T := F_Found) (N := 13) hx hb ht9 in_Found hown hK hPR 0 rfl rfl 10 (by decide) (ht9 _ k1246) (fun _ h9 => h9) rfl d_Found_number_84 ?_
    have hP9 := hP.sub (ws' := []) [] rfl
    have hD9 := hD.sub (ws' := []) [] (by decide +kernel) rfl
    exact W.iret (v := nl) hx hb hr (fun t ht hW => ⟨⟨nl, (), rfl, trivial, by rw [ht]; exact hP9, hD9⟩, hS.F ht⟩) hS.2.2 d_Found_number_87
  · skip
    refine lv_tableOut (tgt := 88) hx hb d_Found_number_1 h_9 (by decide) ?_
    refine lv_aload_n hx hb d_Found_number_88 rfl (lv_at hl 0 rfl) ?_
    have hPR := RO_at hZr hS
    refine va_get (D := D) (ci := 2) (v := .int tl) (C := "DiscMaker$Found") (T := F_Found) (N := 13) hx hb ht9 in_Found hown hK hPR 0 rfl rfl 11 (by decide) (ht9 _ k1249) (fun _ h9 => h9) rfl d_Found_number_89 ?_
    have hP9 := hP.sub (ws' := []) [] rfl
    have hD9 := hD.sub (ws' := []) [] (by decide +kernel) rfl
    exact W.iret (v := tl) hx hb hr (fun t ht hW => ⟨⟨tl, (), rfl, trivial, by rw [ht]; exact hP9, hD9⟩, hS.F ht⟩) hS.2.2 d_Found_number_92

theorem d_DiscMaker_node_0 : decode b_DiscMaker_node 0 = .ok (.aload_n 0, 1) := by decide +kernel
theorem d_DiscMaker_node_1 : decode b_DiscMaker_node 1 = .ok (.getfield 46, 3) := by decide +kernel
theorem d_DiscMaker_node_4 : decode b_DiscMaker_node 4 = .ok (.iload_n 1, 1) := by decide +kernel
theorem d_DiscMaker_node_5 : decode b_DiscMaker_node 5 = .ok (.invokevirtual 139, 3) := by decide +kernel
theorem d_DiscMaker_node_8 : decode b_DiscMaker_node 8 = .ok (.astore_n 3, 1) := by decide +kernel
theorem d_DiscMaker_node_9 : decode b_DiscMaker_node 9 = .ok (.aload_n 3, 1) := by decide +kernel
theorem d_DiscMaker_node_10 : decode b_DiscMaker_node 10 = .ok (.ifnull 13, 3) := by decide +kernel
theorem d_DiscMaker_node_13 : decode b_DiscMaker_node 13 = .ok (.iload_n 2, 1) := by decide +kernel
theorem d_DiscMaker_node_14 : decode b_DiscMaker_node 14 = .ok (.ifCond .lt 9, 3) := by decide +kernel
theorem d_DiscMaker_node_17 : decode b_DiscMaker_node 17 = .ok (.iload_n 2, 1) := by decide +kernel
theorem d_DiscMaker_node_18 : decode b_DiscMaker_node 18 = .ok (.bipush 8, 2) := by decide +kernel
theorem d_DiscMaker_node_20 : decode b_DiscMaker_node 20 = .ok (.if_icmp .le 11, 3) := by decide +kernel
theorem d_DiscMaker_node_31 : decode b_DiscMaker_node 31 = .ok (.aload_n 3, 1) := by decide +kernel
theorem d_DiscMaker_node_32 : decode b_DiscMaker_node 32 = .ok (.iload_n 2, 1) := by decide +kernel
theorem d_DiscMaker_node_33 : decode b_DiscMaker_node 33 = .ok (.invokevirtual 146, 3) := by decide +kernel
theorem d_DiscMaker_node_36 : decode b_DiscMaker_node 36 = .ok (.ireturn, 1) := by decide +kernel
set_option maxHeartbeats 4000000 in
set_option maxRecDepth 100000 in
theorem c3_node (l : Launch) (D : va_G) (cB cI cJ cZ cN cF : ClassId) (sz : Nat) (d0 : Nat) (tx : Nat) (tr : Nat) (im : Nat) (m0 : Nat) (rd : Nat) (pr : Nat) (ra : Nat) (rc : Int32) (vw : Int32) (wr : Int32) (fa : Nat → Nat → Nat) (ga : Nat → Nat → Int32) (cf : Nat → Nat → Nat → Int32) (md : Nat) (x : Int32) (y : Int32) (hrc : 0 ≤ rc.toInt ∧ rc.toInt ≤ md) (hmd : md ≤ 99) (hxk : (0 ≤ x.toInt ∧ x.toInt < rc.toInt) ∧ 0 ≤ y.toInt ∧ y.toInt ≤ 8) (hron : ROn rc.toInt ga) : Met l y_DiscMaker_node w_DiscMaker_node ({ frames := 1, cells := 0, slots := 0, locals := 27 }) (va_Pc [.ref d0, .int x, .int y] (fun U => U.heap.size = sz ∧ va_P D CL [] U.heap ∧ va_K D CL (TY cB cI cJ cZ cN cF) U ∧ NN U ∧ va_D (fun _ => True) [] ∧ RO D (([(d0, .inr (0, [.ref tx, .ref tr, .ref im, .ref m0, .ref rd])), (rd, .inr (7, [.ref im, .ref pr, .ref ra, .int rc, .int vw, .int wr])), (ra, .inl (cF, 99, .inr (.inr (.inr (.inr (rowF fa md))))))] : va_W) ++ (PL (FC cB fa ga cf) md)) (va_A [] sz) U U.heap)) (va_Qi (fun (r : Int32) (u : Unit) => True) (fun (u : Unit) (t : State) => match u with | () => va_P D CL [] t.heap ∧ va_D (va_A [] sz) []) (va_A [] sz)) 0 0 (va_A [] sz) := by
  refine Met.ofW (cc := b_DiscMaker_node) (maxL := 4) (ret := some .int) (by decide +kernel) rfl ?_
  intro p e s m args below meth c s₁ B hml hv
  obtain ⟨rfl, hsz, hP, hK, hN, hD0, hZr⟩ := hv
  have hx := B.exec
  have hb := B.bytes
  have hr := B.returns
  have hts := atoms_spec (ws := w_DiscMaker_node) B.pre
  have ht9 := fun (w : Cond) (h : w ∈ lw_g) => hts w (List.mem_cons_of_mem _ h)
  have hown : s.vm.findClass "DiscMaker" = some m.cls := findClass_of_methodNamed B.named
  have hlocks := B.notSynchronized
  subst hsz
  have hD := hD0.self (sz := s.heap.size)
  generalize hAe : va_A [] s.heap.size = A at hD hZr ⊢
  have hA : ∀ q : Nat, s.heap.size ≤ q → A q := fun q h => by rw [← hAe]; exact Or.inr h
  have hS : va_S A s.heap s.heap [] := va_S.rf
  have hP : va_P D CL [] s.heap := hP
  have hl := lv_entry [.ref d0, .int x, .int y] (n := 4) (Nat.le_of_ble_eq_true rfl)
  rw [lg_entry_eq]
  generalize (lg_sl [.ref d0, .int x, .int y] ++ List.replicate (4 - (lg_sl [.ref d0, .int x, .int y]).length) Slot.unset).toArray = ls at hl ⊢
  have hl : lv_has ls 4 [(0, .ref d0), (1, .int x), (2, .int y)] := hl
  have L_m1 : ((-1) : Int32).toInt = (-1) := by decide
  have L_0 : (0 : Int32).toInt = 0 := by decide
  have L_1 : (1 : Int32).toInt = 1 := by decide
  have L_8 : (8 : Int32).toInt = 8 := by decide
  refine lv_aload_n hx hb d_DiscMaker_node_0 rfl (lv_at hl 0 rfl) ?_
  have hPR := RO_at hZr hS
  refine va_get (D := D) (ci := 0) (v := .ref rd) (C := "DiscMaker") (T := F_DiscMaker) (N := 5) hx hb ht9 in_DiscMaker hown hK hPR 0 rfl rfl 4 (by decide) (ht9 _ k435) (fun _ h9 => h9) rfl d_DiscMaker_node_1 ?_
  refine lv_iload_n hx hb d_DiscMaker_node_4 rfl (lv_at hl 1 rfl) ?_
  have hPc := hP.sub (ws' := []) [] rfl
  have hDc := hD.sub (ws' := []) [] (by decide +kernel) rfl
  have hFc := va_free (wc := []) hD hS hA [] rfl
  have hPR := RO_at hZr hS
  have hkc : 0 ≤ 0 := by decide
  have hks : 0 ≤ 0 := by decide
  refine va_callq (va_runV (C := "DiscMaker$Reader") (As := [.int x]) (rest := []) ⟨hx, hb, hml, hown, hts⟩ (c3_find l D cB cI cJ cZ cN cF s.heap.size rd pr ra im rc vw wr fa md x (by (try dsimp only); first | assumption | omega | trivial) (by (try dsimp only); first | assumption | omega | trivial)) (cwV 1 hts (lg_goodV k1379 k1380 k1381 k123 kc_Reader_find) rfl rfl rfl (by decide +kernel) ⟨Nat.le_of_ble_eq_true rfl, Nat.le_of_ble_eq_true rfl⟩) ⟨fun a U g mk q => by obtain ⟨q0, q1, qP, qK, qN, qD, qZ0⟩ := q; exact ⟨q0, q1, qP, va_K.moved (u := U) (U := U.calling g mk a) (Vm.Alike.refl U.vm) qK, qN.calling, qD, RO_blind qZ0⟩, va_recv hK hPR (ci := 7) (q0 := 1) rfl rfl, fun U hU hW => ⟨rfl, by rw [hU], by rw [hU]; exact hPc, va_K.moved hW.alike hK, NN.warm hW hN, hDc.weaken (fun _ _ _ _ => trivial), (RO_app (w1 := [(rd, .inr (7, [.ref im, .ref pr, .ref ra, .int rc, .int vw, .int wr]))]) (w2 := [(ra, .inl (cF, 99, .inr (.inr (.inr (.inr (rowF fa md))))))]) (RO_pass (RO_one hZr 1 rfl) hS hFc hU) (RO_pass (RO_one hZr 2 rfl) hS hFc hU))⟩⟩ rfl rfl hl.1 rfl (lv_room (Nat.le_of_ble_eq_true rfl)) d_DiscMaker_node_5 ⟨hkc, hks⟩) hS (fun q _ h => hFc q h) hFc (fun r1 u t H1 locs ht hvm hp_r1 hB hz1 hk1 hS => ?_)
  obtain ⟨hP1, hD1⟩ := hB
  rw [ht] at hP1
  obtain ⟨hP, hD⟩ := va_join (wr := []) (w1 := []) hP hD [] [] rfl rfl (by decide +kernel) (by decide +kernel) hk1 hFc hP1 hD1
  clear hPc hDc hFc hP1 hD1 hk1 hz1 hkc hks
  generalize H1 = H at hP hS ⊢
  have hP : va_P D CL [] H := hP
  have hD : va_D A [] := hD
  try dsimp only at hp_r1
  have hv_2 := hp_r1
  obtain ⟨hr9, hr8, hr7⟩ := hv_2.resolve_left (fun h7 => h7.2 hxk.1)
  refine W.eq (g2 := F0 m 8 ls [.ref (fa x.toNatClampNeg 0)]) (by rw [hr9]; rfl) ?_
  have hk9 : x.toNatClampNeg < md := by have := i_cl (a := x) (by omega); omega
  obtain ⟨i_hj3, hj3⟩ : ∃ j : Nat, (PL (FC cB fa ga cf) md)[j]? = some ((fa x.toNatClampNeg 0), .inr (2, [.ref (fa x.toNatClampNeg 1), .ref (fa x.toNatClampNeg 2), .int (ga x.toNatClampNeg 0), .int (ga x.toNatClampNeg 1), .int (ga x.toNatClampNeg 2), .int (ga x.toNatClampNeg 3), .int (ga x.toNatClampNeg 4), .int (ga x.toNatClampNeg 5), .int (ga x.toNatClampNeg 6), .int (ga x.toNatClampNeg 7), .int (ga x.toNatClampNeg 8), .int (ga x.toNatClampNeg 9), .int (ga x.toNatClampNeg 10)])) := PL_get (i := 0) hk9 rfl
  obtain ⟨i_hj4, hj4⟩ : ∃ j : Nat, (PL (FC cB fa ga cf) md)[j]? = some ((fa x.toNatClampNeg 1), .inl (cB, 60, .inl (cf x.toNatClampNeg 1))) := PL_get (i := 1) hk9 rfl
  obtain ⟨i_hj5, hj5⟩ : ∃ j : Nat, (PL (FC cB fa ga cf) md)[j]? = some ((fa x.toNatClampNeg 2), .inl (cB, 400, .inl (cf x.toNatClampNeg 2))) := PL_get (i := 2) hk9 rfl
  refine lv_astore_n hx hb d_DiscMaker_node_8 rfl hl (by decide) rfl (fun ls hl => ?_)
  have hl : lv_has ls 4 [(3, .ref (fa x.toNatClampNeg 0)), (0, .ref d0), (1, .int x), (2, .int y)] := hl
  refine lv_aload_n hx hb d_DiscMaker_node_9 rfl (lv_at hl 0 rfl) ?_
  refine lv_ifnull hx hb d_DiscMaker_node_10 ?_
  refine lv_iload_n hx hb d_DiscMaker_node_13 rfl (lv_at hl 3 rfl) ?_
  refine lv_if_lt (tgt := 23) hx hb d_DiscMaker_node_14 (by decide) (fun h_9 => ?_) (fun h_9 => ?_)
  · skip
    have g14_9 : y.toInt < 0 := (i_lt rfl (by decide)).mp h_9
    exfalso
    omega
  · skip
    have g14_9 : ¬ y.toInt < 0 := fun h8 => h_9 ((i_lt rfl (by decide)).mpr h8)
    refine lv_iload_n hx hb d_DiscMaker_node_17 rfl (lv_at hl 3 rfl) ?_
    refine lv_bipush (v := 8) hx hb d_DiscMaker_node_18 (by decide) ?_
    refine lv_icmp_le (tgt := 31) hx hb d_DiscMaker_node_20 (by decide) (fun h_9 => ?_) (fun h_9 => ?_)
    · skip
      have g20_12 : y.toInt ≤ 8 := (i_le rfl (by decide)).mp h_9
      refine lv_aload_n hx hb d_DiscMaker_node_31 rfl (lv_at hl 0 rfl) ?_
      refine lv_iload_n hx hb d_DiscMaker_node_32 rfl (lv_at hl 3 rfl) ?_
      have hPc := hP.sub (ws' := []) [] rfl
      have hDc := hD.sub (ws' := []) [] (by decide +kernel) rfl
      have hFc := va_free (wc := []) hD hS hA [] rfl
      have hPR := RO_at hZr hS
      have hkc : 0 ≤ 0 := by decide
      have hks : 0 ≤ 0 := by decide
      refine va_calli (va_runV (C := "DiscMaker$Found") (As := [.int y]) (rest := []) ⟨hx, hb, hml, hown, hts⟩ (c3_numberR l D cB cI cJ cZ cN cF H.size (fa x.toNatClampNeg 0) (fa x.toNatClampNeg 1) (fa x.toNatClampNeg 2) (ga x.toNatClampNeg 0) (ga x.toNatClampNeg 1) (ga x.toNatClampNeg 2) (ga x.toNatClampNeg 3) (ga x.toNatClampNeg 4) (ga x.toNatClampNeg 5) (ga x.toNatClampNeg 6) (ga x.toNatClampNeg 7) (ga x.toNatClampNeg 8) (ga x.toNatClampNeg 9) (ga x.toNatClampNeg 10) y) (cwV 1 hts (lg_goodV k1398 k1399 k1400 k141 kc_Found_number) rfl rfl rfl (by decide +kernel) ⟨Nat.le_of_ble_eq_true rfl, Nat.le_of_ble_eq_true rfl⟩) ⟨fun a U g mk q => by obtain ⟨q0, q1, qP, qK, qN, qD, qZ0⟩ := q; exact ⟨q0, q1, qP, va_K.moved (u := U) (U := U.calling g mk a) (Vm.Alike.refl U.vm) qK, qN.calling, qD, RO_blind qZ0⟩, va_recv hK hPR (ci := 2) (q0 := _) rfl (pix (X := [(d0, .inr (0, [.ref tx, .ref tr, .ref im, .ref m0, .ref rd])), (rd, .inr (7, [.ref im, .ref pr, .ref ra, .int rc, .int vw, .int wr])), (ra, .inl (cF, 99, .inr (.inr (.inr (.inr (rowF fa md))))))]) hj3), fun U hU hW => ⟨rfl, by rw [hU], by rw [hU]; exact hPc, va_K.moved hW.alike hK, NN.warm hW hN, hDc.weaken (fun _ _ _ _ => trivial), (RO_pass (RO_one hZr _ (pix (X := [(d0, .inr (0, [.ref tx, .ref tr, .ref im, .ref m0, .ref rd])), (rd, .inr (7, [.ref im, .ref pr, .ref ra, .int rc, .int vw, .int wr])), (ra, .inl (cF, 99, .inr (.inr (.inr (.inr (rowF fa md))))))]) hj3)) hS hFc hU)⟩⟩ rfl rfl hl.1 rfl (lv_room (Nat.le_of_ble_eq_true rfl)) d_DiscMaker_node_33 ⟨hkc, hks⟩) hS (fun q _ h => hFc q h) hFc (fun r6 u t H1 locs ht hvm hp_r6 hB hz1 hk1 hS => ?_)
      obtain ⟨hP1, hD1⟩ := hB
      rw [ht] at hP1
      obtain ⟨hP, hD⟩ := va_join (wr := []) (w1 := []) hP hD [] [] rfl rfl (by decide +kernel) (by decide +kernel) hk1 hFc hP1 hD1
      clear hPc hDc hFc hP1 hD1 hk1 hz1 hkc hks
      generalize H1 = H at hP hS ⊢
      have hP : va_P D CL [] H := hP
      have hD : va_D A [] := hD
      have hP9 := hP.sub (ws' := []) [] rfl
      have hD9 := hD.sub (ws' := []) [] (by decide +kernel) rfl
      exact W.iret (v := r6) hx hb hr (fun t ht hW => ⟨⟨r6, (), rfl, trivial, by rw [ht]; exact hP9, hD9⟩, hS.F ht⟩) hS.2.2 d_DiscMaker_node_36
    · skip
      have g20_12 : ¬ y.toInt ≤ 8 := fun h8 => h_9 ((i_le rfl (by decide)).mpr h8)
      exfalso
      omega

theorem d_DiscMaker_node_23 : decode b_DiscMaker_node 23 = .ok (.new 143, 3) := by decide +kernel
theorem d_DiscMaker_node_26 : decode b_DiscMaker_node 26 = .ok (.dup, 1) := by decide +kernel
theorem d_DiscMaker_node_27 : decode b_DiscMaker_node 27 = .ok (.invokespecial 145, 3) := by decide +kernel
theorem d_DiscMaker_node_30 : decode b_DiscMaker_node 30 = .ok (.athrow, 1) := by decide +kernel
set_option maxHeartbeats 4000000 in
set_option maxRecDepth 100000 in
theorem c3_t_node (l : Launch) (htl : l.stackTraces = false) (D : va_G) (cB cI cJ cZ cN cF : ClassId) (sz : Nat) (d0 : Nat) (tx : Nat) (tr : Nat) (im : Nat) (m0 : Nat) (rd : Nat) (pr : Nat) (ra : Nat) (rc : Int32) (vw : Int32) (wr : Int32) (fa : Nat → Nat → Nat) (ga : Nat → Nat → Int32) (cf : Nat → Nat → Nat → Int32) (md : Nat) (x : Int32) (y : Int32) (hrc : 0 ≤ rc.toInt ∧ rc.toInt ≤ md) (hmd : md ≤ 99) (hxk : ¬ ((0 ≤ x.toInt ∧ x.toInt < rc.toInt) ∧ 0 ≤ y.toInt ∧ y.toInt ≤ 8)) : MetT l y_DiscMaker_node w_DiscMaker_node ({ frames := 6, cells := 1, slots := 6, locals := 100 }) (va_Pc [.ref d0, .int x, .int y] (fun U => U.heap.size = sz ∧ va_P D CL [] U.heap ∧ va_K D CL (TY cB cI cJ cZ cN cF) U ∧ NN U ∧ va_D (fun _ => True) [] ∧ TX (va_A [] sz) U U.heap ∧ RO D (([(d0, .inr (0, [.ref tx, .ref tr, .ref im, .ref m0, .ref rd])), (rd, .inr (7, [.ref im, .ref pr, .ref ra, .int rc, .int vw, .int wr])), (ra, .inl (cF, 99, .inr (.inr (.inr (.inr (rowF fa md))))))] : va_W) ++ (PL (FC cB fa ga cf) md)) (va_A [] sz) U U.heap)) "java/util/NoSuchElementException" (va_A [] sz) 1 6 (va_A [] sz) := by
  refine MetT.ofW (cc := b_DiscMaker_node) (maxL := 4) (ret := some .int) (by decide +kernel) rfl ?_
  intro p e s m args below meth c s₁ B hml hv
  obtain ⟨rfl, hsz, hP, hK, hN, hD0, hZx, hZr⟩ := hv
  have hx := B.exec
  have hb := B.bytes
  have hr := B.returns
  have hts := atoms_spec (ws := w_DiscMaker_node) B.pre
  have ht9 := fun (w : Cond) (h : w ∈ lw_g) => hts w (List.mem_cons_of_mem _ h)
  have hown : s.vm.findClass "DiscMaker" = some m.cls := findClass_of_methodNamed B.named
  have hlocks := B.notSynchronized
  subst hsz
  have hD := hD0.self (sz := s.heap.size)
  generalize hAe : va_A [] s.heap.size = A at hD hZx hZr ⊢
  have hA : ∀ q : Nat, s.heap.size ≤ q → A q := fun q h => by rw [← hAe]; exact Or.inr h
  have hS : va_S A s.heap s.heap [] := va_S.rf
  have hP : va_P D CL [] s.heap := hP
  have hP0 := hP
  have hemp := B.noHandlers (hts _ List.mem_cons_self)
  have hl := lv_entry [.ref d0, .int x, .int y] (n := 4) (Nat.le_of_ble_eq_true rfl)
  rw [lg_entry_eq]
  generalize (lg_sl [.ref d0, .int x, .int y] ++ List.replicate (4 - (lg_sl [.ref d0, .int x, .int y]).length) Slot.unset).toArray = ls at hl ⊢
  have hl : lv_has ls 4 [(0, .ref d0), (1, .int x), (2, .int y)] := hl
  have L_m1 : ((-1) : Int32).toInt = (-1) := by decide
  have L_0 : (0 : Int32).toInt = 0 := by decide
  have L_1 : (1 : Int32).toInt = 1 := by decide
  have L_8 : (8 : Int32).toInt = 8 := by decide
  refine lv_aload_n hx hb d_DiscMaker_node_0 rfl (lv_at hl 0 rfl) ?_
  have hPR := RO_at hZr hS
  refine va_get (D := D) (ci := 0) (v := .ref rd) (C := "DiscMaker") (T := F_DiscMaker) (N := 5) hx hb ht9 in_DiscMaker hown hK hPR 0 rfl rfl 4 (by decide) (ht9 _ k435) (fun _ h9 => h9) rfl d_DiscMaker_node_1 ?_
  refine lv_iload_n hx hb d_DiscMaker_node_4 rfl (lv_at hl 1 rfl) ?_
  have hPc := hP.sub (ws' := []) [] rfl
  have hDc := hD.sub (ws' := []) [] (by decide +kernel) rfl
  have hFc := va_free (wc := []) hD hS hA [] rfl
  have hPR := RO_at hZr hS
  have hkc : 0 ≤ 1 := by decide
  have hks : 0 ≤ 6 := by decide
  refine va_callq (va_runV (C := "DiscMaker$Reader") (As := [.int x]) (rest := []) ⟨hx, hb, hml, hown, hts⟩ (c3_find l D cB cI cJ cZ cN cF s.heap.size rd pr ra im rc vw wr fa md x (by (try dsimp only); first | assumption | omega | trivial) (by (try dsimp only); first | assumption | omega | trivial)) (cwV 1 hts (lg_goodV k1379 k1380 k1381 k123 kc_Reader_find) rfl rfl rfl (by decide +kernel) ⟨Nat.le_of_ble_eq_true rfl, Nat.le_of_ble_eq_true rfl⟩) ⟨fun a U g mk q => by obtain ⟨q0, q1, qP, qK, qN, qD, qZ0⟩ := q; exact ⟨q0, q1, qP, va_K.moved (u := U) (U := U.calling g mk a) (Vm.Alike.refl U.vm) qK, qN.calling, qD, RO_blind qZ0⟩, va_recv hK hPR (ci := 7) (q0 := 1) rfl rfl, fun U hU hW => ⟨rfl, by rw [hU], by rw [hU]; exact hPc, va_K.moved hW.alike hK, NN.warm hW hN, hDc.weaken (fun _ _ _ _ => trivial), (RO_app (w1 := [(rd, .inr (7, [.ref im, .ref pr, .ref ra, .int rc, .int vw, .int wr]))]) (w2 := [(ra, .inl (cF, 99, .inr (.inr (.inr (.inr (rowF fa md))))))]) (RO_pass (RO_one hZr 1 rfl) hS hFc hU) (RO_pass (RO_one hZr 2 rfl) hS hFc hU))⟩⟩ rfl rfl hl.1 rfl (lv_room (Nat.le_of_ble_eq_true rfl)) d_DiscMaker_node_5 ⟨hkc, hks⟩) hS (fun q _ h => hFc q h) hFc (fun r1 u t H1 locs ht hvm hp_r1 hB hz1 hk1 hS => ?_)
  obtain ⟨hP1, hD1⟩ := hB
  rw [ht] at hP1
  obtain ⟨hP, hD⟩ := va_join (wr := []) (w1 := []) hP hD [] [] rfl rfl (by decide +kernel) (by decide +kernel) hk1 hFc hP1 hD1
  clear hPc hDc hFc hP1 hD1 hk1 hz1 hkc hks
  generalize H1 = H at hP hS ⊢
  have hP : va_P D CL [] H := hP
  have hD : va_D A [] := hD
  try dsimp only at hp_r1
  have hv_2 := hp_r1
  rcases hv_2 with ⟨hr9, hr8⟩ | ⟨hr9, hr8, hr7⟩
  · skip
    refine W.eq (g2 := F0 m 8 ls [.null]) (by rw [hr9]; rfl) ?_
    refine lv_astore_nN hx hb d_DiscMaker_node_8 rfl hl (by decide) rfl (fun ls hl => ?_)
    have hl : lv_has ls 4 [(3, .null), (0, .ref d0), (1, .int x), (2, .int y)] := hl
    refine lv_aload_nN hx hb d_DiscMaker_node_9 rfl (lv_at hl 0 rfl) ?_
    refine lv_ifnullN (tgt := 23) hx hb d_DiscMaker_node_10 (by decide) ?_
    exact zz_throw0 htl hx hb hml hlocks hemp (own := "DiscMaker") (cls := "java/util/NoSuchElementException") (ia := 143) (ic := 145) hown (by decide +kernel) (at_of atN_ok ht9 hZx) (zt_locs hK hP0 (fun k q hq => by simp at hq) hAe hS) (ht9 _ k1383) (ht9 _ k142) hS (fun q h => h) hl.1 d_DiscMaker_node_23 d_DiscMaker_node_26 d_DiscMaker_node_27 d_DiscMaker_node_30 (by decide) (by decide) (by decide) (by decide)
  · skip
    refine W.eq (g2 := F0 m 8 ls [.ref (fa x.toNatClampNeg 0)]) (by rw [hr9]; rfl) ?_
    have hk9 : x.toNatClampNeg < md := by have := i_cl (a := x) (by omega); omega
    obtain ⟨i_hj3, hj3⟩ : ∃ j : Nat, (PL (FC cB fa ga cf) md)[j]? = some ((fa x.toNatClampNeg 0), .inr (2, [.ref (fa x.toNatClampNeg 1), .ref (fa x.toNatClampNeg 2), .int (ga x.toNatClampNeg 0), .int (ga x.toNatClampNeg 1), .int (ga x.toNatClampNeg 2), .int (ga x.toNatClampNeg 3), .int (ga x.toNatClampNeg 4), .int (ga x.toNatClampNeg 5), .int (ga x.toNatClampNeg 6), .int (ga x.toNatClampNeg 7), .int (ga x.toNatClampNeg 8), .int (ga x.toNatClampNeg 9), .int (ga x.toNatClampNeg 10)])) := PL_get (i := 0) hk9 rfl
    obtain ⟨i_hj4, hj4⟩ : ∃ j : Nat, (PL (FC cB fa ga cf) md)[j]? = some ((fa x.toNatClampNeg 1), .inl (cB, 60, .inl (cf x.toNatClampNeg 1))) := PL_get (i := 1) hk9 rfl
    obtain ⟨i_hj5, hj5⟩ : ∃ j : Nat, (PL (FC cB fa ga cf) md)[j]? = some ((fa x.toNatClampNeg 2), .inl (cB, 400, .inl (cf x.toNatClampNeg 2))) := PL_get (i := 2) hk9 rfl
    refine lv_astore_n hx hb d_DiscMaker_node_8 rfl hl (by decide) rfl (fun ls hl => ?_)
    have hl : lv_has ls 4 [(3, .ref (fa x.toNatClampNeg 0)), (0, .ref d0), (1, .int x), (2, .int y)] := hl
    refine lv_aload_n hx hb d_DiscMaker_node_9 rfl (lv_at hl 0 rfl) ?_
    refine lv_ifnull hx hb d_DiscMaker_node_10 ?_
    refine lv_iload_n hx hb d_DiscMaker_node_13 rfl (lv_at hl 3 rfl) ?_
    refine lv_if_lt (tgt := 23) hx hb d_DiscMaker_node_14 (by decide) (fun h_9 => ?_) (fun h_9 => ?_)
    · skip
      have g14_13 : y.toInt < 0 := (i_lt rfl (by decide)).mp h_9
      exact zz_throw0 htl hx hb hml hlocks hemp (own := "DiscMaker") (cls := "java/util/NoSuchElementException") (ia := 143) (ic := 145) hown (by decide +kernel) (at_of atN_ok ht9 hZx) (zt_locs hK hP0 (fun k q hq => by simp at hq) hAe hS) (ht9 _ k1383) (ht9 _ k142) hS (fun q h => h) hl.1 d_DiscMaker_node_23 d_DiscMaker_node_26 d_DiscMaker_node_27 d_DiscMaker_node_30 (by decide) (by decide) (by decide) (by decide)
    · skip
      have g14_13 : ¬ y.toInt < 0 := fun h8 => h_9 ((i_lt rfl (by decide)).mpr h8)
      refine lv_iload_n hx hb d_DiscMaker_node_17 rfl (lv_at hl 3 rfl) ?_
      refine lv_bipush (v := 8) hx hb d_DiscMaker_node_18 (by decide) ?_
      refine lv_icmp_le (tgt := 31) hx hb d_DiscMaker_node_20 (by decide) (fun h_9 => ?_) (fun h_9 => ?_)
      · skip
        have g20_17 : y.toInt ≤ 8 := (i_le rfl (by decide)).mp h_9
        exfalso
        omega
      · skip
        have g20_17 : ¬ y.toInt ≤ 8 := fun h8 => h_9 ((i_le rfl (by decide)).mpr h8)
        exact zz_throw0 htl hx hb hml hlocks hemp (own := "DiscMaker") (cls := "java/util/NoSuchElementException") (ia := 143) (ic := 145) hown (by decide +kernel) (at_of atN_ok ht9 hZx) (zt_locs hK hP0 (fun k q hq => by simp at hq) hAe hS) (ht9 _ k1383) (ht9 _ k142) hS (fun q h => h) hl.1 d_DiscMaker_node_23 d_DiscMaker_node_26 d_DiscMaker_node_27 d_DiscMaker_node_30 (by decide) (by decide) (by decide) (by decide)

theorem d_DiscMaker_name_0 : decode b_DiscMaker_name 0 = .ok (.aload_n 0, 1) := by decide +kernel
theorem d_DiscMaker_name_1 : decode b_DiscMaker_name 1 = .ok (.getfield 46, 3) := by decide +kernel
theorem d_DiscMaker_name_4 : decode b_DiscMaker_name 4 = .ok (.iload_n 1, 1) := by decide +kernel
theorem d_DiscMaker_name_5 : decode b_DiscMaker_name 5 = .ok (.invokevirtual 139, 3) := by decide +kernel
theorem d_DiscMaker_name_8 : decode b_DiscMaker_name 8 = .ok (.astore_n 3, 1) := by decide +kernel
theorem d_DiscMaker_name_9 : decode b_DiscMaker_name 9 = .ok (.aload_n 3, 1) := by decide +kernel
theorem d_DiscMaker_name_10 : decode b_DiscMaker_name 10 = .ok (.ifnull 15, 3) := by decide +kernel
theorem d_DiscMaker_name_13 : decode b_DiscMaker_name 13 = .ok (.iload_n 2, 1) := by decide +kernel
theorem d_DiscMaker_name_14 : decode b_DiscMaker_name 14 = .ok (.ifCond .lt 11, 3) := by decide +kernel
theorem d_DiscMaker_name_17 : decode b_DiscMaker_name 17 = .ok (.iload_n 2, 1) := by decide +kernel
theorem d_DiscMaker_name_18 : decode b_DiscMaker_name 18 = .ok (.aload_n 3, 1) := by decide +kernel
theorem d_DiscMaker_name_19 : decode b_DiscMaker_name 19 = .ok (.getfield 151, 3) := by decide +kernel
theorem d_DiscMaker_name_22 : decode b_DiscMaker_name 22 = .ok (.if_icmp .lt 11, 3) := by decide +kernel
theorem d_DiscMaker_name_33 : decode b_DiscMaker_name 33 = .ok (.aload_n 3, 1) := by decide +kernel
theorem d_DiscMaker_name_34 : decode b_DiscMaker_name 34 = .ok (.getfield 154, 3) := by decide +kernel
theorem d_DiscMaker_name_37 : decode b_DiscMaker_name 37 = .ok (.iload_n 2, 1) := by decide +kernel
theorem d_DiscMaker_name_38 : decode b_DiscMaker_name 38 = .ok (.baload, 1) := by decide +kernel
theorem d_DiscMaker_name_39 : decode b_DiscMaker_name 39 = .ok (.sipush 255, 3) := by decide +kernel
theorem d_DiscMaker_name_42 : decode b_DiscMaker_name 42 = .ok (.iand, 1) := by decide +kernel
theorem d_DiscMaker_name_43 : decode b_DiscMaker_name 43 = .ok (.ireturn, 1) := by decide +kernel
set_option maxHeartbeats 4000000 in
set_option maxRecDepth 100000 in
theorem c3_name (l : Launch) (D : va_G) (cB cI cJ cZ cN cF : ClassId) (sz : Nat) (d0 : Nat) (tx : Nat) (tr : Nat) (im : Nat) (m0 : Nat) (rd : Nat) (pr : Nat) (ra : Nat) (rc : Int32) (vw : Int32) (wr : Int32) (fa : Nat → Nat → Nat) (ga : Nat → Nat → Int32) (cf : Nat → Nat → Nat → Int32) (md : Nat) (x : Int32) (y : Int32) (hrc : 0 ≤ rc.toInt ∧ rc.toInt ≤ md) (hmd : md ≤ 99) (hxk : (0 ≤ x.toInt ∧ x.toInt < rc.toInt) ∧ 0 ≤ y.toInt ∧ y.toInt < (ga x.toNatClampNeg 8).toInt) (hron : ROn rc.toInt ga) : Met l y_DiscMaker_name w_DiscMaker_name ({ frames := 1, cells := 0, slots := 0, locals := 27 }) (va_Pc [.ref d0, .int x, .int y] (fun U => U.heap.size = sz ∧ va_P D CL [] U.heap ∧ va_K D CL (TY cB cI cJ cZ cN cF) U ∧ NN U ∧ va_D (fun _ => True) [] ∧ RO D (([(d0, .inr (0, [.ref tx, .ref tr, .ref im, .ref m0, .ref rd])), (rd, .inr (7, [.ref im, .ref pr, .ref ra, .int rc, .int vw, .int wr])), (ra, .inl (cF, 99, .inr (.inr (.inr (.inr (rowF fa md))))))] : va_W) ++ (PL (FC cB fa ga cf) md)) (va_A [] sz) U U.heap)) (va_Qi (fun (r : Int32) (u : Unit) => True) (fun (u : Unit) (t : State) => match u with | () => va_P D CL [] t.heap ∧ va_D (va_A [] sz) []) (va_A [] sz)) 0 0 (va_A [] sz) := by
  refine Met.ofW (cc := b_DiscMaker_name) (maxL := 4) (ret := some .int) (by decide +kernel) rfl ?_
  intro p e s m args below meth c s₁ B hml hv
  obtain ⟨rfl, hsz, hP, hK, hN, hD0, hZr⟩ := hv
  have hx := B.exec
  have hb := B.bytes
  have hr := B.returns
  have hts := atoms_spec (ws := w_DiscMaker_name) B.pre
  have ht9 := fun (w : Cond) (h : w ∈ lw_g) => hts w (List.mem_cons_of_mem _ h)
  have hown : s.vm.findClass "DiscMaker" = some m.cls := findClass_of_methodNamed B.named
  have hlocks := B.notSynchronized
  subst hsz
  have hD := hD0.self (sz := s.heap.size)
  generalize hAe : va_A [] s.heap.size = A at hD hZr ⊢
  have hA : ∀ q : Nat, s.heap.size ≤ q → A q := fun q h => by rw [← hAe]; exact Or.inr h
  have hS : va_S A s.heap s.heap [] := va_S.rf
  have hP : va_P D CL [] s.heap := hP
  have hl := lv_entry [.ref d0, .int x, .int y] (n := 4) (Nat.le_of_ble_eq_true rfl)
  rw [lg_entry_eq]
  generalize (lg_sl [.ref d0, .int x, .int y] ++ List.replicate (4 - (lg_sl [.ref d0, .int x, .int y]).length) Slot.unset).toArray = ls at hl ⊢
  have hl : lv_has ls 4 [(0, .ref d0), (1, .int x), (2, .int y)] := hl
  have L_m1 : ((-1) : Int32).toInt = (-1) := by decide
  have L_0 : (0 : Int32).toInt = 0 := by decide
  have L_1 : (1 : Int32).toInt = 1 := by decide
  have L_255 : (255 : Int32).toInt = 255 := by decide
  have hxc := i_cl (a := x) (by omega)
  have hro := hron x.toNatClampNeg (by omega)
  refine lv_aload_n hx hb d_DiscMaker_name_0 rfl (lv_at hl 0 rfl) ?_
  have hPR := RO_at hZr hS
  refine va_get (D := D) (ci := 0) (v := .ref rd) (C := "DiscMaker") (T := F_DiscMaker) (N := 5) hx hb ht9 in_DiscMaker hown hK hPR 0 rfl rfl 4 (by decide) (ht9 _ k435) (fun _ h9 => h9) rfl d_DiscMaker_name_1 ?_
  refine lv_iload_n hx hb d_DiscMaker_name_4 rfl (lv_at hl 1 rfl) ?_
  have hPc := hP.sub (ws' := []) [] rfl
  have hDc := hD.sub (ws' := []) [] (by decide +kernel) rfl
  have hFc := va_free (wc := []) hD hS hA [] rfl
  have hPR := RO_at hZr hS
  have hkc : 0 ≤ 0 := by decide
  have hks : 0 ≤ 0 := by decide
  refine va_callq (va_runV (C := "DiscMaker$Reader") (As := [.int x]) (rest := []) ⟨hx, hb, hml, hown, hts⟩ (c3_find l D cB cI cJ cZ cN cF s.heap.size rd pr ra im rc vw wr fa md x (by (try dsimp only); first | assumption | omega | trivial) (by (try dsimp only); first | assumption | omega | trivial)) (cwV 1 hts (lg_goodV k1379 k1380 k1381 k123 kc_Reader_find) rfl rfl rfl (by decide +kernel) ⟨Nat.le_of_ble_eq_true rfl, Nat.le_of_ble_eq_true rfl⟩) ⟨fun a U g mk q => by obtain ⟨q0, q1, qP, qK, qN, qD, qZ0⟩ := q; exact ⟨q0, q1, qP, va_K.moved (u := U) (U := U.calling g mk a) (Vm.Alike.refl U.vm) qK, qN.calling, qD, RO_blind qZ0⟩, va_recv hK hPR (ci := 7) (q0 := 1) rfl rfl, fun U hU hW => ⟨rfl, by rw [hU], by rw [hU]; exact hPc, va_K.moved hW.alike hK, NN.warm hW hN, hDc.weaken (fun _ _ _ _ => trivial), (RO_app (w1 := [(rd, .inr (7, [.ref im, .ref pr, .ref ra, .int rc, .int vw, .int wr]))]) (w2 := [(ra, .inl (cF, 99, .inr (.inr (.inr (.inr (rowF fa md))))))]) (RO_pass (RO_one hZr 1 rfl) hS hFc hU) (RO_pass (RO_one hZr 2 rfl) hS hFc hU))⟩⟩ rfl rfl hl.1 rfl (lv_room (Nat.le_of_ble_eq_true rfl)) d_DiscMaker_name_5 ⟨hkc, hks⟩) hS (fun q _ h => hFc q h) hFc (fun r1 u t H1 locs ht hvm hp_r1 hB hz1 hk1 hS => ?_)
  obtain ⟨hP1, hD1⟩ := hB
  rw [ht] at hP1
  obtain ⟨hP, hD⟩ := va_join (wr := []) (w1 := []) hP hD [] [] rfl rfl (by decide +kernel) (by decide +kernel) hk1 hFc hP1 hD1
  clear hPc hDc hFc hP1 hD1 hk1 hz1 hkc hks
  generalize H1 = H at hP hS ⊢
  have hP : va_P D CL [] H := hP
  have hD : va_D A [] := hD
  try dsimp only at hp_r1
  have hv_2 := hp_r1
  obtain ⟨hr9, hr8, hr7⟩ := hv_2.resolve_left (fun h7 => h7.2 hxk.1)
  refine W.eq (g2 := F0 m 8 ls [.ref (fa x.toNatClampNeg 0)]) (by rw [hr9]; rfl) ?_
  have hk9 : x.toNatClampNeg < md := by have := i_cl (a := x) (by omega); omega
  obtain ⟨i_hj3, hj3⟩ : ∃ j : Nat, (PL (FC cB fa ga cf) md)[j]? = some ((fa x.toNatClampNeg 0), .inr (2, [.ref (fa x.toNatClampNeg 1), .ref (fa x.toNatClampNeg 2), .int (ga x.toNatClampNeg 0), .int (ga x.toNatClampNeg 1), .int (ga x.toNatClampNeg 2), .int (ga x.toNatClampNeg 3), .int (ga x.toNatClampNeg 4), .int (ga x.toNatClampNeg 5), .int (ga x.toNatClampNeg 6), .int (ga x.toNatClampNeg 7), .int (ga x.toNatClampNeg 8), .int (ga x.toNatClampNeg 9), .int (ga x.toNatClampNeg 10)])) := PL_get (i := 0) hk9 rfl
  obtain ⟨i_hj4, hj4⟩ : ∃ j : Nat, (PL (FC cB fa ga cf) md)[j]? = some ((fa x.toNatClampNeg 1), .inl (cB, 60, .inl (cf x.toNatClampNeg 1))) := PL_get (i := 1) hk9 rfl
  obtain ⟨i_hj5, hj5⟩ : ∃ j : Nat, (PL (FC cB fa ga cf) md)[j]? = some ((fa x.toNatClampNeg 2), .inl (cB, 400, .inl (cf x.toNatClampNeg 2))) := PL_get (i := 2) hk9 rfl
  refine lv_astore_n hx hb d_DiscMaker_name_8 rfl hl (by decide) rfl (fun ls hl => ?_)
  have hl : lv_has ls 4 [(3, .ref (fa x.toNatClampNeg 0)), (0, .ref d0), (1, .int x), (2, .int y)] := hl
  refine lv_aload_n hx hb d_DiscMaker_name_9 rfl (lv_at hl 0 rfl) ?_
  refine lv_ifnull hx hb d_DiscMaker_name_10 ?_
  refine lv_iload_n hx hb d_DiscMaker_name_13 rfl (lv_at hl 3 rfl) ?_
  refine lv_if_lt (tgt := 25) hx hb d_DiscMaker_name_14 (by decide) (fun h_9 => ?_) (fun h_9 => ?_)
  · skip
    have g14_9 : y.toInt < 0 := (i_lt rfl (by decide)).mp h_9
    exfalso
    omega
  · skip
    have g14_9 : ¬ y.toInt < 0 := fun h8 => h_9 ((i_lt rfl (by decide)).mpr h8)
    refine lv_iload_n hx hb d_DiscMaker_name_17 rfl (lv_at hl 3 rfl) ?_
    refine lv_aload_n hx hb d_DiscMaker_name_18 rfl (lv_at hl 0 rfl) ?_
    have hPR := RO_at hZr hS
    refine va_getN (D := D) (ci := 2) (v := .int (ga x.toNatClampNeg 8)) (C := "DiscMaker$Found") (T := F_Found) (N := 13) hx hb ht9 in_Found hown hK hPR _ (pix (X := [(d0, .inr (0, [.ref tx, .ref tr, .ref im, .ref m0, .ref rd])), (rd, .inr (7, [.ref im, .ref pr, .ref ra, .int rc, .int vw, .int wr])), (ra, .inl (cF, 99, .inr (.inr (.inr (.inr (rowF fa md))))))]) hj3) rfl 10 (by decide) (va_Nw.use rfl (hN _ k1247)) (fun _ h9 => h9) rfl d_DiscMaker_name_19 ?_
    refine lv_icmp_lt (tgt := 33) hx hb d_DiscMaker_name_22 (by decide) (fun h_9 => ?_) (fun h_9 => ?_)
    · skip
      have g22_13 : y.toInt < (ga x.toNatClampNeg 8).toInt := (i_lt rfl rfl).mp h_9
      refine lv_aload_n hx hb d_DiscMaker_name_33 rfl (lv_at hl 0 rfl) ?_
      have hPR := RO_at hZr hS
      refine va_getN (D := D) (ci := 2) (v := .ref (fa x.toNatClampNeg 1)) (C := "DiscMaker$Found") (T := F_Found) (N := 13) hx hb ht9 in_Found hown hK hPR _ (pix (X := [(d0, .inr (0, [.ref tx, .ref tr, .ref im, .ref m0, .ref rd])), (rd, .inr (7, [.ref im, .ref pr, .ref ra, .int rc, .int vw, .int wr])), (ra, .inl (cF, 99, .inr (.inr (.inr (.inr (rowF fa md))))))]) hj3) rfl 0 (by decide) (va_Nw.use rfl (hN _ k1224)) (fun _ h9 => h9) rfl d_DiscMaker_name_34 ?_
      refine lv_iload_n hx hb d_DiscMaker_name_37 rfl (lv_at hl 3 rfl) ?_
      have hPR := RO_at hZr hS
      refine va_bald hx hb hK hPR _ 0 (pix (X := [(d0, .inr (0, [.ref tx, .ref tr, .ref im, .ref m0, .ref rd])), (rd, .inr (7, [.ref im, .ref pr, .ref ra, .int rc, .int vw, .int wr])), (ra, .inl (cF, 99, .inr (.inr (.inr (.inr (rowF fa md))))))]) hj4) rfl (vp_in_iff.mpr ⟨by omega, by omega⟩) d_DiscMaker_name_38 ?_
      refine lv_topi (fun v6 e_v6 => ?_)
      refine lv_sipush (v := 255) hx hb d_DiscMaker_name_39 (by decide) ?_
      refine lv_iand hx hb d_DiscMaker_name_42 ?_
      refine lv_topi (fun v7 e_v7 => ?_)
      have t_v7 : 0 ≤ v7.toInt ∧ v7.toInt ≤ 255 := by rw [e_v7]; exact i_and (by decide) (by decide)
      have hP9 := hP.sub (ws' := []) [] rfl
      have hD9 := hD.sub (ws' := []) [] (by decide +kernel) rfl
      exact W.iret (v := v7) hx hb hr (fun t ht hW => ⟨⟨v7, (), rfl, trivial, by rw [ht]; exact hP9, hD9⟩, hS.F ht⟩) hS.2.2 d_DiscMaker_name_43
    · skip
      have g22_13 : ¬ y.toInt < (ga x.toNatClampNeg 8).toInt := fun h8 => h_9 ((i_lt rfl rfl).mpr h8)
      exfalso
      omega

theorem d_DiscMaker_name_25 : decode b_DiscMaker_name 25 = .ok (.new 143, 3) := by decide +kernel
theorem d_DiscMaker_name_28 : decode b_DiscMaker_name 28 = .ok (.dup, 1) := by decide +kernel
theorem d_DiscMaker_name_29 : decode b_DiscMaker_name 29 = .ok (.invokespecial 145, 3) := by decide +kernel
theorem d_DiscMaker_name_32 : decode b_DiscMaker_name 32 = .ok (.athrow, 1) := by decide +kernel
set_option maxHeartbeats 4000000 in
set_option maxRecDepth 100000 in
theorem c3_t_name (l : Launch) (htl : l.stackTraces = false) (D : va_G) (cB cI cJ cZ cN cF : ClassId) (sz : Nat) (d0 : Nat) (tx : Nat) (tr : Nat) (im : Nat) (m0 : Nat) (rd : Nat) (pr : Nat) (ra : Nat) (rc : Int32) (vw : Int32) (wr : Int32) (fa : Nat → Nat → Nat) (ga : Nat → Nat → Int32) (cf : Nat → Nat → Nat → Int32) (md : Nat) (x : Int32) (y : Int32) (hrc : 0 ≤ rc.toInt ∧ rc.toInt ≤ md) (hmd : md ≤ 99) (hxk : ¬ ((0 ≤ x.toInt ∧ x.toInt < rc.toInt) ∧ 0 ≤ y.toInt ∧ y.toInt < (ga x.toNatClampNeg 8).toInt)) : MetT l y_DiscMaker_name w_DiscMaker_name ({ frames := 6, cells := 1, slots := 6, locals := 100 }) (va_Pc [.ref d0, .int x, .int y] (fun U => U.heap.size = sz ∧ va_P D CL [] U.heap ∧ va_K D CL (TY cB cI cJ cZ cN cF) U ∧ NN U ∧ va_D (fun _ => True) [] ∧ TX (va_A [] sz) U U.heap ∧ RO D (([(d0, .inr (0, [.ref tx, .ref tr, .ref im, .ref m0, .ref rd])), (rd, .inr (7, [.ref im, .ref pr, .ref ra, .int rc, .int vw, .int wr])), (ra, .inl (cF, 99, .inr (.inr (.inr (.inr (rowF fa md))))))] : va_W) ++ (PL (FC cB fa ga cf) md)) (va_A [] sz) U U.heap)) "java/util/NoSuchElementException" (va_A [] sz) 1 6 (va_A [] sz) := by
  refine MetT.ofW (cc := b_DiscMaker_name) (maxL := 4) (ret := some .int) (by decide +kernel) rfl ?_
  intro p e s m args below meth c s₁ B hml hv
  obtain ⟨rfl, hsz, hP, hK, hN, hD0, hZx, hZr⟩ := hv
  have hx := B.exec
  have hb := B.bytes
  have hr := B.returns
  have hts := atoms_spec (ws := w_DiscMaker_name) B.pre
  have ht9 := fun (w : Cond) (h : w ∈ lw_g) => hts w (List.mem_cons_of_mem _ h)
  have hown : s.vm.findClass "DiscMaker" = some m.cls := findClass_of_methodNamed B.named
  have hlocks := B.notSynchronized
  subst hsz
  have hD := hD0.self (sz := s.heap.size)
  generalize hAe : va_A [] s.heap.size = A at hD hZx hZr ⊢
  have hA : ∀ q : Nat, s.heap.size ≤ q → A q := fun q h => by rw [← hAe]; exact Or.inr h
  have hS : va_S A s.heap s.heap [] := va_S.rf
  have hP : va_P D CL [] s.heap := hP
  have hP0 := hP
  have hemp := B.noHandlers (hts _ List.mem_cons_self)
  have hl := lv_entry [.ref d0, .int x, .int y] (n := 4) (Nat.le_of_ble_eq_true rfl)
  rw [lg_entry_eq]
  generalize (lg_sl [.ref d0, .int x, .int y] ++ List.replicate (4 - (lg_sl [.ref d0, .int x, .int y]).length) Slot.unset).toArray = ls at hl ⊢
  have hl : lv_has ls 4 [(0, .ref d0), (1, .int x), (2, .int y)] := hl
  have L_m1 : ((-1) : Int32).toInt = (-1) := by decide
  have L_0 : (0 : Int32).toInt = 0 := by decide
  have L_1 : (1 : Int32).toInt = 1 := by decide
  have L_255 : (255 : Int32).toInt = 255 := by decide
  refine lv_aload_n hx hb d_DiscMaker_name_0 rfl (lv_at hl 0 rfl) ?_
  have hPR := RO_at hZr hS
  refine va_get (D := D) (ci := 0) (v := .ref rd) (C := "DiscMaker") (T := F_DiscMaker) (N := 5) hx hb ht9 in_DiscMaker hown hK hPR 0 rfl rfl 4 (by decide) (ht9 _ k435) (fun _ h9 => h9) rfl d_DiscMaker_name_1 ?_
  refine lv_iload_n hx hb d_DiscMaker_name_4 rfl (lv_at hl 1 rfl) ?_
  have hPc := hP.sub (ws' := []) [] rfl
  have hDc := hD.sub (ws' := []) [] (by decide +kernel) rfl
  have hFc := va_free (wc := []) hD hS hA [] rfl
  have hPR := RO_at hZr hS
  have hkc : 0 ≤ 1 := by decide
  have hks : 0 ≤ 6 := by decide
  refine va_callq (va_runV (C := "DiscMaker$Reader") (As := [.int x]) (rest := []) ⟨hx, hb, hml, hown, hts⟩ (c3_find l D cB cI cJ cZ cN cF s.heap.size rd pr ra im rc vw wr fa md x (by (try dsimp only); first | assumption | omega | trivial) (by (try dsimp only); first | assumption | omega | trivial)) (cwV 1 hts (lg_goodV k1379 k1380 k1381 k123 kc_Reader_find) rfl rfl rfl (by decide +kernel) ⟨Nat.le_of_ble_eq_true rfl, Nat.le_of_ble_eq_true rfl⟩) ⟨fun a U g mk q => by obtain ⟨q0, q1, qP, qK, qN, qD, qZ0⟩ := q; exact ⟨q0, q1, qP, va_K.moved (u := U) (U := U.calling g mk a) (Vm.Alike.refl U.vm) qK, qN.calling, qD, RO_blind qZ0⟩, va_recv hK hPR (ci := 7) (q0 := 1) rfl rfl, fun U hU hW => ⟨rfl, by rw [hU], by rw [hU]; exact hPc, va_K.moved hW.alike hK, NN.warm hW hN, hDc.weaken (fun _ _ _ _ => trivial), (RO_app (w1 := [(rd, .inr (7, [.ref im, .ref pr, .ref ra, .int rc, .int vw, .int wr]))]) (w2 := [(ra, .inl (cF, 99, .inr (.inr (.inr (.inr (rowF fa md))))))]) (RO_pass (RO_one hZr 1 rfl) hS hFc hU) (RO_pass (RO_one hZr 2 rfl) hS hFc hU))⟩⟩ rfl rfl hl.1 rfl (lv_room (Nat.le_of_ble_eq_true rfl)) d_DiscMaker_name_5 ⟨hkc, hks⟩) hS (fun q _ h => hFc q h) hFc (fun r1 u t H1 locs ht hvm hp_r1 hB hz1 hk1 hS => ?_)
  obtain ⟨hP1, hD1⟩ := hB
  rw [ht] at hP1
  obtain ⟨hP, hD⟩ := va_join (wr := []) (w1 := []) hP hD [] [] rfl rfl (by decide +kernel) (by decide +kernel) hk1 hFc hP1 hD1
  clear hPc hDc hFc hP1 hD1 hk1 hz1 hkc hks
  generalize H1 = H at hP hS ⊢
  have hP : va_P D CL [] H := hP
  have hD : va_D A [] := hD
  try dsimp only at hp_r1
  have hv_2 := hp_r1
  rcases hv_2 with ⟨hr9, hr8⟩ | ⟨hr9, hr8, hr7⟩
  · skip
    refine W.eq (g2 := F0 m 8 ls [.null]) (by rw [hr9]; rfl) ?_
    refine lv_astore_nN hx hb d_DiscMaker_name_8 rfl hl (by decide) rfl (fun ls hl => ?_)
    have hl : lv_has ls 4 [(3, .null), (0, .ref d0), (1, .int x), (2, .int y)] := hl
    refine lv_aload_nN hx hb d_DiscMaker_name_9 rfl (lv_at hl 0 rfl) ?_
    refine lv_ifnullN (tgt := 25) hx hb d_DiscMaker_name_10 (by decide) ?_
    exact zz_throw0 htl hx hb hml hlocks hemp (own := "DiscMaker") (cls := "java/util/NoSuchElementException") (ia := 143) (ic := 145) hown (by decide +kernel) (at_of atN_ok ht9 hZx) (zt_locs hK hP0 (fun k q hq => by simp at hq) hAe hS) (ht9 _ k1383) (ht9 _ k142) hS (fun q h => h) hl.1 d_DiscMaker_name_25 d_DiscMaker_name_28 d_DiscMaker_name_29 d_DiscMaker_name_32 (by decide) (by decide) (by decide) (by decide)
  · skip
    refine W.eq (g2 := F0 m 8 ls [.ref (fa x.toNatClampNeg 0)]) (by rw [hr9]; rfl) ?_
    have hk9 : x.toNatClampNeg < md := by have := i_cl (a := x) (by omega); omega
    obtain ⟨i_hj3, hj3⟩ : ∃ j : Nat, (PL (FC cB fa ga cf) md)[j]? = some ((fa x.toNatClampNeg 0), .inr (2, [.ref (fa x.toNatClampNeg 1), .ref (fa x.toNatClampNeg 2), .int (ga x.toNatClampNeg 0), .int (ga x.toNatClampNeg 1), .int (ga x.toNatClampNeg 2), .int (ga x.toNatClampNeg 3), .int (ga x.toNatClampNeg 4), .int (ga x.toNatClampNeg 5), .int (ga x.toNatClampNeg 6), .int (ga x.toNatClampNeg 7), .int (ga x.toNatClampNeg 8), .int (ga x.toNatClampNeg 9), .int (ga x.toNatClampNeg 10)])) := PL_get (i := 0) hk9 rfl
    obtain ⟨i_hj4, hj4⟩ : ∃ j : Nat, (PL (FC cB fa ga cf) md)[j]? = some ((fa x.toNatClampNeg 1), .inl (cB, 60, .inl (cf x.toNatClampNeg 1))) := PL_get (i := 1) hk9 rfl
    obtain ⟨i_hj5, hj5⟩ : ∃ j : Nat, (PL (FC cB fa ga cf) md)[j]? = some ((fa x.toNatClampNeg 2), .inl (cB, 400, .inl (cf x.toNatClampNeg 2))) := PL_get (i := 2) hk9 rfl
    refine lv_astore_n hx hb d_DiscMaker_name_8 rfl hl (by decide) rfl (fun ls hl => ?_)
    have hl : lv_has ls 4 [(3, .ref (fa x.toNatClampNeg 0)), (0, .ref d0), (1, .int x), (2, .int y)] := hl
    refine lv_aload_n hx hb d_DiscMaker_name_9 rfl (lv_at hl 0 rfl) ?_
    refine lv_ifnull hx hb d_DiscMaker_name_10 ?_
    refine lv_iload_n hx hb d_DiscMaker_name_13 rfl (lv_at hl 3 rfl) ?_
    refine lv_if_lt (tgt := 25) hx hb d_DiscMaker_name_14 (by decide) (fun h_9 => ?_) (fun h_9 => ?_)
    · skip
      have g14_13 : y.toInt < 0 := (i_lt rfl (by decide)).mp h_9
      exact zz_throw0 htl hx hb hml hlocks hemp (own := "DiscMaker") (cls := "java/util/NoSuchElementException") (ia := 143) (ic := 145) hown (by decide +kernel) (at_of atN_ok ht9 hZx) (zt_locs hK hP0 (fun k q hq => by simp at hq) hAe hS) (ht9 _ k1383) (ht9 _ k142) hS (fun q h => h) hl.1 d_DiscMaker_name_25 d_DiscMaker_name_28 d_DiscMaker_name_29 d_DiscMaker_name_32 (by decide) (by decide) (by decide) (by decide)
    · skip
      have g14_13 : ¬ y.toInt < 0 := fun h8 => h_9 ((i_lt rfl (by decide)).mpr h8)
      refine lv_iload_n hx hb d_DiscMaker_name_17 rfl (lv_at hl 3 rfl) ?_
      refine lv_aload_n hx hb d_DiscMaker_name_18 rfl (lv_at hl 0 rfl) ?_
      have hPR := RO_at hZr hS
      refine va_getN (D := D) (ci := 2) (v := .int (ga x.toNatClampNeg 8)) (C := "DiscMaker$Found") (T := F_Found) (N := 13) hx hb ht9 in_Found hown hK hPR _ (pix (X := [(d0, .inr (0, [.ref tx, .ref tr, .ref im, .ref m0, .ref rd])), (rd, .inr (7, [.ref im, .ref pr, .ref ra, .int rc, .int vw, .int wr])), (ra, .inl (cF, 99, .inr (.inr (.inr (.inr (rowF fa md))))))]) hj3) rfl 10 (by decide) (va_Nw.use rfl (hN _ k1247)) (fun _ h9 => h9) rfl d_DiscMaker_name_19 ?_
      refine lv_icmp_lt (tgt := 33) hx hb d_DiscMaker_name_22 (by decide) (fun h_9 => ?_) (fun h_9 => ?_)
      · skip
        have g22_18 : y.toInt < (ga x.toNatClampNeg 8).toInt := (i_lt rfl rfl).mp h_9
        exfalso
        omega
      · skip
        have g22_18 : ¬ y.toInt < (ga x.toNatClampNeg 8).toInt := fun h8 => h_9 ((i_lt rfl rfl).mpr h8)
        exact zz_throw0 htl hx hb hml hlocks hemp (own := "DiscMaker") (cls := "java/util/NoSuchElementException") (ia := 143) (ic := 145) hown (by decide +kernel) (at_of atN_ok ht9 hZx) (zt_locs hK hP0 (fun k q hq => by simp at hq) hAe hS) (ht9 _ k1383) (ht9 _ k142) hS (fun q h => h) hl.1 d_DiscMaker_name_25 d_DiscMaker_name_28 d_DiscMaker_name_29 d_DiscMaker_name_32 (by decide) (by decide) (by decide) (by decide)

theorem d_DiscMaker_target_0 : decode b_DiscMaker_target 0 = .ok (.aload_n 0, 1) := by decide +kernel
theorem d_DiscMaker_target_1 : decode b_DiscMaker_target 1 = .ok (.getfield 46, 3) := by decide +kernel
theorem d_DiscMaker_target_4 : decode b_DiscMaker_target 4 = .ok (.iload_n 1, 1) := by decide +kernel
theorem d_DiscMaker_target_5 : decode b_DiscMaker_target 5 = .ok (.invokevirtual 139, 3) := by decide +kernel
theorem d_DiscMaker_target_8 : decode b_DiscMaker_target 8 = .ok (.astore_n 3, 1) := by decide +kernel
theorem d_DiscMaker_target_9 : decode b_DiscMaker_target 9 = .ok (.aload_n 3, 1) := by decide +kernel
theorem d_DiscMaker_target_10 : decode b_DiscMaker_target 10 = .ok (.ifnull 15, 3) := by decide +kernel
theorem d_DiscMaker_target_13 : decode b_DiscMaker_target 13 = .ok (.iload_n 2, 1) := by decide +kernel
theorem d_DiscMaker_target_14 : decode b_DiscMaker_target 14 = .ok (.ifCond .lt 11, 3) := by decide +kernel
theorem d_DiscMaker_target_17 : decode b_DiscMaker_target 17 = .ok (.iload_n 2, 1) := by decide +kernel
theorem d_DiscMaker_target_18 : decode b_DiscMaker_target 18 = .ok (.aload_n 3, 1) := by decide +kernel
theorem d_DiscMaker_target_19 : decode b_DiscMaker_target 19 = .ok (.getfield 157, 3) := by decide +kernel
theorem d_DiscMaker_target_22 : decode b_DiscMaker_target 22 = .ok (.if_icmp .lt 11, 3) := by decide +kernel
theorem d_DiscMaker_target_33 : decode b_DiscMaker_target 33 = .ok (.aload_n 3, 1) := by decide +kernel
theorem d_DiscMaker_target_34 : decode b_DiscMaker_target 34 = .ok (.getfield 160, 3) := by decide +kernel
theorem d_DiscMaker_target_37 : decode b_DiscMaker_target 37 = .ok (.iload_n 2, 1) := by decide +kernel
theorem d_DiscMaker_target_38 : decode b_DiscMaker_target 38 = .ok (.baload, 1) := by decide +kernel
theorem d_DiscMaker_target_39 : decode b_DiscMaker_target 39 = .ok (.sipush 255, 3) := by decide +kernel
theorem d_DiscMaker_target_42 : decode b_DiscMaker_target 42 = .ok (.iand, 1) := by decide +kernel
theorem d_DiscMaker_target_43 : decode b_DiscMaker_target 43 = .ok (.ireturn, 1) := by decide +kernel
set_option maxHeartbeats 4000000 in
set_option maxRecDepth 100000 in
theorem c3_target (l : Launch) (D : va_G) (cB cI cJ cZ cN cF : ClassId) (sz : Nat) (d0 : Nat) (tx : Nat) (tr : Nat) (im : Nat) (m0 : Nat) (rd : Nat) (pr : Nat) (ra : Nat) (rc : Int32) (vw : Int32) (wr : Int32) (fa : Nat → Nat → Nat) (ga : Nat → Nat → Int32) (cf : Nat → Nat → Nat → Int32) (md : Nat) (x : Int32) (y : Int32) (hrc : 0 ≤ rc.toInt ∧ rc.toInt ≤ md) (hmd : md ≤ 99) (hxk : (0 ≤ x.toInt ∧ x.toInt < rc.toInt) ∧ 0 ≤ y.toInt ∧ y.toInt < (ga x.toNatClampNeg 9).toInt) (hron : ROn rc.toInt ga) : Met l y_DiscMaker_target w_DiscMaker_target ({ frames := 1, cells := 0, slots := 0, locals := 27 }) (va_Pc [.ref d0, .int x, .int y] (fun U => U.heap.size = sz ∧ va_P D CL [] U.heap ∧ va_K D CL (TY cB cI cJ cZ cN cF) U ∧ NN U ∧ va_D (fun _ => True) [] ∧ RO D (([(d0, .inr (0, [.ref tx, .ref tr, .ref im, .ref m0, .ref rd])), (rd, .inr (7, [.ref im, .ref pr, .ref ra, .int rc, .int vw, .int wr])), (ra, .inl (cF, 99, .inr (.inr (.inr (.inr (rowF fa md))))))] : va_W) ++ (PL (FC cB fa ga cf) md)) (va_A [] sz) U U.heap)) (va_Qi (fun (r : Int32) (u : Unit) => True) (fun (u : Unit) (t : State) => match u with | () => va_P D CL [] t.heap ∧ va_D (va_A [] sz) []) (va_A [] sz)) 0 0 (va_A [] sz) := by
  refine Met.ofW (cc := b_DiscMaker_target) (maxL := 4) (ret := some .int) (by decide +kernel) rfl ?_
  intro p e s m args below meth c s₁ B hml hv
  obtain ⟨rfl, hsz, hP, hK, hN, hD0, hZr⟩ := hv
  have hx := B.exec
  have hb := B.bytes
  have hr := B.returns
  have hts := atoms_spec (ws := w_DiscMaker_target) B.pre
  have ht9 := fun (w : Cond) (h : w ∈ lw_g) => hts w (List.mem_cons_of_mem _ h)
  have hown : s.vm.findClass "DiscMaker" = some m.cls := findClass_of_methodNamed B.named
  have hlocks := B.notSynchronized
  subst hsz
  have hD := hD0.self (sz := s.heap.size)
  generalize hAe : va_A [] s.heap.size = A at hD hZr ⊢
  have hA : ∀ q : Nat, s.heap.size ≤ q → A q := fun q h => by rw [← hAe]; exact Or.inr h
  have hS : va_S A s.heap s.heap [] := va_S.rf
  have hP : va_P D CL [] s.heap := hP
  have hl := lv_entry [.ref d0, .int x, .int y] (n := 4) (Nat.le_of_ble_eq_true rfl)
  rw [lg_entry_eq]
  generalize (lg_sl [.ref d0, .int x, .int y] ++ List.replicate (4 - (lg_sl [.ref d0, .int x, .int y]).length) Slot.unset).toArray = ls at hl ⊢
  have hl : lv_has ls 4 [(0, .ref d0), (1, .int x), (2, .int y)] := hl
  have L_m1 : ((-1) : Int32).toInt = (-1) := by decide
  have L_0 : (0 : Int32).toInt = 0 := by decide
  have L_1 : (1 : Int32).toInt = 1 := by decide
  have L_255 : (255 : Int32).toInt = 255 := by decide
  have hxc := i_cl (a := x) (by omega)
  have hro := hron x.toNatClampNeg (by omega)
  refine lv_aload_n hx hb d_DiscMaker_target_0 rfl (lv_at hl 0 rfl) ?_
  have hPR := RO_at hZr hS
  refine va_get (D := D) (ci := 0) (v := .ref rd) (C := "DiscMaker") (T := F_DiscMaker) (N := 5) hx hb ht9 in_DiscMaker hown hK hPR 0 rfl rfl 4 (by decide) (ht9 _ k435) (fun _ h9 => h9) rfl d_DiscMaker_target_1 ?_
  refine lv_iload_n hx hb d_DiscMaker_target_4 rfl (lv_at hl 1 rfl) ?_
  have hPc := hP.sub (ws' := []) [] rfl
  have hDc := hD.sub (ws' := []) [] (by decide +kernel) rfl
  have hFc := va_free (wc := []) hD hS hA [] rfl
  have hPR := RO_at hZr hS
  have hkc : 0 ≤ 0 := by decide
  have hks : 0 ≤ 0 := by decide
  refine va_callq (va_runV (C := "DiscMaker$Reader") (As := [.int x]) (rest := []) ⟨hx, hb, hml, hown, hts⟩ (c3_find l D cB cI cJ cZ cN cF s.heap.size rd pr ra im rc vw wr fa md x (by (try dsimp only); first | assumption | omega | trivial) (by (try dsimp only); first | assumption | omega | trivial)) (cwV 1 hts (lg_goodV k1379 k1380 k1381 k123 kc_Reader_find) rfl rfl rfl (by decide +kernel) ⟨Nat.le_of_ble_eq_true rfl, Nat.le_of_ble_eq_true rfl⟩) ⟨fun a U g mk q => by obtain ⟨q0, q1, qP, qK, qN, qD, qZ0⟩ := q; exact ⟨q0, q1, qP, va_K.moved (u := U) (U := U.calling g mk a) (Vm.Alike.refl U.vm) qK, qN.calling, qD, RO_blind qZ0⟩, va_recv hK hPR (ci := 7) (q0 := 1) rfl rfl, fun U hU hW => ⟨rfl, by rw [hU], by rw [hU]; exact hPc, va_K.moved hW.alike hK, NN.warm hW hN, hDc.weaken (fun _ _ _ _ => trivial), (RO_app (w1 := [(rd, .inr (7, [.ref im, .ref pr, .ref ra, .int rc, .int vw, .int wr]))]) (w2 := [(ra, .inl (cF, 99, .inr (.inr (.inr (.inr (rowF fa md))))))]) (RO_pass (RO_one hZr 1 rfl) hS hFc hU) (RO_pass (RO_one hZr 2 rfl) hS hFc hU))⟩⟩ rfl rfl hl.1 rfl (lv_room (Nat.le_of_ble_eq_true rfl)) d_DiscMaker_target_5 ⟨hkc, hks⟩) hS (fun q _ h => hFc q h) hFc (fun r1 u t H1 locs ht hvm hp_r1 hB hz1 hk1 hS => ?_)
  obtain ⟨hP1, hD1⟩ := hB
  rw [ht] at hP1
  obtain ⟨hP, hD⟩ := va_join (wr := []) (w1 := []) hP hD [] [] rfl rfl (by decide +kernel) (by decide +kernel) hk1 hFc hP1 hD1
  clear hPc hDc hFc hP1 hD1 hk1 hz1 hkc hks
  generalize H1 = H at hP hS ⊢
  have hP : va_P D CL [] H := hP
  have hD : va_D A [] := hD
  try dsimp only at hp_r1
  have hv_2 := hp_r1
  obtain ⟨hr9, hr8, hr7⟩ := hv_2.resolve_left (fun h7 => h7.2 hxk.1)
  refine W.eq (g2 := F0 m 8 ls [.ref (fa x.toNatClampNeg 0)]) (by rw [hr9]; rfl) ?_
  have hk9 : x.toNatClampNeg < md := by have := i_cl (a := x) (by omega); omega
  obtain ⟨i_hj3, hj3⟩ : ∃ j : Nat, (PL (FC cB fa ga cf) md)[j]? = some ((fa x.toNatClampNeg 0), .inr (2, [.ref (fa x.toNatClampNeg 1), .ref (fa x.toNatClampNeg 2), .int (ga x.toNatClampNeg 0), .int (ga x.toNatClampNeg 1), .int (ga x.toNatClampNeg 2), .int (ga x.toNatClampNeg 3), .int (ga x.toNatClampNeg 4), .int (ga x.toNatClampNeg 5), .int (ga x.toNatClampNeg 6), .int (ga x.toNatClampNeg 7), .int (ga x.toNatClampNeg 8), .int (ga x.toNatClampNeg 9), .int (ga x.toNatClampNeg 10)])) := PL_get (i := 0) hk9 rfl
  obtain ⟨i_hj4, hj4⟩ : ∃ j : Nat, (PL (FC cB fa ga cf) md)[j]? = some ((fa x.toNatClampNeg 1), .inl (cB, 60, .inl (cf x.toNatClampNeg 1))) := PL_get (i := 1) hk9 rfl
  obtain ⟨i_hj5, hj5⟩ : ∃ j : Nat, (PL (FC cB fa ga cf) md)[j]? = some ((fa x.toNatClampNeg 2), .inl (cB, 400, .inl (cf x.toNatClampNeg 2))) := PL_get (i := 2) hk9 rfl
  refine lv_astore_n hx hb d_DiscMaker_target_8 rfl hl (by decide) rfl (fun ls hl => ?_)
  have hl : lv_has ls 4 [(3, .ref (fa x.toNatClampNeg 0)), (0, .ref d0), (1, .int x), (2, .int y)] := hl
  refine lv_aload_n hx hb d_DiscMaker_target_9 rfl (lv_at hl 0 rfl) ?_
  refine lv_ifnull hx hb d_DiscMaker_target_10 ?_
  refine lv_iload_n hx hb d_DiscMaker_target_13 rfl (lv_at hl 3 rfl) ?_
  refine lv_if_lt (tgt := 25) hx hb d_DiscMaker_target_14 (by decide) (fun h_9 => ?_) (fun h_9 => ?_)
  · skip
    have g14_9 : y.toInt < 0 := (i_lt rfl (by decide)).mp h_9
    exfalso
    omega
  · skip
    have g14_9 : ¬ y.toInt < 0 := fun h8 => h_9 ((i_lt rfl (by decide)).mpr h8)
    refine lv_iload_n hx hb d_DiscMaker_target_17 rfl (lv_at hl 3 rfl) ?_
    refine lv_aload_n hx hb d_DiscMaker_target_18 rfl (lv_at hl 0 rfl) ?_
    have hPR := RO_at hZr hS
    refine va_getN (D := D) (ci := 2) (v := .int (ga x.toNatClampNeg 9)) (C := "DiscMaker$Found") (T := F_Found) (N := 13) hx hb ht9 in_Found hown hK hPR _ (pix (X := [(d0, .inr (0, [.ref tx, .ref tr, .ref im, .ref m0, .ref rd])), (rd, .inr (7, [.ref im, .ref pr, .ref ra, .int rc, .int vw, .int wr])), (ra, .inl (cF, 99, .inr (.inr (.inr (.inr (rowF fa md))))))]) hj3) rfl 11 (by decide) (va_Nw.use rfl (hN _ k1250)) (fun _ h9 => h9) rfl d_DiscMaker_target_19 ?_
    refine lv_icmp_lt (tgt := 33) hx hb d_DiscMaker_target_22 (by decide) (fun h_9 => ?_) (fun h_9 => ?_)
    · skip
      have g22_13 : y.toInt < (ga x.toNatClampNeg 9).toInt := (i_lt rfl rfl).mp h_9
      refine lv_aload_n hx hb d_DiscMaker_target_33 rfl (lv_at hl 0 rfl) ?_
      have hPR := RO_at hZr hS
      refine va_getN (D := D) (ci := 2) (v := .ref (fa x.toNatClampNeg 2)) (C := "DiscMaker$Found") (T := F_Found) (N := 13) hx hb ht9 in_Found hown hK hPR _ (pix (X := [(d0, .inr (0, [.ref tx, .ref tr, .ref im, .ref m0, .ref rd])), (rd, .inr (7, [.ref im, .ref pr, .ref ra, .int rc, .int vw, .int wr])), (ra, .inl (cF, 99, .inr (.inr (.inr (.inr (rowF fa md))))))]) hj3) rfl 1 (by decide) (va_Nw.use rfl (hN _ k1226)) (fun _ h9 => h9) rfl d_DiscMaker_target_34 ?_
      refine lv_iload_n hx hb d_DiscMaker_target_37 rfl (lv_at hl 3 rfl) ?_
      have hPR := RO_at hZr hS
      refine va_bald hx hb hK hPR _ 0 (pix (X := [(d0, .inr (0, [.ref tx, .ref tr, .ref im, .ref m0, .ref rd])), (rd, .inr (7, [.ref im, .ref pr, .ref ra, .int rc, .int vw, .int wr])), (ra, .inl (cF, 99, .inr (.inr (.inr (.inr (rowF fa md))))))]) hj5) rfl (vp_in_iff.mpr ⟨by omega, by omega⟩) d_DiscMaker_target_38 ?_
      refine lv_topi (fun v6 e_v6 => ?_)
      refine lv_sipush (v := 255) hx hb d_DiscMaker_target_39 (by decide) ?_
      refine lv_iand hx hb d_DiscMaker_target_42 ?_
      refine lv_topi (fun v7 e_v7 => ?_)
      have t_v7 : 0 ≤ v7.toInt ∧ v7.toInt ≤ 255 := by rw [e_v7]; exact i_and (by decide) (by decide)
      have hP9 := hP.sub (ws' := []) [] rfl
      have hD9 := hD.sub (ws' := []) [] (by decide +kernel) rfl
      exact W.iret (v := v7) hx hb hr (fun t ht hW => ⟨⟨v7, (), rfl, trivial, by rw [ht]; exact hP9, hD9⟩, hS.F ht⟩) hS.2.2 d_DiscMaker_target_43
    · skip
      have g22_13 : ¬ y.toInt < (ga x.toNatClampNeg 9).toInt := fun h8 => h_9 ((i_lt rfl rfl).mpr h8)
      exfalso
      omega

theorem d_DiscMaker_target_25 : decode b_DiscMaker_target 25 = .ok (.new 143, 3) := by decide +kernel
theorem d_DiscMaker_target_28 : decode b_DiscMaker_target 28 = .ok (.dup, 1) := by decide +kernel
theorem d_DiscMaker_target_29 : decode b_DiscMaker_target 29 = .ok (.invokespecial 145, 3) := by decide +kernel
theorem d_DiscMaker_target_32 : decode b_DiscMaker_target 32 = .ok (.athrow, 1) := by decide +kernel
set_option maxHeartbeats 4000000 in
set_option maxRecDepth 100000 in
theorem c3_t_target (l : Launch) (htl : l.stackTraces = false) (D : va_G) (cB cI cJ cZ cN cF : ClassId) (sz : Nat) (d0 : Nat) (tx : Nat) (tr : Nat) (im : Nat) (m0 : Nat) (rd : Nat) (pr : Nat) (ra : Nat) (rc : Int32) (vw : Int32) (wr : Int32) (fa : Nat → Nat → Nat) (ga : Nat → Nat → Int32) (cf : Nat → Nat → Nat → Int32) (md : Nat) (x : Int32) (y : Int32) (hrc : 0 ≤ rc.toInt ∧ rc.toInt ≤ md) (hmd : md ≤ 99) (hxk : ¬ ((0 ≤ x.toInt ∧ x.toInt < rc.toInt) ∧ 0 ≤ y.toInt ∧ y.toInt < (ga x.toNatClampNeg 9).toInt)) : MetT l y_DiscMaker_target w_DiscMaker_target ({ frames := 6, cells := 1, slots := 6, locals := 100 }) (va_Pc [.ref d0, .int x, .int y] (fun U => U.heap.size = sz ∧ va_P D CL [] U.heap ∧ va_K D CL (TY cB cI cJ cZ cN cF) U ∧ NN U ∧ va_D (fun _ => True) [] ∧ TX (va_A [] sz) U U.heap ∧ RO D (([(d0, .inr (0, [.ref tx, .ref tr, .ref im, .ref m0, .ref rd])), (rd, .inr (7, [.ref im, .ref pr, .ref ra, .int rc, .int vw, .int wr])), (ra, .inl (cF, 99, .inr (.inr (.inr (.inr (rowF fa md))))))] : va_W) ++ (PL (FC cB fa ga cf) md)) (va_A [] sz) U U.heap)) "java/util/NoSuchElementException" (va_A [] sz) 1 6 (va_A [] sz) := by
  refine MetT.ofW (cc := b_DiscMaker_target) (maxL := 4) (ret := some .int) (by decide +kernel) rfl ?_
  intro p e s m args below meth c s₁ B hml hv
  obtain ⟨rfl, hsz, hP, hK, hN, hD0, hZx, hZr⟩ := hv
  have hx := B.exec
  have hb := B.bytes
  have hr := B.returns
  have hts := atoms_spec (ws := w_DiscMaker_target) B.pre
  have ht9 := fun (w : Cond) (h : w ∈ lw_g) => hts w (List.mem_cons_of_mem _ h)
  have hown : s.vm.findClass "DiscMaker" = some m.cls := findClass_of_methodNamed B.named
  have hlocks := B.notSynchronized
  subst hsz
  have hD := hD0.self (sz := s.heap.size)
  generalize hAe : va_A [] s.heap.size = A at hD hZx hZr ⊢
  have hA : ∀ q : Nat, s.heap.size ≤ q → A q := fun q h => by rw [← hAe]; exact Or.inr h
  have hS : va_S A s.heap s.heap [] := va_S.rf
  have hP : va_P D CL [] s.heap := hP
  have hP0 := hP
  have hemp := B.noHandlers (hts _ List.mem_cons_self)
  have hl := lv_entry [.ref d0, .int x, .int y] (n := 4) (Nat.le_of_ble_eq_true rfl)
  rw [lg_entry_eq]
  generalize (lg_sl [.ref d0, .int x, .int y] ++ List.replicate (4 - (lg_sl [.ref d0, .int x, .int y]).length) Slot.unset).toArray = ls at hl ⊢
  have hl : lv_has ls 4 [(0, .ref d0), (1, .int x), (2, .int y)] := hl
  have L_m1 : ((-1) : Int32).toInt = (-1) := by decide
  have L_0 : (0 : Int32).toInt = 0 := by decide
  have L_1 : (1 : Int32).toInt = 1 := by decide
  have L_255 : (255 : Int32).toInt = 255 := by decide
  refine lv_aload_n hx hb d_DiscMaker_target_0 rfl (lv_at hl 0 rfl) ?_
  have hPR := RO_at hZr hS
  refine va_get (D := D) (ci := 0) (v := .ref rd) (C := "DiscMaker") (T := F_DiscMaker) (N := 5) hx hb ht9 in_DiscMaker hown hK hPR 0 rfl rfl 4 (by decide) (ht9 _ k435) (fun _ h9 => h9) rfl d_DiscMaker_target_1 ?_
  refine lv_iload_n hx hb d_DiscMaker_target_4 rfl (lv_at hl 1 rfl) ?_
  have hPc := hP.sub (ws' := []) [] rfl
  have hDc := hD.sub (ws' := []) [] (by decide +kernel) rfl
  have hFc := va_free (wc := []) hD hS hA [] rfl
  have hPR := RO_at hZr hS
  have hkc : 0 ≤ 1 := by decide
  have hks : 0 ≤ 6 := by decide
  refine va_callq (va_runV (C := "DiscMaker$Reader") (As := [.int x]) (rest := []) ⟨hx, hb, hml, hown, hts⟩ (c3_find l D cB cI cJ cZ cN cF s.heap.size rd pr ra im rc vw wr fa md x (by (try dsimp only); first | assumption | omega | trivial) (by (try dsimp only); first | assumption | omega | trivial)) (cwV 1 hts (lg_goodV k1379 k1380 k1381 k123 kc_Reader_find) rfl rfl rfl (by decide +kernel) ⟨Nat.le_of_ble_eq_true rfl, Nat.le_of_ble_eq_true rfl⟩) ⟨fun a U g mk q => by obtain ⟨q0, q1, qP, qK, qN, qD, qZ0⟩ := q; exact ⟨q0, q1, qP, va_K.moved (u := U) (U := U.calling g mk a) (Vm.Alike.refl U.vm) qK, qN.calling, qD, RO_blind qZ0⟩, va_recv hK hPR (ci := 7) (q0 := 1) rfl rfl, fun U hU hW => ⟨rfl, by rw [hU], by rw [hU]; exact hPc, va_K.moved hW.alike hK, NN.warm hW hN, hDc.weaken (fun _ _ _ _ => trivial), (RO_app (w1 := [(rd, .inr (7, [.ref im, .ref pr, .ref ra, .int rc, .int vw, .int wr]))]) (w2 := [(ra, .inl (cF, 99, .inr (.inr (.inr (.inr (rowF fa md))))))]) (RO_pass (RO_one hZr 1 rfl) hS hFc hU) (RO_pass (RO_one hZr 2 rfl) hS hFc hU))⟩⟩ rfl rfl hl.1 rfl (lv_room (Nat.le_of_ble_eq_true rfl)) d_DiscMaker_target_5 ⟨hkc, hks⟩) hS (fun q _ h => hFc q h) hFc (fun r1 u t H1 locs ht hvm hp_r1 hB hz1 hk1 hS => ?_)
  obtain ⟨hP1, hD1⟩ := hB
  rw [ht] at hP1
  obtain ⟨hP, hD⟩ := va_join (wr := []) (w1 := []) hP hD [] [] rfl rfl (by decide +kernel) (by decide +kernel) hk1 hFc hP1 hD1
  clear hPc hDc hFc hP1 hD1 hk1 hz1 hkc hks
  generalize H1 = H at hP hS ⊢
  have hP : va_P D CL [] H := hP
  have hD : va_D A [] := hD
  try dsimp only at hp_r1
  have hv_2 := hp_r1
  rcases hv_2 with ⟨hr9, hr8⟩ | ⟨hr9, hr8, hr7⟩
  · skip
    refine W.eq (g2 := F0 m 8 ls [.null]) (by rw [hr9]; rfl) ?_
    refine lv_astore_nN hx hb d_DiscMaker_target_8 rfl hl (by decide) rfl (fun ls hl => ?_)
    have hl : lv_has ls 4 [(3, .null), (0, .ref d0), (1, .int x), (2, .int y)] := hl
    refine lv_aload_nN hx hb d_DiscMaker_target_9 rfl (lv_at hl 0 rfl) ?_
    refine lv_ifnullN (tgt := 25) hx hb d_DiscMaker_target_10 (by decide) ?_
    exact zz_throw0 htl hx hb hml hlocks hemp (own := "DiscMaker") (cls := "java/util/NoSuchElementException") (ia := 143) (ic := 145) hown (by decide +kernel) (at_of atN_ok ht9 hZx) (zt_locs hK hP0 (fun k q hq => by simp at hq) hAe hS) (ht9 _ k1383) (ht9 _ k142) hS (fun q h => h) hl.1 d_DiscMaker_target_25 d_DiscMaker_target_28 d_DiscMaker_target_29 d_DiscMaker_target_32 (by decide) (by decide) (by decide) (by decide)
  · skip
    refine W.eq (g2 := F0 m 8 ls [.ref (fa x.toNatClampNeg 0)]) (by rw [hr9]; rfl) ?_
    have hk9 : x.toNatClampNeg < md := by have := i_cl (a := x) (by omega); omega
    obtain ⟨i_hj3, hj3⟩ : ∃ j : Nat, (PL (FC cB fa ga cf) md)[j]? = some ((fa x.toNatClampNeg 0), .inr (2, [.ref (fa x.toNatClampNeg 1), .ref (fa x.toNatClampNeg 2), .int (ga x.toNatClampNeg 0), .int (ga x.toNatClampNeg 1), .int (ga x.toNatClampNeg 2), .int (ga x.toNatClampNeg 3), .int (ga x.toNatClampNeg 4), .int (ga x.toNatClampNeg 5), .int (ga x.toNatClampNeg 6), .int (ga x.toNatClampNeg 7), .int (ga x.toNatClampNeg 8), .int (ga x.toNatClampNeg 9), .int (ga x.toNatClampNeg 10)])) := PL_get (i := 0) hk9 rfl
    obtain ⟨i_hj4, hj4⟩ : ∃ j : Nat, (PL (FC cB fa ga cf) md)[j]? = some ((fa x.toNatClampNeg 1), .inl (cB, 60, .inl (cf x.toNatClampNeg 1))) := PL_get (i := 1) hk9 rfl
    obtain ⟨i_hj5, hj5⟩ : ∃ j : Nat, (PL (FC cB fa ga cf) md)[j]? = some ((fa x.toNatClampNeg 2), .inl (cB, 400, .inl (cf x.toNatClampNeg 2))) := PL_get (i := 2) hk9 rfl
    refine lv_astore_n hx hb d_DiscMaker_target_8 rfl hl (by decide) rfl (fun ls hl => ?_)
    have hl : lv_has ls 4 [(3, .ref (fa x.toNatClampNeg 0)), (0, .ref d0), (1, .int x), (2, .int y)] := hl
    refine lv_aload_n hx hb d_DiscMaker_target_9 rfl (lv_at hl 0 rfl) ?_
    refine lv_ifnull hx hb d_DiscMaker_target_10 ?_
    refine lv_iload_n hx hb d_DiscMaker_target_13 rfl (lv_at hl 3 rfl) ?_
    refine lv_if_lt (tgt := 25) hx hb d_DiscMaker_target_14 (by decide) (fun h_9 => ?_) (fun h_9 => ?_)
    · skip
      have g14_13 : y.toInt < 0 := (i_lt rfl (by decide)).mp h_9
      exact zz_throw0 htl hx hb hml hlocks hemp (own := "DiscMaker") (cls := "java/util/NoSuchElementException") (ia := 143) (ic := 145) hown (by decide +kernel) (at_of atN_ok ht9 hZx) (zt_locs hK hP0 (fun k q hq => by simp at hq) hAe hS) (ht9 _ k1383) (ht9 _ k142) hS (fun q h => h) hl.1 d_DiscMaker_target_25 d_DiscMaker_target_28 d_DiscMaker_target_29 d_DiscMaker_target_32 (by decide) (by decide) (by decide) (by decide)
    · skip
      have g14_13 : ¬ y.toInt < 0 := fun h8 => h_9 ((i_lt rfl (by decide)).mpr h8)
      refine lv_iload_n hx hb d_DiscMaker_target_17 rfl (lv_at hl 3 rfl) ?_
      refine lv_aload_n hx hb d_DiscMaker_target_18 rfl (lv_at hl 0 rfl) ?_
      have hPR := RO_at hZr hS
      refine va_getN (D := D) (ci := 2) (v := .int (ga x.toNatClampNeg 9)) (C := "DiscMaker$Found") (T := F_Found) (N := 13) hx hb ht9 in_Found hown hK hPR _ (pix (X := [(d0, .inr (0, [.ref tx, .ref tr, .ref im, .ref m0, .ref rd])), (rd, .inr (7, [.ref im, .ref pr, .ref ra, .int rc, .int vw, .int wr])), (ra, .inl (cF, 99, .inr (.inr (.inr (.inr (rowF fa md))))))]) hj3) rfl 11 (by decide) (va_Nw.use rfl (hN _ k1250)) (fun _ h9 => h9) rfl d_DiscMaker_target_19 ?_
      refine lv_icmp_lt (tgt := 33) hx hb d_DiscMaker_target_22 (by decide) (fun h_9 => ?_) (fun h_9 => ?_)
      · skip
        have g22_18 : y.toInt < (ga x.toNatClampNeg 9).toInt := (i_lt rfl rfl).mp h_9
        exfalso
        omega
      · skip
        have g22_18 : ¬ y.toInt < (ga x.toNatClampNeg 9).toInt := fun h8 => h_9 ((i_lt rfl rfl).mpr h8)
        exact zz_throw0 htl hx hb hml hlocks hemp (own := "DiscMaker") (cls := "java/util/NoSuchElementException") (ia := 143) (ic := 145) hown (by decide +kernel) (at_of atN_ok ht9 hZx) (zt_locs hK hP0 (fun k q hq => by simp at hq) hAe hS) (ht9 _ k1383) (ht9 _ k142) hS (fun q h => h) hl.1 d_DiscMaker_target_25 d_DiscMaker_target_28 d_DiscMaker_target_29 d_DiscMaker_target_32 (by decide) (by decide) (by decide) (by decide)

theorem d_DiscMaker_read_0 : decode b_DiscMaker_read 0 = .ok (.aload_n 0, 1) := by decide +kernel
theorem d_DiscMaker_read_1 : decode b_DiscMaker_read 1 = .ok (.getfield 46, 3) := by decide +kernel
theorem d_DiscMaker_read_4 : decode b_DiscMaker_read 4 = .ok (.iload_n 1, 1) := by decide +kernel
theorem d_DiscMaker_read_5 : decode b_DiscMaker_read 5 = .ok (.invokevirtual 139, 3) := by decide +kernel
theorem d_DiscMaker_read_8 : decode b_DiscMaker_read 8 = .ok (.astore_n 3, 1) := by decide +kernel
theorem d_DiscMaker_read_9 : decode b_DiscMaker_read 9 = .ok (.aload_n 3, 1) := by decide +kernel
theorem d_DiscMaker_read_10 : decode b_DiscMaker_read 10 = .ok (.ifnull 23, 3) := by decide +kernel
theorem d_DiscMaker_read_13 : decode b_DiscMaker_read 13 = .ok (.aload_n 3, 1) := by decide +kernel
theorem d_DiscMaker_read_14 : decode b_DiscMaker_read 14 = .ok (.getfield 161, 3) := by decide +kernel
theorem d_DiscMaker_read_17 : decode b_DiscMaker_read 17 = .ok (.iconst 1, 1) := by decide +kernel
theorem d_DiscMaker_read_18 : decode b_DiscMaker_read 18 = .ok (.if_icmp .ne 15, 3) := by decide +kernel
theorem d_DiscMaker_read_21 : decode b_DiscMaker_read 21 = .ok (.iload_n 2, 1) := by decide +kernel
theorem d_DiscMaker_read_22 : decode b_DiscMaker_read 22 = .ok (.ifCond .lt 11, 3) := by decide +kernel
theorem d_DiscMaker_read_25 : decode b_DiscMaker_read 25 = .ok (.iload_n 2, 1) := by decide +kernel
theorem d_DiscMaker_read_26 : decode b_DiscMaker_read 26 = .ok (.aload_n 3, 1) := by decide +kernel
theorem d_DiscMaker_read_27 : decode b_DiscMaker_read 27 = .ok (.getfield 164, 3) := by decide +kernel
theorem d_DiscMaker_read_30 : decode b_DiscMaker_read 30 = .ok (.if_icmp .lt 11, 3) := by decide +kernel
theorem d_DiscMaker_read_41 : decode b_DiscMaker_read 41 = .ok (.aload_n 0, 1) := by decide +kernel
theorem d_DiscMaker_read_42 : decode b_DiscMaker_read 42 = .ok (.getfield 28, 3) := by decide +kernel
theorem d_DiscMaker_read_45 : decode b_DiscMaker_read 45 = .ok (.aload_n 3, 1) := by decide +kernel
theorem d_DiscMaker_read_46 : decode b_DiscMaker_read 46 = .ok (.getfield 165, 3) := by decide +kernel
theorem d_DiscMaker_read_49 : decode b_DiscMaker_read 49 = .ok (.sipush 2048, 3) := by decide +kernel
theorem d_DiscMaker_read_52 : decode b_DiscMaker_read 52 = .ok (.imul, 1) := by decide +kernel
theorem d_DiscMaker_read_53 : decode b_DiscMaker_read 53 = .ok (.iload_n 2, 1) := by decide +kernel
theorem d_DiscMaker_read_54 : decode b_DiscMaker_read 54 = .ok (.iadd, 1) := by decide +kernel
theorem d_DiscMaker_read_55 : decode b_DiscMaker_read 55 = .ok (.invokevirtual 124, 3) := by decide +kernel
theorem d_DiscMaker_read_58 : decode b_DiscMaker_read 58 = .ok (.ireturn, 1) := by decide +kernel
set_option maxHeartbeats 4000000 in
set_option maxRecDepth 100000 in
theorem c3_read (l : Launch) (D : va_G) (cB cI cJ cZ cN cF : ClassId) (sz : Nat) (d0 : Nat) (tx : Nat) (tr : Nat) (im : Nat) (m0 : Nat) (rd : Nat) (pr : Nat) (ra : Nat) (rc : Int32) (vw : Int32) (wr : Int32) (fa : Nat → Nat → Nat) (ga : Nat → Nat → Int32) (cf : Nat → Nat → Nat → Int32) (md : Nat) (x : Int32) (y : Int32) (iq : Nat) (n : Nat) (L : Int32) (f : Nat → Int32) (hrc : 0 ≤ rc.toInt ∧ rc.toInt ≤ md) (hmd : md ≤ 99) (hxk : (0 ≤ x.toInt ∧ x.toInt < rc.toInt) ∧ (ga x.toNatClampNeg 2).toInt = 1 ∧ 0 ≤ y.toInt ∧ y.toInt < (ga x.toNatClampNeg 3).toInt) (hron : ROn rc.toInt ga) (hL : 0 ≤ L.toInt ∧ L.toInt ≤ n) (hn : n ≤ 3000000) : Met l y_DiscMaker_read w_DiscMaker_read ({ frames := 1, cells := 0, slots := 0, locals := 27 }) (va_Pc [.ref d0, .int x, .int y] (fun U => U.heap.size = sz ∧ va_P D CL [(im, .inr (1, [.ref iq, .int L])), (iq, .inl (cB, n, .inl f))] U.heap ∧ va_K D CL (TY cB cI cJ cZ cN cF) U ∧ NN U ∧ va_D (fun _ => True) [(im, .inr (1, [.ref iq, .int L])), (iq, .inl (cB, n, .inl f))] ∧ RO D (([(d0, .inr (0, [.ref tx, .ref tr, .ref im, .ref m0, .ref rd])), (rd, .inr (7, [.ref im, .ref pr, .ref ra, .int rc, .int vw, .int wr])), (ra, .inl (cF, 99, .inr (.inr (.inr (.inr (rowF fa md))))))] : va_W) ++ (PL (FC cB fa ga cf) md)) (va_A [(im, .inr (1, [.ref iq, .int L])), (iq, .inl (cB, n, .inl f))] sz) U U.heap)) (va_Qi (fun (r : Int32) (u : Unit) => True) (fun (u : Unit) (t : State) => match u with | () => va_P D CL [(im, .inr (1, [.ref iq, .int L])), (iq, .inl (cB, n, .inl f))] t.heap ∧ va_D (va_A [(im, .inr (1, [.ref iq, .int L])), (iq, .inl (cB, n, .inl f))] sz) [(im, .inr (1, [.ref iq, .int L])), (iq, .inl (cB, n, .inl f))]) (va_A [(im, .inr (1, [.ref iq, .int L])), (iq, .inl (cB, n, .inl f))] sz)) 0 0 (va_A [(im, .inr (1, [.ref iq, .int L])), (iq, .inl (cB, n, .inl f))] sz) := by
  refine Met.ofW (cc := b_DiscMaker_read) (maxL := 4) (ret := some .int) (by decide +kernel) rfl ?_
  intro p e s m args below meth c s₁ B hml hv
  obtain ⟨rfl, hsz, hP, hK, hN, hD0, hZr⟩ := hv
  have hx := B.exec
  have hb := B.bytes
  have hr := B.returns
  have hts := atoms_spec (ws := w_DiscMaker_read) B.pre
  have ht9 := fun (w : Cond) (h : w ∈ lw_g) => hts w (List.mem_cons_of_mem _ h)
  have hown : s.vm.findClass "DiscMaker" = some m.cls := findClass_of_methodNamed B.named
  have hlocks := B.notSynchronized
  subst hsz
  have hD := hD0.self (sz := s.heap.size)
  generalize hAe : va_A [(im, .inr (1, [.ref iq, .int L])), (iq, .inl (cB, n, .inl f))] s.heap.size = A at hD hZr ⊢
  have hA : ∀ q : Nat, s.heap.size ≤ q → A q := fun q h => by rw [← hAe]; exact Or.inr h
  have hS : va_S A s.heap s.heap [] := va_S.rf
  have hP : va_P D CL [(im, .inr (1, [.ref iq, .int L])), (iq, .inl (cB, n, .inl f))] s.heap := hP
  have hl := lv_entry [.ref d0, .int x, .int y] (n := 4) (Nat.le_of_ble_eq_true rfl)
  rw [lg_entry_eq]
  generalize (lg_sl [.ref d0, .int x, .int y] ++ List.replicate (4 - (lg_sl [.ref d0, .int x, .int y]).length) Slot.unset).toArray = ls at hl ⊢
  have hl : lv_has ls 4 [(0, .ref d0), (1, .int x), (2, .int y)] := hl
  have L_m1 : ((-1) : Int32).toInt = (-1) := by decide
  have L_0 : (0 : Int32).toInt = 0 := by decide
  have L_1 : (1 : Int32).toInt = 1 := by decide
  have L_2048 : (2048 : Int32).toInt = 2048 := by decide
  refine lv_aload_n hx hb d_DiscMaker_read_0 rfl (lv_at hl 0 rfl) ?_
  have hPR := RO_at hZr hS
  refine va_get (D := D) (ci := 0) (v := .ref rd) (C := "DiscMaker") (T := F_DiscMaker) (N := 5) hx hb ht9 in_DiscMaker hown hK hPR 0 rfl rfl 4 (by decide) (ht9 _ k435) (fun _ h9 => h9) rfl d_DiscMaker_read_1 ?_
  refine lv_iload_n hx hb d_DiscMaker_read_4 rfl (lv_at hl 1 rfl) ?_
  have hPc := hP.sub (ws' := []) [] rfl
  have hDc := hD.sub (ws' := []) [] (by decide +kernel) rfl
  have hFc := va_free (wc := []) hD hS hA [] rfl
  have hPR := RO_at hZr hS
  have hkc : 0 ≤ 0 := by decide
  have hks : 0 ≤ 0 := by decide
  refine va_callq (va_runV (C := "DiscMaker$Reader") (As := [.int x]) (rest := []) ⟨hx, hb, hml, hown, hts⟩ (c3_find l D cB cI cJ cZ cN cF s.heap.size rd pr ra im rc vw wr fa md x (by (try dsimp only); first | assumption | omega | trivial) (by (try dsimp only); first | assumption | omega | trivial)) (cwV 1 hts (lg_goodV k1379 k1380 k1381 k123 kc_Reader_find) rfl rfl rfl (by decide +kernel) ⟨Nat.le_of_ble_eq_true rfl, Nat.le_of_ble_eq_true rfl⟩) ⟨fun a U g mk q => by obtain ⟨q0, q1, qP, qK, qN, qD, qZ0⟩ := q; exact ⟨q0, q1, qP, va_K.moved (u := U) (U := U.calling g mk a) (Vm.Alike.refl U.vm) qK, qN.calling, qD, RO_blind qZ0⟩, va_recv hK hPR (ci := 7) (q0 := 1) rfl rfl, fun U hU hW => ⟨rfl, by rw [hU], by rw [hU]; exact hPc, va_K.moved hW.alike hK, NN.warm hW hN, hDc.weaken (fun _ _ _ _ => trivial), (RO_app (w1 := [(rd, .inr (7, [.ref im, .ref pr, .ref ra, .int rc, .int vw, .int wr]))]) (w2 := [(ra, .inl (cF, 99, .inr (.inr (.inr (.inr (rowF fa md))))))]) (RO_pass (RO_one hZr 1 rfl) hS hFc hU) (RO_pass (RO_one hZr 2 rfl) hS hFc hU))⟩⟩ rfl rfl hl.1 rfl (lv_room (Nat.le_of_ble_eq_true rfl)) d_DiscMaker_read_5 ⟨hkc, hks⟩) hS (fun q _ h => hFc q h) hFc (fun r1 u t H1 locs ht hvm hp_r1 hB hz1 hk1 hS => ?_)
  obtain ⟨hP1, hD1⟩ := hB
  rw [ht] at hP1
  obtain ⟨hP, hD⟩ := va_join (wr := [(im, .inr (1, [.ref iq, .int L])), (iq, .inl (cB, n, .inl f))]) (w1 := []) hP hD [] [0, 1] rfl rfl (by decide +kernel) (by decide +kernel) hk1 hFc hP1 hD1
  clear hPc hDc hFc hP1 hD1 hk1 hz1 hkc hks
  generalize H1 = H at hP hS ⊢
  have hP : va_P D CL [(im, .inr (1, [.ref iq, .int L])), (iq, .inl (cB, n, .inl f))] H := hP
  have hD : va_D A [(im, .inr (1, [.ref iq, .int L])), (iq, .inl (cB, n, .inl f))] := hD
  try dsimp only at hp_r1
  have hv_2 := hp_r1
  obtain ⟨hr9, hr8, hr7⟩ := hv_2.resolve_left (fun h7 => h7.2 hxk.1)
  refine W.eq (g2 := F0 m 8 ls [.ref (fa x.toNatClampNeg 0)]) (by rw [hr9]; rfl) ?_
  have hk9 : x.toNatClampNeg < md := by have := i_cl (a := x) (by omega); omega
  obtain ⟨i_hj3, hj3⟩ : ∃ j : Nat, (PL (FC cB fa ga cf) md)[j]? = some ((fa x.toNatClampNeg 0), .inr (2, [.ref (fa x.toNatClampNeg 1), .ref (fa x.toNatClampNeg 2), .int (ga x.toNatClampNeg 0), .int (ga x.toNatClampNeg 1), .int (ga x.toNatClampNeg 2), .int (ga x.toNatClampNeg 3), .int (ga x.toNatClampNeg 4), .int (ga x.toNatClampNeg 5), .int (ga x.toNatClampNeg 6), .int (ga x.toNatClampNeg 7), .int (ga x.toNatClampNeg 8), .int (ga x.toNatClampNeg 9), .int (ga x.toNatClampNeg 10)])) := PL_get (i := 0) hk9 rfl
  obtain ⟨i_hj4, hj4⟩ : ∃ j : Nat, (PL (FC cB fa ga cf) md)[j]? = some ((fa x.toNatClampNeg 1), .inl (cB, 60, .inl (cf x.toNatClampNeg 1))) := PL_get (i := 1) hk9 rfl
  obtain ⟨i_hj5, hj5⟩ : ∃ j : Nat, (PL (FC cB fa ga cf) md)[j]? = some ((fa x.toNatClampNeg 2), .inl (cB, 400, .inl (cf x.toNatClampNeg 2))) := PL_get (i := 2) hk9 rfl
  refine lv_astore_n hx hb d_DiscMaker_read_8 rfl hl (by decide) rfl (fun ls hl => ?_)
  have hl : lv_has ls 4 [(3, .ref (fa x.toNatClampNeg 0)), (0, .ref d0), (1, .int x), (2, .int y)] := hl
  refine lv_aload_n hx hb d_DiscMaker_read_9 rfl (lv_at hl 0 rfl) ?_
  refine lv_ifnull hx hb d_DiscMaker_read_10 ?_
  refine lv_aload_n hx hb d_DiscMaker_read_13 rfl (lv_at hl 0 rfl) ?_
  have hPR := RO_at hZr hS
  refine va_getN (D := D) (ci := 2) (v := .int (ga x.toNatClampNeg 2)) (C := "DiscMaker$Found") (T := F_Found) (N := 13) hx hb ht9 in_Found hown hK hPR _ (pix (X := [(d0, .inr (0, [.ref tx, .ref tr, .ref im, .ref m0, .ref rd])), (rd, .inr (7, [.ref im, .ref pr, .ref ra, .int rc, .int vw, .int wr])), (ra, .inl (cF, 99, .inr (.inr (.inr (.inr (rowF fa md))))))]) hj3) rfl 4 (by decide) (va_Nw.use rfl (hN _ k1233)) (fun _ h9 => h9) rfl d_DiscMaker_read_14 ?_
  refine lv_iconst (v := 1) hx hb d_DiscMaker_read_17 (by decide) ?_
  refine lv_icmp_ne (tgt := 33) hx hb d_DiscMaker_read_18 (by decide) (fun h_9 => ?_) (fun h_9 => ?_)
  · skip
    have g18_11 : ¬ (ga x.toNatClampNeg 2).toInt = 1 := fun h8 => h_9 ((i_eq rfl (by decide)).mpr h8)
    exfalso
    omega
  · skip
    have g18_11 : (ga x.toNatClampNeg 2).toInt = 1 := (i_eq rfl (by decide)).mp h_9
    refine lv_iload_n hx hb d_DiscMaker_read_21 rfl (lv_at hl 3 rfl) ?_
    refine lv_if_lt (tgt := 33) hx hb d_DiscMaker_read_22 (by decide) (fun h_9 => ?_) (fun h_9 => ?_)
    · skip
      have g22_13 : y.toInt < 0 := (i_lt rfl (by decide)).mp h_9
      exfalso
      omega
    · skip
      have g22_13 : ¬ y.toInt < 0 := fun h8 => h_9 ((i_lt rfl (by decide)).mpr h8)
      refine lv_iload_n hx hb d_DiscMaker_read_25 rfl (lv_at hl 3 rfl) ?_
      refine lv_aload_n hx hb d_DiscMaker_read_26 rfl (lv_at hl 0 rfl) ?_
      have hPR := RO_at hZr hS
      refine va_getN (D := D) (ci := 2) (v := .int (ga x.toNatClampNeg 3)) (C := "DiscMaker$Found") (T := F_Found) (N := 13) hx hb ht9 in_Found hown hK hPR _ (pix (X := [(d0, .inr (0, [.ref tx, .ref tr, .ref im, .ref m0, .ref rd])), (rd, .inr (7, [.ref im, .ref pr, .ref ra, .int rc, .int vw, .int wr])), (ra, .inl (cF, 99, .inr (.inr (.inr (.inr (rowF fa md))))))]) hj3) rfl 5 (by decide) (va_Nw.use rfl (hN _ k1236)) (fun _ h9 => h9) rfl d_DiscMaker_read_27 ?_
      refine lv_icmp_lt (tgt := 41) hx hb d_DiscMaker_read_30 (by decide) (fun h_9 => ?_) (fun h_9 => ?_)
      · skip
        have g30_17 : y.toInt < (ga x.toNatClampNeg 3).toInt := (i_lt rfl rfl).mp h_9
        refine lv_aload_n hx hb d_DiscMaker_read_41 rfl (lv_at hl 1 rfl) ?_
        have hPR := RO_at hZr hS
        refine va_get (D := D) (ci := 0) (v := .ref im) (C := "DiscMaker") (T := F_DiscMaker) (N := 5) hx hb ht9 in_DiscMaker hown hK hPR 0 rfl rfl 2 (by decide) (ht9 _ k433) (fun _ h9 => h9) rfl d_DiscMaker_read_42 ?_
        refine lv_aload_n hx hb d_DiscMaker_read_45 rfl (lv_at hl 0 rfl) ?_
        have hPR := RO_at hZr hS
        refine va_getN (D := D) (ci := 2) (v := .int (ga x.toNatClampNeg 4)) (C := "DiscMaker$Found") (T := F_Found) (N := 13) hx hb ht9 in_Found hown hK hPR _ (pix (X := [(d0, .inr (0, [.ref tx, .ref tr, .ref im, .ref m0, .ref rd])), (rd, .inr (7, [.ref im, .ref pr, .ref ra, .int rc, .int vw, .int wr])), (ra, .inl (cF, 99, .inr (.inr (.inr (.inr (rowF fa md))))))]) hj3) rfl 6 (by decide) (va_Nw.use rfl (hN _ k1239)) (fun _ h9 => h9) rfl d_DiscMaker_read_46 ?_
        refine lv_sipush (v := 2048) hx hb d_DiscMaker_read_49 (by decide) ?_
        refine lv_imul hx hb d_DiscMaker_read_52 ?_
        refine lv_topi (fun v6 e_v6 => ?_)
        refine lv_iload_n hx hb d_DiscMaker_read_53 rfl (lv_at hl 3 rfl) ?_
        refine lv_iadd hx hb d_DiscMaker_read_54 ?_
        refine lv_topi (fun v7 e_v7 => ?_)
        have hPc := hP.sub (ws' := [(im, .inr (1, [.ref iq, .int L])), (iq, .inl (cB, n, .inl f))]) [0, 1] rfl
        have hDc := hD.sub (ws' := [(im, .inr (1, [.ref iq, .int L])), (iq, .inl (cB, n, .inl f))]) [0, 1] (by decide +kernel) rfl
        have hFc := va_free (wc := [(im, .inr (1, [.ref iq, .int L])), (iq, .inl (cB, n, .inl f))]) hD hS hA [0, 1] rfl
        have hkc : 0 ≤ 0 := by decide
        have hks : 0 ≤ 0 := by decide
        refine va_calli (va_runV (C := "DiscMaker$Bytes") (As := [.int v7]) (rest := []) ⟨hx, hb, hml, hown, hts⟩ (c3_at l D cB cI cJ cZ cN cF H.size im iq n L f v7 (by (try dsimp only); first | assumption | omega | trivial) (by (try dsimp only); first | assumption | omega | trivial)) (cwV 1 hts (lg_goodV k1135 k1065 k1066 k119 kc_Bytes_at) rfl rfl rfl (by decide +kernel) ⟨Nat.le_of_ble_eq_true rfl, Nat.le_of_ble_eq_true rfl⟩) ⟨fun a U g mk q => by obtain ⟨q0, q1, qP, qK, qN, qD⟩ := q; exact ⟨q0, q1, qP, va_K.moved (u := U) (U := U.calling g mk a) (Vm.Alike.refl U.vm) qK, qN.calling, qD⟩, va_recv hK hP (ci := 1) (q0 := 0) rfl rfl, fun U hU hW => ⟨rfl, by rw [hU], by rw [hU]; exact hPc, va_K.moved hW.alike hK, NN.warm hW hN, hDc.weaken (fun _ _ _ _ => trivial)⟩⟩ rfl rfl hl.1 rfl (lv_room (Nat.le_of_ble_eq_true rfl)) d_DiscMaker_read_55 ⟨hkc, hks⟩) hS (fun q _ h => hFc q h) hFc (fun r8 u t H1 locs ht hvm hp_r8 hB hz1 hk1 hS => ?_)
        obtain ⟨hP1, hD1⟩ := hB
        rw [ht] at hP1
        obtain ⟨hP, hD⟩ := va_join (wr := []) (w1 := [(im, .inr (1, [.ref iq, .int L])), (iq, .inl (cB, n, .inl f))]) hP hD [0, 1] [] rfl rfl (by decide +kernel) (by decide +kernel) hk1 hFc hP1 hD1
        clear hPc hDc hFc hP1 hD1 hk1 hz1 hkc hks
        generalize H1 = H at hP hS ⊢
        have hP : va_P D CL [(im, .inr (1, [.ref iq, .int L])), (iq, .inl (cB, n, .inl f))] H := hP
        have hD : va_D A [(im, .inr (1, [.ref iq, .int L])), (iq, .inl (cB, n, .inl f))] := hD
        try dsimp only at hp_r8
        obtain ⟨hr_9, hv_10⟩ := hp_r8
        have hP9 := hP.sub (ws' := [(im, .inr (1, [.ref iq, .int L])), (iq, .inl (cB, n, .inl f))]) [0, 1] rfl
        have hD9 := hD.sub (ws' := [(im, .inr (1, [.ref iq, .int L])), (iq, .inl (cB, n, .inl f))]) [0, 1] (by decide +kernel) rfl
        exact W.iret (v := r8) hx hb hr (fun t ht hW => ⟨⟨r8, (), rfl, trivial, by rw [ht]; exact hP9, hD9⟩, hS.F ht⟩) hS.2.2 d_DiscMaker_read_58
      · skip
        have g30_17 : ¬ y.toInt < (ga x.toNatClampNeg 3).toInt := fun h8 => h_9 ((i_lt rfl rfl).mpr h8)
        exfalso
        omega

theorem d_DiscMaker_read_33 : decode b_DiscMaker_read 33 = .ok (.new 143, 3) := by decide +kernel
theorem d_DiscMaker_read_36 : decode b_DiscMaker_read 36 = .ok (.dup, 1) := by decide +kernel
theorem d_DiscMaker_read_37 : decode b_DiscMaker_read 37 = .ok (.invokespecial 145, 3) := by decide +kernel
theorem d_DiscMaker_read_40 : decode b_DiscMaker_read 40 = .ok (.athrow, 1) := by decide +kernel
set_option maxHeartbeats 4000000 in
set_option maxRecDepth 100000 in
theorem c3_t_read (l : Launch) (htl : l.stackTraces = false) (D : va_G) (cB cI cJ cZ cN cF : ClassId) (sz : Nat) (d0 : Nat) (tx : Nat) (tr : Nat) (im : Nat) (m0 : Nat) (rd : Nat) (pr : Nat) (ra : Nat) (rc : Int32) (vw : Int32) (wr : Int32) (fa : Nat → Nat → Nat) (ga : Nat → Nat → Int32) (cf : Nat → Nat → Nat → Int32) (md : Nat) (x : Int32) (y : Int32) (hrc : 0 ≤ rc.toInt ∧ rc.toInt ≤ md) (hmd : md ≤ 99) (hxk : ¬ ((0 ≤ x.toInt ∧ x.toInt < rc.toInt) ∧ (ga x.toNatClampNeg 2).toInt = 1 ∧ 0 ≤ y.toInt ∧ y.toInt < (ga x.toNatClampNeg 3).toInt)) : MetT l y_DiscMaker_read w_DiscMaker_read ({ frames := 6, cells := 1, slots := 6, locals := 100 }) (va_Pc [.ref d0, .int x, .int y] (fun U => U.heap.size = sz ∧ va_P D CL [] U.heap ∧ va_K D CL (TY cB cI cJ cZ cN cF) U ∧ NN U ∧ va_D (fun _ => True) [] ∧ TX (va_A [] sz) U U.heap ∧ RO D (([(d0, .inr (0, [.ref tx, .ref tr, .ref im, .ref m0, .ref rd])), (rd, .inr (7, [.ref im, .ref pr, .ref ra, .int rc, .int vw, .int wr])), (ra, .inl (cF, 99, .inr (.inr (.inr (.inr (rowF fa md))))))] : va_W) ++ (PL (FC cB fa ga cf) md)) (va_A [] sz) U U.heap)) "java/util/NoSuchElementException" (va_A [] sz) 1 6 (va_A [] sz) := by
  refine MetT.ofW (cc := b_DiscMaker_read) (maxL := 4) (ret := some .int) (by decide +kernel) rfl ?_
  intro p e s m args below meth c s₁ B hml hv
  obtain ⟨rfl, hsz, hP, hK, hN, hD0, hZx, hZr⟩ := hv
  have hx := B.exec
  have hb := B.bytes
  have hr := B.returns
  have hts := atoms_spec (ws := w_DiscMaker_read) B.pre
  have ht9 := fun (w : Cond) (h : w ∈ lw_g) => hts w (List.mem_cons_of_mem _ h)
  have hown : s.vm.findClass "DiscMaker" = some m.cls := findClass_of_methodNamed B.named
  have hlocks := B.notSynchronized
  subst hsz
  have hD := hD0.self (sz := s.heap.size)
  generalize hAe : va_A [] s.heap.size = A at hD hZx hZr ⊢
  have hA : ∀ q : Nat, s.heap.size ≤ q → A q := fun q h => by rw [← hAe]; exact Or.inr h
  have hS : va_S A s.heap s.heap [] := va_S.rf
  have hP : va_P D CL [] s.heap := hP
  have hP0 := hP
  have hemp := B.noHandlers (hts _ List.mem_cons_self)
  have hl := lv_entry [.ref d0, .int x, .int y] (n := 4) (Nat.le_of_ble_eq_true rfl)
  rw [lg_entry_eq]
  generalize (lg_sl [.ref d0, .int x, .int y] ++ List.replicate (4 - (lg_sl [.ref d0, .int x, .int y]).length) Slot.unset).toArray = ls at hl ⊢
  have hl : lv_has ls 4 [(0, .ref d0), (1, .int x), (2, .int y)] := hl
  have L_m1 : ((-1) : Int32).toInt = (-1) := by decide
  have L_0 : (0 : Int32).toInt = 0 := by decide
  have L_1 : (1 : Int32).toInt = 1 := by decide
  have L_2048 : (2048 : Int32).toInt = 2048 := by decide
  refine lv_aload_n hx hb d_DiscMaker_read_0 rfl (lv_at hl 0 rfl) ?_
  have hPR := RO_at hZr hS
  refine va_get (D := D) (ci := 0) (v := .ref rd) (C := "DiscMaker") (T := F_DiscMaker) (N := 5) hx hb ht9 in_DiscMaker hown hK hPR 0 rfl rfl 4 (by decide) (ht9 _ k435) (fun _ h9 => h9) rfl d_DiscMaker_read_1 ?_
  refine lv_iload_n hx hb d_DiscMaker_read_4 rfl (lv_at hl 1 rfl) ?_
  have hPc := hP.sub (ws' := []) [] rfl
  have hDc := hD.sub (ws' := []) [] (by decide +kernel) rfl
  have hFc := va_free (wc := []) hD hS hA [] rfl
  have hPR := RO_at hZr hS
  have hkc : 0 ≤ 1 := by decide
  have hks : 0 ≤ 6 := by decide
  refine va_callq (va_runV (C := "DiscMaker$Reader") (As := [.int x]) (rest := []) ⟨hx, hb, hml, hown, hts⟩ (c3_find l D cB cI cJ cZ cN cF s.heap.size rd pr ra im rc vw wr fa md x (by (try dsimp only); first | assumption | omega | trivial) (by (try dsimp only); first | assumption | omega | trivial)) (cwV 1 hts (lg_goodV k1379 k1380 k1381 k123 kc_Reader_find) rfl rfl rfl (by decide +kernel) ⟨Nat.le_of_ble_eq_true rfl, Nat.le_of_ble_eq_true rfl⟩) ⟨fun a U g mk q => by obtain ⟨q0, q1, qP, qK, qN, qD, qZ0⟩ := q; exact ⟨q0, q1, qP, va_K.moved (u := U) (U := U.calling g mk a) (Vm.Alike.refl U.vm) qK, qN.calling, qD, RO_blind qZ0⟩, va_recv hK hPR (ci := 7) (q0 := 1) rfl rfl, fun U hU hW => ⟨rfl, by rw [hU], by rw [hU]; exact hPc, va_K.moved hW.alike hK, NN.warm hW hN, hDc.weaken (fun _ _ _ _ => trivial), (RO_app (w1 := [(rd, .inr (7, [.ref im, .ref pr, .ref ra, .int rc, .int vw, .int wr]))]) (w2 := [(ra, .inl (cF, 99, .inr (.inr (.inr (.inr (rowF fa md))))))]) (RO_pass (RO_one hZr 1 rfl) hS hFc hU) (RO_pass (RO_one hZr 2 rfl) hS hFc hU))⟩⟩ rfl rfl hl.1 rfl (lv_room (Nat.le_of_ble_eq_true rfl)) d_DiscMaker_read_5 ⟨hkc, hks⟩) hS (fun q _ h => hFc q h) hFc (fun r1 u t H1 locs ht hvm hp_r1 hB hz1 hk1 hS => ?_)
  obtain ⟨hP1, hD1⟩ := hB
  rw [ht] at hP1
  obtain ⟨hP, hD⟩ := va_join (wr := []) (w1 := []) hP hD [] [] rfl rfl (by decide +kernel) (by decide +kernel) hk1 hFc hP1 hD1
  clear hPc hDc hFc hP1 hD1 hk1 hz1 hkc hks
  generalize H1 = H at hP hS ⊢
  have hP : va_P D CL [] H := hP
  have hD : va_D A [] := hD
  try dsimp only at hp_r1
  have hv_2 := hp_r1
  rcases hv_2 with ⟨hr9, hr8⟩ | ⟨hr9, hr8, hr7⟩
  · skip
    refine W.eq (g2 := F0 m 8 ls [.null]) (by rw [hr9]; rfl) ?_
    refine lv_astore_nN hx hb d_DiscMaker_read_8 rfl hl (by decide) rfl (fun ls hl => ?_)
    have hl : lv_has ls 4 [(3, .null), (0, .ref d0), (1, .int x), (2, .int y)] := hl
    refine lv_aload_nN hx hb d_DiscMaker_read_9 rfl (lv_at hl 0 rfl) ?_
    refine lv_ifnullN (tgt := 33) hx hb d_DiscMaker_read_10 (by decide) ?_
    exact zz_throw0 htl hx hb hml hlocks hemp (own := "DiscMaker") (cls := "java/util/NoSuchElementException") (ia := 143) (ic := 145) hown (by decide +kernel) (at_of atN_ok ht9 hZx) (zt_locs hK hP0 (fun k q hq => by simp at hq) hAe hS) (ht9 _ k1383) (ht9 _ k142) hS (fun q h => h) hl.1 d_DiscMaker_read_33 d_DiscMaker_read_36 d_DiscMaker_read_37 d_DiscMaker_read_40 (by decide) (by decide) (by decide) (by decide)
  · skip
    refine W.eq (g2 := F0 m 8 ls [.ref (fa x.toNatClampNeg 0)]) (by rw [hr9]; rfl) ?_
    have hk9 : x.toNatClampNeg < md := by have := i_cl (a := x) (by omega); omega
    obtain ⟨i_hj3, hj3⟩ : ∃ j : Nat, (PL (FC cB fa ga cf) md)[j]? = some ((fa x.toNatClampNeg 0), .inr (2, [.ref (fa x.toNatClampNeg 1), .ref (fa x.toNatClampNeg 2), .int (ga x.toNatClampNeg 0), .int (ga x.toNatClampNeg 1), .int (ga x.toNatClampNeg 2), .int (ga x.toNatClampNeg 3), .int (ga x.toNatClampNeg 4), .int (ga x.toNatClampNeg 5), .int (ga x.toNatClampNeg 6), .int (ga x.toNatClampNeg 7), .int (ga x.toNatClampNeg 8), .int (ga x.toNatClampNeg 9), .int (ga x.toNatClampNeg 10)])) := PL_get (i := 0) hk9 rfl
    obtain ⟨i_hj4, hj4⟩ : ∃ j : Nat, (PL (FC cB fa ga cf) md)[j]? = some ((fa x.toNatClampNeg 1), .inl (cB, 60, .inl (cf x.toNatClampNeg 1))) := PL_get (i := 1) hk9 rfl
    obtain ⟨i_hj5, hj5⟩ : ∃ j : Nat, (PL (FC cB fa ga cf) md)[j]? = some ((fa x.toNatClampNeg 2), .inl (cB, 400, .inl (cf x.toNatClampNeg 2))) := PL_get (i := 2) hk9 rfl
    refine lv_astore_n hx hb d_DiscMaker_read_8 rfl hl (by decide) rfl (fun ls hl => ?_)
    have hl : lv_has ls 4 [(3, .ref (fa x.toNatClampNeg 0)), (0, .ref d0), (1, .int x), (2, .int y)] := hl
    refine lv_aload_n hx hb d_DiscMaker_read_9 rfl (lv_at hl 0 rfl) ?_
    refine lv_ifnull hx hb d_DiscMaker_read_10 ?_
    refine lv_aload_n hx hb d_DiscMaker_read_13 rfl (lv_at hl 0 rfl) ?_
    have hPR := RO_at hZr hS
    refine va_getN (D := D) (ci := 2) (v := .int (ga x.toNatClampNeg 2)) (C := "DiscMaker$Found") (T := F_Found) (N := 13) hx hb ht9 in_Found hown hK hPR _ (pix (X := [(d0, .inr (0, [.ref tx, .ref tr, .ref im, .ref m0, .ref rd])), (rd, .inr (7, [.ref im, .ref pr, .ref ra, .int rc, .int vw, .int wr])), (ra, .inl (cF, 99, .inr (.inr (.inr (.inr (rowF fa md))))))]) hj3) rfl 4 (by decide) (va_Nw.use rfl (hN _ k1233)) (fun _ h9 => h9) rfl d_DiscMaker_read_14 ?_
    refine lv_iconst (v := 1) hx hb d_DiscMaker_read_17 (by decide) ?_
    refine lv_icmp_ne (tgt := 33) hx hb d_DiscMaker_read_18 (by decide) (fun h_9 => ?_) (fun h_9 => ?_)
    · skip
      have g18_15 : ¬ (ga x.toNatClampNeg 2).toInt = 1 := fun h8 => h_9 ((i_eq rfl (by decide)).mpr h8)
      exact zz_throw0 htl hx hb hml hlocks hemp (own := "DiscMaker") (cls := "java/util/NoSuchElementException") (ia := 143) (ic := 145) hown (by decide +kernel) (at_of atN_ok ht9 hZx) (zt_locs hK hP0 (fun k q hq => by simp at hq) hAe hS) (ht9 _ k1383) (ht9 _ k142) hS (fun q h => h) hl.1 d_DiscMaker_read_33 d_DiscMaker_read_36 d_DiscMaker_read_37 d_DiscMaker_read_40 (by decide) (by decide) (by decide) (by decide)
    · skip
      have g18_15 : (ga x.toNatClampNeg 2).toInt = 1 := (i_eq rfl (by decide)).mp h_9
      refine lv_iload_n hx hb d_DiscMaker_read_21 rfl (lv_at hl 3 rfl) ?_
      refine lv_if_lt (tgt := 33) hx hb d_DiscMaker_read_22 (by decide) (fun h_9 => ?_) (fun h_9 => ?_)
      · skip
        have g22_18 : y.toInt < 0 := (i_lt rfl (by decide)).mp h_9
        exact zz_throw0 htl hx hb hml hlocks hemp (own := "DiscMaker") (cls := "java/util/NoSuchElementException") (ia := 143) (ic := 145) hown (by decide +kernel) (at_of atN_ok ht9 hZx) (zt_locs hK hP0 (fun k q hq => by simp at hq) hAe hS) (ht9 _ k1383) (ht9 _ k142) hS (fun q h => h) hl.1 d_DiscMaker_read_33 d_DiscMaker_read_36 d_DiscMaker_read_37 d_DiscMaker_read_40 (by decide) (by decide) (by decide) (by decide)
      · skip
        have g22_18 : ¬ y.toInt < 0 := fun h8 => h_9 ((i_lt rfl (by decide)).mpr h8)
        refine lv_iload_n hx hb d_DiscMaker_read_25 rfl (lv_at hl 3 rfl) ?_
        refine lv_aload_n hx hb d_DiscMaker_read_26 rfl (lv_at hl 0 rfl) ?_
        have hPR := RO_at hZr hS
        refine va_getN (D := D) (ci := 2) (v := .int (ga x.toNatClampNeg 3)) (C := "DiscMaker$Found") (T := F_Found) (N := 13) hx hb ht9 in_Found hown hK hPR _ (pix (X := [(d0, .inr (0, [.ref tx, .ref tr, .ref im, .ref m0, .ref rd])), (rd, .inr (7, [.ref im, .ref pr, .ref ra, .int rc, .int vw, .int wr])), (ra, .inl (cF, 99, .inr (.inr (.inr (.inr (rowF fa md))))))]) hj3) rfl 5 (by decide) (va_Nw.use rfl (hN _ k1236)) (fun _ h9 => h9) rfl d_DiscMaker_read_27 ?_
        refine lv_icmp_lt (tgt := 41) hx hb d_DiscMaker_read_30 (by decide) (fun h_9 => ?_) (fun h_9 => ?_)
        · skip
          have g30_23 : y.toInt < (ga x.toNatClampNeg 3).toInt := (i_lt rfl rfl).mp h_9
          exfalso
          omega
        · skip
          have g30_23 : ¬ y.toInt < (ga x.toNatClampNeg 3).toInt := fun h8 => h_9 ((i_lt rfl rfl).mpr h8)
          exact zz_throw0 htl hx hb hml hlocks hemp (own := "DiscMaker") (cls := "java/util/NoSuchElementException") (ia := 143) (ic := 145) hown (by decide +kernel) (at_of atN_ok ht9 hZx) (zt_locs hK hP0 (fun k q hq => by simp at hq) hAe hS) (ht9 _ k1383) (ht9 _ k142) hS (fun q h => h) hl.1 d_DiscMaker_read_33 d_DiscMaker_read_36 d_DiscMaker_read_37 d_DiscMaker_read_40 (by decide) (by decide) (by decide) (by decide)
