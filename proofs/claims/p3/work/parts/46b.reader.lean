theorem d_Reader_isOwnRecord_0 : decode b_Reader_isOwnRecord 0 = .ok (.aload_n 0, 1) := by decide +kernel
theorem d_Reader_isOwnRecord_1 : decode b_Reader_isOwnRecord 1 = .ok (.getfield 17, 3) := by decide +kernel
theorem d_Reader_isOwnRecord_4 : decode b_Reader_isOwnRecord 4 = .ok (.iload_n 2, 1) := by decide +kernel
theorem d_Reader_isOwnRecord_5 : decode b_Reader_isOwnRecord 5 = .ok (.bipush 32, 2) := by decide +kernel
theorem d_Reader_isOwnRecord_7 : decode b_Reader_isOwnRecord 7 = .ok (.iadd, 1) := by decide +kernel
theorem d_Reader_isOwnRecord_8 : decode b_Reader_isOwnRecord 8 = .ok (.invokevirtual 68, 3) := by decide +kernel
theorem d_Reader_isOwnRecord_11 : decode b_Reader_isOwnRecord 11 = .ok (.iconst 1, 1) := by decide +kernel
theorem d_Reader_isOwnRecord_12 : decode b_Reader_isOwnRecord 12 = .ok (.if_icmp .ne 26, 3) := by decide +kernel
theorem d_Reader_isOwnRecord_15 : decode b_Reader_isOwnRecord 15 = .ok (.aload_n 0, 1) := by decide +kernel
theorem d_Reader_isOwnRecord_16 : decode b_Reader_isOwnRecord 16 = .ok (.getfield 17, 3) := by decide +kernel
theorem d_Reader_isOwnRecord_19 : decode b_Reader_isOwnRecord 19 = .ok (.iload_n 2, 1) := by decide +kernel
theorem d_Reader_isOwnRecord_20 : decode b_Reader_isOwnRecord 20 = .ok (.bipush 33, 2) := by decide +kernel
theorem d_Reader_isOwnRecord_22 : decode b_Reader_isOwnRecord 22 = .ok (.iadd, 1) := by decide +kernel
theorem d_Reader_isOwnRecord_23 : decode b_Reader_isOwnRecord 23 = .ok (.invokevirtual 68, 3) := by decide +kernel
theorem d_Reader_isOwnRecord_26 : decode b_Reader_isOwnRecord 26 = .ok (.iload_n 3, 1) := by decide +kernel
theorem d_Reader_isOwnRecord_27 : decode b_Reader_isOwnRecord 27 = .ok (.if_icmp .ne 11, 3) := by decide +kernel
theorem d_Reader_isOwnRecord_30 : decode b_Reader_isOwnRecord 30 = .ok (.aload_n 0, 1) := by decide +kernel
theorem d_Reader_isOwnRecord_31 : decode b_Reader_isOwnRecord 31 = .ok (.iload_n 2, 1) := by decide +kernel
theorem d_Reader_isOwnRecord_32 : decode b_Reader_isOwnRecord 32 = .ok (.invokevirtual 89, 3) := by decide +kernel
theorem d_Reader_isOwnRecord_35 : decode b_Reader_isOwnRecord 35 = .ok (.ifCond .ne 5, 3) := by decide +kernel
theorem d_Reader_isOwnRecord_38 : decode b_Reader_isOwnRecord 38 = .ok (.iconst 0, 1) := by decide +kernel
theorem d_Reader_isOwnRecord_39 : decode b_Reader_isOwnRecord 39 = .ok (.ireturn, 1) := by decide +kernel
theorem d_Reader_isOwnRecord_40 : decode b_Reader_isOwnRecord 40 = .ok (.iload_n 3, 1) := by decide +kernel
theorem d_Reader_isOwnRecord_41 : decode b_Reader_isOwnRecord 41 = .ok (.iconst 1, 1) := by decide +kernel
theorem d_Reader_isOwnRecord_42 : decode b_Reader_isOwnRecord 42 = .ok (.if_icmp .eq 20, 3) := by decide +kernel
theorem d_Reader_isOwnRecord_45 : decode b_Reader_isOwnRecord 45 = .ok (.aload_n 0, 1) := by decide +kernel
theorem d_Reader_isOwnRecord_46 : decode b_Reader_isOwnRecord 46 = .ok (.iload_n 2, 1) := by decide +kernel
theorem d_Reader_isOwnRecord_47 : decode b_Reader_isOwnRecord 47 = .ok (.invokevirtual 119, 3) := by decide +kernel
theorem d_Reader_isOwnRecord_50 : decode b_Reader_isOwnRecord 50 = .ok (.aload_n 0, 1) := by decide +kernel
theorem d_Reader_isOwnRecord_51 : decode b_Reader_isOwnRecord 51 = .ok (.getfield 11, 3) := by decide +kernel
theorem d_Reader_isOwnRecord_54 : decode b_Reader_isOwnRecord 54 = .ok (.iload_n 1, 1) := by decide +kernel
theorem d_Reader_isOwnRecord_55 : decode b_Reader_isOwnRecord 55 = .ok (.aaload, 1) := by decide +kernel
theorem d_Reader_isOwnRecord_56 : decode b_Reader_isOwnRecord 56 = .ok (.getfield 96, 3) := by decide +kernel
theorem d_Reader_isOwnRecord_59 : decode b_Reader_isOwnRecord 59 = .ok (.if_icmp .ne 7, 3) := by decide +kernel
theorem d_Reader_isOwnRecord_62 : decode b_Reader_isOwnRecord 62 = .ok (.iconst 1, 1) := by decide +kernel
theorem d_Reader_isOwnRecord_63 : decode b_Reader_isOwnRecord 63 = .ok (.goto 4, 3) := by decide +kernel
theorem d_Reader_isOwnRecord_66 : decode b_Reader_isOwnRecord 66 = .ok (.iconst 0, 1) := by decide +kernel
theorem d_Reader_isOwnRecord_67 : decode b_Reader_isOwnRecord 67 = .ok (.ireturn, 1) := by decide +kernel
set_option maxHeartbeats 4000000 in
set_option maxRecDepth 100000 in
theorem c3_isOwnRecord (l : Launch) (D : va_G) (cB cI cJ cZ cN cF : ClassId) (sz : Nat) (h0 : Nat) (pr : Nat) (ra : Nat) (im : Nat) (iq : Nat) (n : Nat) (L : Int32) (f : Nat → Int32) (cn : Int32) (vw : Int32) (wr : Int32) (fa : Nat → Nat → Nat) (ga : Nat → Nat → Int32) (cf : Nat → Nat → Nat → Int32) (md : Nat) (x : Int32) (y : Int32) (z : Int32) (hL : 0 ≤ L.toInt ∧ L.toInt ≤ n) (hn : n ≤ 3000000) (hcn : 0 ≤ cn.toInt ∧ cn.toInt ≤ md) (hmd : md ≤ 99) (hx : 0 ≤ x.toInt ∧ x.toInt < cn.toInt) (hy : 0 ≤ y.toInt ∧ y.toInt ≤ 1000000000) : Met l y_Reader_isOwnRecord w_Reader_isOwnRecord ({ frames := 2, cells := 0, slots := 0, locals := 57 }) (va_Pc [.ref h0, .int x, .int y, .int z] (fun U => U.heap.size = sz ∧ va_P D CL (([(h0, .inr (7, [.ref im, .ref pr, .ref ra, .int cn, .int vw, .int wr])), (ra, .inl (cF, 99, .inr (.inr (.inr (.inr (rowF fa md)))))), (im, .inr (1, [.ref iq, .int L])), (iq, .inl (cB, n, .inl f))] : va_W) ++ (PL (FC cB fa ga cf) md)) U.heap ∧ va_K D CL (TY cB cI cJ cZ cN cF) U ∧ NN U ∧ va_D (fun _ => True) (([(h0, .inr (7, [.ref im, .ref pr, .ref ra, .int cn, .int vw, .int wr])), (ra, .inl (cF, 99, .inr (.inr (.inr (.inr (rowF fa md)))))), (im, .inr (1, [.ref iq, .int L])), (iq, .inl (cB, n, .inl f))] : va_W) ++ (PL (FC cB fa ga cf) md)))) (va_Qi (fun (r : Int32) (u : Unit) => (0 ≤ r.toInt ∧ r.toInt ≤ 1)) (fun (u : Unit) (t : State) => match u with | () => va_P D CL (([(h0, .inr (7, [.ref im, .ref pr, .ref ra, .int cn, .int vw, .int wr])), (ra, .inl (cF, 99, .inr (.inr (.inr (.inr (rowF fa md)))))), (im, .inr (1, [.ref iq, .int L])), (iq, .inl (cB, n, .inl f))] : va_W) ++ (PL (FC cB fa ga cf) md)) t.heap ∧ va_D (va_A (([(h0, .inr (7, [.ref im, .ref pr, .ref ra, .int cn, .int vw, .int wr])), (ra, .inl (cF, 99, .inr (.inr (.inr (.inr (rowF fa md)))))), (im, .inr (1, [.ref iq, .int L])), (iq, .inl (cB, n, .inl f))] : va_W) ++ (PL (FC cB fa ga cf) md)) sz) (([(h0, .inr (7, [.ref im, .ref pr, .ref ra, .int cn, .int vw, .int wr])), (ra, .inl (cF, 99, .inr (.inr (.inr (.inr (rowF fa md)))))), (im, .inr (1, [.ref iq, .int L])), (iq, .inl (cB, n, .inl f))] : va_W) ++ (PL (FC cB fa ga cf) md))) (va_A (([(h0, .inr (7, [.ref im, .ref pr, .ref ra, .int cn, .int vw, .int wr])), (ra, .inl (cF, 99, .inr (.inr (.inr (.inr (rowF fa md)))))), (im, .inr (1, [.ref iq, .int L])), (iq, .inl (cB, n, .inl f))] : va_W) ++ (PL (FC cB fa ga cf) md)) sz)) 0 0 (va_A (([(h0, .inr (7, [.ref im, .ref pr, .ref ra, .int cn, .int vw, .int wr])), (ra, .inl (cF, 99, .inr (.inr (.inr (.inr (rowF fa md)))))), (im, .inr (1, [.ref iq, .int L])), (iq, .inl (cB, n, .inl f))] : va_W) ++ (PL (FC cB fa ga cf) md)) sz) := by
  refine Met.ofW (cc := b_Reader_isOwnRecord) (maxL := 4) (ret := some .boolean) (by decide +kernel) rfl ?_
  intro p e s m args below meth c s₁ B hml hv
  obtain ⟨rfl, hsz, hP, hK, hN, hD0⟩ := hv
  have hx := B.exec
  have hb := B.bytes
  have hr := B.returns
  have hts := atoms_spec (ws := w_Reader_isOwnRecord) B.pre
  have ht9 := fun (w : Cond) (h : w ∈ lw_g) => hts w (List.mem_cons_of_mem _ h)
  have hown : s.vm.findClass "DiscMaker$Reader" = some m.cls := findClass_of_methodNamed B.named
  have hlocks := B.notSynchronized
  subst hsz
  have hD := hD0.self (sz := s.heap.size)
  generalize hAe : va_A (([(h0, .inr (7, [.ref im, .ref pr, .ref ra, .int cn, .int vw, .int wr])), (ra, .inl (cF, 99, .inr (.inr (.inr (.inr (rowF fa md)))))), (im, .inr (1, [.ref iq, .int L])), (iq, .inl (cB, n, .inl f))] : va_W) ++ (PL (FC cB fa ga cf) md)) s.heap.size = A at hD ⊢
  have hA : ∀ q : Nat, s.heap.size ≤ q → A q := fun q h => by rw [← hAe]; exact Or.inr h
  have hS : va_S A s.heap s.heap [] := va_S.rf
  have hP : va_P D CL (([(h0, .inr (7, [.ref im, .ref pr, .ref ra, .int cn, .int vw, .int wr])), (ra, .inl (cF, 99, .inr (.inr (.inr (.inr (rowF fa md)))))), (im, .inr (1, [.ref iq, .int L])), (iq, .inl (cB, n, .inl f))] : va_W) ++ (PL (FC cB fa ga cf) md)) s.heap := hP
  have hl := lv_entry [.ref h0, .int x, .int y, .int z] (n := 4) (Nat.le_of_ble_eq_true rfl)
  rw [lg_entry_eq]
  generalize (lg_sl [.ref h0, .int x, .int y, .int z] ++ List.replicate (4 - (lg_sl [.ref h0, .int x, .int y, .int z]).length) Slot.unset).toArray = ls at hl ⊢
  have hl : lv_has ls 4 [(0, .ref h0), (1, .int x), (2, .int y), (3, .int z)] := hl
  have L_m1 : ((-1) : Int32).toInt = (-1) := by decide
  have L_0 : (0 : Int32).toInt = 0 := by decide
  have L_1 : (1 : Int32).toInt = 1 := by decide
  have L_32 : (32 : Int32).toInt = 32 := by decide
  have L_33 : (33 : Int32).toInt = 33 := by decide
  refine lv_aload_n hx hb d_Reader_isOwnRecord_0 rfl (lv_at hl 0 rfl) ?_
  refine va_get (D := D) (ci := 7) (v := .ref im) (C := "DiscMaker$Reader") (T := F_Reader) (N := 6) hx hb ht9 in_Reader hown hK hP 0 rfl rfl 0 (by decide) (ht9 _ k412) (fun _ h9 => h9) rfl d_Reader_isOwnRecord_1 ?_
  refine lv_iload_n hx hb d_Reader_isOwnRecord_4 rfl (lv_at hl 2 rfl) ?_
  refine lv_bipush (v := 32) hx hb d_Reader_isOwnRecord_5 (by decide) ?_
  refine lv_iadd hx hb d_Reader_isOwnRecord_7 ?_
  refine lv_topi (fun v1 e_v1 => ?_)
  have t_v1 : v1.toInt = y.toInt + 32 := by rw [e_v1]; exact i_add rfl (by decide) (by omega) (by omega)
  have hPc := hP.sub (ws' := [(im, .inr (1, [.ref iq, .int L])), (iq, .inl (cB, n, .inl f))]) [2, 3] rfl
  have hDc := hD.sub (ws' := [(im, .inr (1, [.ref iq, .int L])), (iq, .inl (cB, n, .inl f))]) [2, 3] (by decide +kernel) rfl
  have hFc := va_free (wc := [(im, .inr (1, [.ref iq, .int L])), (iq, .inl (cB, n, .inl f))]) hD hS hA [2, 3] rfl
  have hkc : 0 ≤ 0 := by decide
  have hks : 0 ≤ 0 := by decide
  refine va_calli (va_runV (C := "DiscMaker$Bytes") (As := [.int v1]) (rest := []) ⟨hx, hb, hml, hown, hts⟩ (c3_at l D cB cI cJ cZ cN cF s.heap.size im iq n L f v1 (by (try dsimp only); first | assumption | omega | trivial) (by (try dsimp only); first | assumption | omega | trivial)) (cwV 1 hts (lg_goodV k1179 k1065 k1066 k119 kc_Bytes_at) rfl rfl rfl (by decide +kernel) ⟨Nat.le_of_ble_eq_true rfl, Nat.le_of_ble_eq_true rfl⟩) ⟨fun a U g mk q => by obtain ⟨q0, q1, qP, qK, qN, qD⟩ := q; exact ⟨q0, q1, qP, va_K.moved (u := U) (U := U.calling g mk a) (Vm.Alike.refl U.vm) qK, qN.calling, qD⟩, va_recv hK hP (ci := 1) (q0 := 2) rfl rfl, fun U hU hW => ⟨rfl, by rw [hU], by rw [hU]; exact hPc, va_K.moved hW.alike hK, NN.warm hW hN, hDc.weaken (fun _ _ _ _ => trivial)⟩⟩ rfl rfl hl.1 rfl (lv_room (Nat.le_of_ble_eq_true rfl)) d_Reader_isOwnRecord_8 ⟨hkc, hks⟩) hS (fun q _ h => hFc q h) hFc (fun r2 u t H1 locs ht hvm hp_r2 hB hz1 hk1 hS => ?_)
  obtain ⟨hP1, hD1⟩ := hB
  rw [ht] at hP1
  obtain ⟨hP, hD⟩ := va_joinQ (X := [(h0, .inr (7, [.ref im, .ref pr, .ref ra, .int cn, .int vw, .int wr])), (ra, .inl (cF, 99, .inr (.inr (.inr (.inr (rowF fa md)))))), (im, .inr (1, [.ref iq, .int L])), (iq, .inl (cB, n, .inl f))]) (cx := [(im, .inr (1, [.ref iq, .int L])), (iq, .inl (cB, n, .inl f))]) (wr := [(h0, .inr (7, [.ref im, .ref pr, .ref ra, .int cn, .int vw, .int wr])), (ra, .inl (cF, 99, .inr (.inr (.inr (.inr (rowF fa md))))))]) (w1 := [(im, .inr (1, [.ref iq, .int L])), (iq, .inl (cB, n, .inl f))]) hP hD [2, 3] [0, 1] rfl rfl (by decide +kernel) (by decide +kernel) hk1 hFc hP1 hD1
  clear hPc hDc hFc hP1 hD1 hk1 hz1 hkc hks
  generalize H1 = H at hP hS ⊢
  have hP : va_P D CL (([(h0, .inr (7, [.ref im, .ref pr, .ref ra, .int cn, .int vw, .int wr])), (ra, .inl (cF, 99, .inr (.inr (.inr (.inr (rowF fa md)))))), (im, .inr (1, [.ref iq, .int L])), (iq, .inl (cB, n, .inl f))] : va_W) ++ (PL (FC cB fa ga cf) md)) H := hP
  have hD : va_D A (([(h0, .inr (7, [.ref im, .ref pr, .ref ra, .int cn, .int vw, .int wr])), (ra, .inl (cF, 99, .inr (.inr (.inr (.inr (rowF fa md)))))), (im, .inr (1, [.ref iq, .int L])), (iq, .inl (cB, n, .inl f))] : va_W) ++ (PL (FC cB fa ga cf) md)) := hD
  try dsimp only at hp_r2
  obtain ⟨hr_3, hv_4⟩ := hp_r2
  refine lv_iconst (v := 1) hx hb d_Reader_isOwnRecord_11 (by decide) ?_
  refine lv_icmp_ne (tgt := 38) hx hb d_Reader_isOwnRecord_12 (by decide) (fun h_9 => ?_) (fun h_9 => ?_)
  · skip
    have g12_8 : ¬ r2.toInt = 1 := fun h8 => h_9 ((i_eq rfl (by decide)).mpr h8)
    refine lv_iconst (v := 0) hx hb d_Reader_isOwnRecord_38 (by decide) ?_
    have hP9 := hP.part (X := [(h0, .inr (7, [.ref im, .ref pr, .ref ra, .int cn, .int vw, .int wr])), (ra, .inl (cF, 99, .inr (.inr (.inr (.inr (rowF fa md)))))), (im, .inr (1, [.ref iq, .int L])), (iq, .inl (cB, n, .inl f))]) (cx := [(h0, .inr (7, [.ref im, .ref pr, .ref ra, .int cn, .int vw, .int wr])), (ra, .inl (cF, 99, .inr (.inr (.inr (.inr (rowF fa md)))))), (im, .inr (1, [.ref iq, .int L])), (iq, .inl (cB, n, .inl f))]) [0, 1, 2, 3] rfl
    have hD9 := hD.part (X := [(h0, .inr (7, [.ref im, .ref pr, .ref ra, .int cn, .int vw, .int wr])), (ra, .inl (cF, 99, .inr (.inr (.inr (.inr (rowF fa md)))))), (im, .inr (1, [.ref iq, .int L])), (iq, .inl (cB, n, .inl f))]) (cx := [(h0, .inr (7, [.ref im, .ref pr, .ref ra, .int cn, .int vw, .int wr])), (ra, .inl (cF, 99, .inr (.inr (.inr (.inr (rowF fa md)))))), (im, .inr (1, [.ref iq, .int L])), (iq, .inl (cB, n, .inl f))]) [0, 1, 2, 3] (by decide +kernel) rfl
    exact W.zret (v := 0) hx hb hr (by first | rfl | decide | exact i_narZ (by omega)) (fun t ht hW => ⟨⟨0, (), rfl, (by (try dsimp only); first | assumption | omega | trivial), by rw [ht]; exact hP9, hD9⟩, hS.F ht⟩) hS.2.2 d_Reader_isOwnRecord_39
  · skip
    have g12_8 : r2.toInt = 1 := (i_eq rfl (by decide)).mp h_9
    refine lv_aload_n hx hb d_Reader_isOwnRecord_15 rfl (lv_at hl 0 rfl) ?_
    refine va_get (D := D) (ci := 7) (v := .ref im) (C := "DiscMaker$Reader") (T := F_Reader) (N := 6) hx hb ht9 in_Reader hown hK hP 0 rfl rfl 0 (by decide) (ht9 _ k412) (fun _ h9 => h9) rfl d_Reader_isOwnRecord_16 ?_
    refine lv_iload_n hx hb d_Reader_isOwnRecord_19 rfl (lv_at hl 2 rfl) ?_
    refine lv_bipush (v := 33) hx hb d_Reader_isOwnRecord_20 (by decide) ?_
    refine lv_iadd hx hb d_Reader_isOwnRecord_22 ?_
    refine lv_topi (fun v5 e_v5 => ?_)
    have t_v5 : v5.toInt = y.toInt + 33 := by rw [e_v5]; exact i_add rfl (by decide) (by omega) (by omega)
    have hPc := hP.sub (ws' := [(im, .inr (1, [.ref iq, .int L])), (iq, .inl (cB, n, .inl f))]) [2, 3] rfl
    have hDc := hD.sub (ws' := [(im, .inr (1, [.ref iq, .int L])), (iq, .inl (cB, n, .inl f))]) [2, 3] (by decide +kernel) rfl
    have hFc := va_free (wc := [(im, .inr (1, [.ref iq, .int L])), (iq, .inl (cB, n, .inl f))]) hD hS hA [2, 3] rfl
    have hkc : 0 ≤ 0 := by decide
    have hks : 0 ≤ 0 := by decide
    refine va_calli (va_runV (C := "DiscMaker$Bytes") (As := [.int v5]) (rest := []) ⟨hx, hb, hml, hown, hts⟩ (c3_at l D cB cI cJ cZ cN cF H.size im iq n L f v5 (by (try dsimp only); first | assumption | omega | trivial) (by (try dsimp only); first | assumption | omega | trivial)) (cwV 1 hts (lg_goodV k1179 k1065 k1066 k119 kc_Bytes_at) rfl rfl rfl (by decide +kernel) ⟨Nat.le_of_ble_eq_true rfl, Nat.le_of_ble_eq_true rfl⟩) ⟨fun a U g mk q => by obtain ⟨q0, q1, qP, qK, qN, qD⟩ := q; exact ⟨q0, q1, qP, va_K.moved (u := U) (U := U.calling g mk a) (Vm.Alike.refl U.vm) qK, qN.calling, qD⟩, va_recv hK hP (ci := 1) (q0 := 2) rfl rfl, fun U hU hW => ⟨rfl, by rw [hU], by rw [hU]; exact hPc, va_K.moved hW.alike hK, NN.warm hW hN, hDc.weaken (fun _ _ _ _ => trivial)⟩⟩ rfl rfl hl.1 rfl (lv_room (Nat.le_of_ble_eq_true rfl)) d_Reader_isOwnRecord_23 ⟨hkc, hks⟩) hS (fun q _ h => hFc q h) hFc (fun r6 u t H1 locs ht hvm hp_r6 hB hz1 hk1 hS => ?_)
    obtain ⟨hP1, hD1⟩ := hB
    rw [ht] at hP1
    obtain ⟨hP, hD⟩ := va_joinQ (X := [(h0, .inr (7, [.ref im, .ref pr, .ref ra, .int cn, .int vw, .int wr])), (ra, .inl (cF, 99, .inr (.inr (.inr (.inr (rowF fa md)))))), (im, .inr (1, [.ref iq, .int L])), (iq, .inl (cB, n, .inl f))]) (cx := [(im, .inr (1, [.ref iq, .int L])), (iq, .inl (cB, n, .inl f))]) (wr := [(h0, .inr (7, [.ref im, .ref pr, .ref ra, .int cn, .int vw, .int wr])), (ra, .inl (cF, 99, .inr (.inr (.inr (.inr (rowF fa md))))))]) (w1 := [(im, .inr (1, [.ref iq, .int L])), (iq, .inl (cB, n, .inl f))]) hP hD [2, 3] [0, 1] rfl rfl (by decide +kernel) (by decide +kernel) hk1 hFc hP1 hD1
    clear hPc hDc hFc hP1 hD1 hk1 hz1 hkc hks
    generalize H1 = H at hP hS ⊢
    have hP : va_P D CL (([(h0, .inr (7, [.ref im, .ref pr, .ref ra, .int cn, .int vw, .int wr])), (ra, .inl (cF, 99, .inr (.inr (.inr (.inr (rowF fa md)))))), (im, .inr (1, [.ref iq, .int L])), (iq, .inl (cB, n, .inl f))] : va_W) ++ (PL (FC cB fa ga cf) md)) H := hP
    have hD : va_D A (([(h0, .inr (7, [.ref im, .ref pr, .ref ra, .int cn, .int vw, .int wr])), (ra, .inl (cF, 99, .inr (.inr (.inr (.inr (rowF fa md)))))), (im, .inr (1, [.ref iq, .int L])), (iq, .inl (cB, n, .inl f))] : va_W) ++ (PL (FC cB fa ga cf) md)) := hD
    try dsimp only at hp_r6
    obtain ⟨hr_7, hv_8⟩ := hp_r6
    refine lv_iload_n hx hb d_Reader_isOwnRecord_26 rfl (lv_at hl 3 rfl) ?_
    refine lv_icmp_ne (tgt := 38) hx hb d_Reader_isOwnRecord_27 (by decide) (fun h_9 => ?_) (fun h_9 => ?_)
    · skip
      have g27_18 : ¬ r6.toInt = z.toInt := fun h8 => h_9 ((i_eq rfl rfl).mpr h8)
      refine lv_iconst (v := 0) hx hb d_Reader_isOwnRecord_38 (by decide) ?_
      have hP9 := hP.part (X := [(h0, .inr (7, [.ref im, .ref pr, .ref ra, .int cn, .int vw, .int wr])), (ra, .inl (cF, 99, .inr (.inr (.inr (.inr (rowF fa md)))))), (im, .inr (1, [.ref iq, .int L])), (iq, .inl (cB, n, .inl f))]) (cx := [(h0, .inr (7, [.ref im, .ref pr, .ref ra, .int cn, .int vw, .int wr])), (ra, .inl (cF, 99, .inr (.inr (.inr (.inr (rowF fa md)))))), (im, .inr (1, [.ref iq, .int L])), (iq, .inl (cB, n, .inl f))]) [0, 1, 2, 3] rfl
      have hD9 := hD.part (X := [(h0, .inr (7, [.ref im, .ref pr, .ref ra, .int cn, .int vw, .int wr])), (ra, .inl (cF, 99, .inr (.inr (.inr (.inr (rowF fa md)))))), (im, .inr (1, [.ref iq, .int L])), (iq, .inl (cB, n, .inl f))]) (cx := [(h0, .inr (7, [.ref im, .ref pr, .ref ra, .int cn, .int vw, .int wr])), (ra, .inl (cF, 99, .inr (.inr (.inr (.inr (rowF fa md)))))), (im, .inr (1, [.ref iq, .int L])), (iq, .inl (cB, n, .inl f))]) [0, 1, 2, 3] (by decide +kernel) rfl
      exact W.zret (v := 0) hx hb hr (by first | rfl | decide | exact i_narZ (by omega)) (fun t ht hW => ⟨⟨0, (), rfl, (by (try dsimp only); first | assumption | omega | trivial), by rw [ht]; exact hP9, hD9⟩, hS.F ht⟩) hS.2.2 d_Reader_isOwnRecord_39
    · skip
      have g27_18 : r6.toInt = z.toInt := (i_eq rfl rfl).mp h_9
      refine lv_aload_n hx hb d_Reader_isOwnRecord_30 rfl (lv_at hl 0 rfl) ?_
      refine lv_iload_n hx hb d_Reader_isOwnRecord_31 rfl (lv_at hl 2 rfl) ?_
      have hPc := hP.sub (ws' := [(h0, .inr (7, [.ref im, .ref pr, .ref ra, .int cn, .int vw, .int wr])), (im, .inr (1, [.ref iq, .int L])), (iq, .inl (cB, n, .inl f))]) [0, 2, 3] rfl
      have hDc := hD.sub (ws' := [(h0, .inr (7, [.ref im, .ref pr, .ref ra, .int cn, .int vw, .int wr])), (im, .inr (1, [.ref iq, .int L])), (iq, .inl (cB, n, .inl f))]) [0, 2, 3] (by decide +kernel) rfl
      have hFc := va_free (wc := [(h0, .inr (7, [.ref im, .ref pr, .ref ra, .int cn, .int vw, .int wr])), (im, .inr (1, [.ref iq, .int L])), (iq, .inl (cB, n, .inl f))]) hD hS hA [0, 2, 3] rfl
      have hkc : 0 ≤ 0 := by decide
      have hks : 0 ≤ 0 := by decide
      refine va_calli (va_runV (C := "DiscMaker$Reader") (As := [.int y]) (rest := []) ⟨hx, hb, hml, hown, hts⟩ (c3_isDirectory l D cB cI cJ cZ cN cF H.size h0 pr ra im iq n L f cn vw wr y (by (try dsimp only); first | assumption | omega | trivial) (by (try dsimp only); first | assumption | omega | trivial) (by (try dsimp only); first | assumption | omega | trivial)) (cwV 1 hts (lg_goodV k1209 k1211 k37 k123 kc_Reader_isDirectory) rfl rfl rfl (by decide +kernel) ⟨Nat.le_of_ble_eq_true rfl, Nat.le_of_ble_eq_true rfl⟩) ⟨fun a U g mk q => by obtain ⟨q0, q1, qP, qK, qN, qD⟩ := q; exact ⟨q0, q1, qP, va_K.moved (u := U) (U := U.calling g mk a) (Vm.Alike.refl U.vm) qK, qN.calling, qD⟩, va_recv hK hP (ci := 7) (q0 := 0) rfl rfl, fun U hU hW => ⟨rfl, by rw [hU], by rw [hU]; exact hPc, va_K.moved hW.alike hK, NN.warm hW hN, hDc.weaken (fun _ _ _ _ => trivial)⟩⟩ rfl rfl hl.1 rfl (lv_room (Nat.le_of_ble_eq_true rfl)) d_Reader_isOwnRecord_32 ⟨hkc, hks⟩) hS (fun q _ h => hFc q h) hFc (fun r9 u t H1 locs ht hvm hp_r9 hB hz1 hk1 hS => ?_)
      obtain ⟨hP1, hD1⟩ := hB
      rw [ht] at hP1
      obtain ⟨hP, hD⟩ := va_joinQ (X := [(h0, .inr (7, [.ref im, .ref pr, .ref ra, .int cn, .int vw, .int wr])), (ra, .inl (cF, 99, .inr (.inr (.inr (.inr (rowF fa md)))))), (im, .inr (1, [.ref iq, .int L])), (iq, .inl (cB, n, .inl f))]) (cx := [(h0, .inr (7, [.ref im, .ref pr, .ref ra, .int cn, .int vw, .int wr])), (im, .inr (1, [.ref iq, .int L])), (iq, .inl (cB, n, .inl f))]) (wr := [(ra, .inl (cF, 99, .inr (.inr (.inr (.inr (rowF fa md))))))]) (w1 := [(h0, .inr (7, [.ref im, .ref pr, .ref ra, .int cn, .int vw, .int wr])), (im, .inr (1, [.ref iq, .int L])), (iq, .inl (cB, n, .inl f))]) hP hD [0, 2, 3] [1] rfl rfl (by decide +kernel) (by decide +kernel) hk1 hFc hP1 hD1
      clear hPc hDc hFc hP1 hD1 hk1 hz1 hkc hks
      generalize H1 = H at hP hS ⊢
      have hP : va_P D CL (([(ra, .inl (cF, 99, .inr (.inr (.inr (.inr (rowF fa md)))))), (h0, .inr (7, [.ref im, .ref pr, .ref ra, .int cn, .int vw, .int wr])), (im, .inr (1, [.ref iq, .int L])), (iq, .inl (cB, n, .inl f))] : va_W) ++ (PL (FC cB fa ga cf) md)) H := hP
      have hD : va_D A (([(ra, .inl (cF, 99, .inr (.inr (.inr (.inr (rowF fa md)))))), (h0, .inr (7, [.ref im, .ref pr, .ref ra, .int cn, .int vw, .int wr])), (im, .inr (1, [.ref iq, .int L])), (iq, .inl (cB, n, .inl f))] : va_W) ++ (PL (FC cB fa ga cf) md)) := hD
      try dsimp only at hp_r9
      obtain ⟨hr_10, hv_11⟩ := hp_r9
      refine lv_if_ne (tgt := 40) hx hb d_Reader_isOwnRecord_35 (by decide) (fun h_9 => ?_) (fun h_9 => ?_)
      · skip
        have g35_24 : ¬ r9.toInt = 0 := fun h8 => h_9 ((i_eq rfl (by decide)).mpr h8)
        refine lv_iload_n hx hb d_Reader_isOwnRecord_40 rfl (lv_at hl 3 rfl) ?_
        refine lv_iconst (v := 1) hx hb d_Reader_isOwnRecord_41 (by decide) ?_
        refine lv_icmp_eq (tgt := 62) hx hb d_Reader_isOwnRecord_42 (by decide) (fun h_9 => ?_) (fun h_9 => ?_)
        · skip
          have g42_27 : z.toInt = 1 := (i_eq rfl (by decide)).mp h_9
          refine lv_iconst (v := 1) hx hb d_Reader_isOwnRecord_62 (by decide) ?_
          refine lv_goto (tgt := 67) hx hb d_Reader_isOwnRecord_63 (by decide) ?_
          have hP9 := hP.part (X := [(ra, .inl (cF, 99, .inr (.inr (.inr (.inr (rowF fa md)))))), (h0, .inr (7, [.ref im, .ref pr, .ref ra, .int cn, .int vw, .int wr])), (im, .inr (1, [.ref iq, .int L])), (iq, .inl (cB, n, .inl f))]) (cx := [(h0, .inr (7, [.ref im, .ref pr, .ref ra, .int cn, .int vw, .int wr])), (ra, .inl (cF, 99, .inr (.inr (.inr (.inr (rowF fa md)))))), (im, .inr (1, [.ref iq, .int L])), (iq, .inl (cB, n, .inl f))]) [1, 0, 2, 3] rfl
          have hD9 := hD.part (X := [(ra, .inl (cF, 99, .inr (.inr (.inr (.inr (rowF fa md)))))), (h0, .inr (7, [.ref im, .ref pr, .ref ra, .int cn, .int vw, .int wr])), (im, .inr (1, [.ref iq, .int L])), (iq, .inl (cB, n, .inl f))]) (cx := [(h0, .inr (7, [.ref im, .ref pr, .ref ra, .int cn, .int vw, .int wr])), (ra, .inl (cF, 99, .inr (.inr (.inr (.inr (rowF fa md)))))), (im, .inr (1, [.ref iq, .int L])), (iq, .inl (cB, n, .inl f))]) [1, 0, 2, 3] (by decide +kernel) rfl
          exact W.zret (v := 1) hx hb hr (by first | rfl | decide | exact i_narZ (by omega)) (fun t ht hW => ⟨⟨1, (), rfl, (by (try dsimp only); first | assumption | omega | trivial), by rw [ht]; exact hP9, hD9⟩, hS.F ht⟩) hS.2.2 d_Reader_isOwnRecord_67
        · skip
          have g42_27 : ¬ z.toInt = 1 := fun h8 => h_9 ((i_eq rfl (by decide)).mpr h8)
          refine lv_aload_n hx hb d_Reader_isOwnRecord_45 rfl (lv_at hl 0 rfl) ?_
          refine lv_iload_n hx hb d_Reader_isOwnRecord_46 rfl (lv_at hl 2 rfl) ?_
          have hPc := hP.sub (ws' := [(h0, .inr (7, [.ref im, .ref pr, .ref ra, .int cn, .int vw, .int wr])), (im, .inr (1, [.ref iq, .int L])), (iq, .inl (cB, n, .inl f))]) [1, 2, 3] rfl
          have hDc := hD.sub (ws' := [(h0, .inr (7, [.ref im, .ref pr, .ref ra, .int cn, .int vw, .int wr])), (im, .inr (1, [.ref iq, .int L])), (iq, .inl (cB, n, .inl f))]) [1, 2, 3] (by decide +kernel) rfl
          have hFc := va_free (wc := [(h0, .inr (7, [.ref im, .ref pr, .ref ra, .int cn, .int vw, .int wr])), (im, .inr (1, [.ref iq, .int L])), (iq, .inl (cB, n, .inl f))]) hD hS hA [1, 2, 3] rfl
          have hkc : 0 ≤ 0 := by decide
          have hks : 0 ≤ 0 := by decide
          refine va_calli (va_runV (C := "DiscMaker$Reader") (As := [.int y]) (rest := []) ⟨hx, hb, hml, hown, hts⟩ (c3_sectorAt l D cB cI cJ cZ cN cF H.size h0 pr ra im iq n L f cn vw wr y (by (try dsimp only); first | assumption | omega | trivial) (by (try dsimp only); first | assumption | omega | trivial) (by (try dsimp only); first | assumption | omega | trivial)) (cwV 1 hts (lg_goodV k1205 k1207 k36 k123 kc_Reader_sectorAt) rfl rfl rfl (by decide +kernel) ⟨Nat.le_of_ble_eq_true rfl, Nat.le_of_ble_eq_true rfl⟩) ⟨fun a U g mk q => by obtain ⟨q0, q1, qP, qK, qN, qD⟩ := q; exact ⟨q0, q1, qP, va_K.moved (u := U) (U := U.calling g mk a) (Vm.Alike.refl U.vm) qK, qN.calling, qD⟩, va_recv hK hP (ci := 7) (q0 := 1) rfl rfl, fun U hU hW => ⟨rfl, by rw [hU], by rw [hU]; exact hPc, va_K.moved hW.alike hK, NN.warm hW hN, hDc.weaken (fun _ _ _ _ => trivial)⟩⟩ rfl rfl hl.1 rfl (lv_room (Nat.le_of_ble_eq_true rfl)) d_Reader_isOwnRecord_47 ⟨hkc, hks⟩) hS (fun q _ h => hFc q h) hFc (fun r12 u t H1 locs ht hvm hp_r12 hB hz1 hk1 hS => ?_)
          obtain ⟨hP1, hD1⟩ := hB
          rw [ht] at hP1
          obtain ⟨hP, hD⟩ := va_joinQ (X := [(ra, .inl (cF, 99, .inr (.inr (.inr (.inr (rowF fa md)))))), (h0, .inr (7, [.ref im, .ref pr, .ref ra, .int cn, .int vw, .int wr])), (im, .inr (1, [.ref iq, .int L])), (iq, .inl (cB, n, .inl f))]) (cx := [(h0, .inr (7, [.ref im, .ref pr, .ref ra, .int cn, .int vw, .int wr])), (im, .inr (1, [.ref iq, .int L])), (iq, .inl (cB, n, .inl f))]) (wr := [(ra, .inl (cF, 99, .inr (.inr (.inr (.inr (rowF fa md))))))]) (w1 := [(h0, .inr (7, [.ref im, .ref pr, .ref ra, .int cn, .int vw, .int wr])), (im, .inr (1, [.ref iq, .int L])), (iq, .inl (cB, n, .inl f))]) hP hD [1, 2, 3] [0] rfl rfl (by decide +kernel) (by decide +kernel) hk1 hFc hP1 hD1
          clear hPc hDc hFc hP1 hD1 hk1 hz1 hkc hks
          generalize H1 = H at hP hS ⊢
          have hP : va_P D CL (([(ra, .inl (cF, 99, .inr (.inr (.inr (.inr (rowF fa md)))))), (h0, .inr (7, [.ref im, .ref pr, .ref ra, .int cn, .int vw, .int wr])), (im, .inr (1, [.ref iq, .int L])), (iq, .inl (cB, n, .inl f))] : va_W) ++ (PL (FC cB fa ga cf) md)) H := hP
          have hD : va_D A (([(ra, .inl (cF, 99, .inr (.inr (.inr (.inr (rowF fa md)))))), (h0, .inr (7, [.ref im, .ref pr, .ref ra, .int cn, .int vw, .int wr])), (im, .inr (1, [.ref iq, .int L])), (iq, .inl (cB, n, .inl f))] : va_W) ++ (PL (FC cB fa ga cf) md)) := hD
          try dsimp only at hp_r12
          have hv_13 := hp_r12
          refine lv_aload_n hx hb d_Reader_isOwnRecord_50 rfl (lv_at hl 0 rfl) ?_
          refine va_get (D := D) (ci := 7) (v := .ref ra) (C := "DiscMaker$Reader") (T := F_Reader) (N := 6) hx hb ht9 in_Reader hown hK hP 1 rfl rfl 2 (by decide) (ht9 _ k414) (fun _ h9 => h9) rfl d_Reader_isOwnRecord_51 ?_
          refine lv_iload_n hx hb d_Reader_isOwnRecord_54 rfl (lv_at hl 1 rfl) ?_
          refine va_aldq hx hb hK hP 0 5 rfl rfl (vp_in_iff.mpr ⟨by omega, by omega⟩) d_Reader_isOwnRecord_55 ?_
          have hk14 : x.toNatClampNeg < md := by have := i_cl (a := x) (by omega); omega
          obtain ⟨i_hj15, hj15⟩ : ∃ j : Nat, (PL (FC cB fa ga cf) md)[j]? = some ((fa x.toNatClampNeg 0), .inr (2, [.ref (fa x.toNatClampNeg 1), .ref (fa x.toNatClampNeg 2), .int (ga x.toNatClampNeg 0), .int (ga x.toNatClampNeg 1), .int (ga x.toNatClampNeg 2), .int (ga x.toNatClampNeg 3), .int (ga x.toNatClampNeg 4), .int (ga x.toNatClampNeg 5), .int (ga x.toNatClampNeg 6), .int (ga x.toNatClampNeg 7), .int (ga x.toNatClampNeg 8), .int (ga x.toNatClampNeg 9), .int (ga x.toNatClampNeg 10)])) := PL_get (i := 0) hk14 rfl
          refine W.eq (g2 := F0 m 56 ls [.ref (fa x.toNatClampNeg 0), .int r12]) (by rw [show rowF fa md x.toNatClampNeg = some (fa x.toNatClampNeg 0) from rowF_some hk14]; rfl) ?_
          refine va_getN (D := D) (ci := 2) (v := .int (ga x.toNatClampNeg 4)) (C := "DiscMaker$Found") (T := F_Found) (N := 13) hx hb ht9 in_Found hown hK hP _ (pix (X := [(ra, .inl (cF, 99, .inr (.inr (.inr (.inr (rowF fa md)))))), (h0, .inr (7, [.ref im, .ref pr, .ref ra, .int cn, .int vw, .int wr])), (im, .inr (1, [.ref iq, .int L])), (iq, .inl (cB, n, .inl f))]) hj15) rfl 6 (by decide) (va_Nw.use rfl (hN _ k1238)) (fun _ h9 => h9) rfl d_Reader_isOwnRecord_56 ?_
          refine lv_icmp_ne (tgt := 66) hx hb d_Reader_isOwnRecord_59 (by decide) (fun h_9 => ?_) (fun h_9 => ?_)
          · skip
            have g59_39 : ¬ r12.toInt = (ga x.toNatClampNeg 4).toInt := fun h8 => h_9 ((i_eq rfl rfl).mpr h8)
            refine lv_iconst (v := 0) hx hb d_Reader_isOwnRecord_66 (by decide) ?_
            have hP9 := hP.part (X := [(ra, .inl (cF, 99, .inr (.inr (.inr (.inr (rowF fa md)))))), (h0, .inr (7, [.ref im, .ref pr, .ref ra, .int cn, .int vw, .int wr])), (im, .inr (1, [.ref iq, .int L])), (iq, .inl (cB, n, .inl f))]) (cx := [(h0, .inr (7, [.ref im, .ref pr, .ref ra, .int cn, .int vw, .int wr])), (ra, .inl (cF, 99, .inr (.inr (.inr (.inr (rowF fa md)))))), (im, .inr (1, [.ref iq, .int L])), (iq, .inl (cB, n, .inl f))]) [1, 0, 2, 3] rfl
            have hD9 := hD.part (X := [(ra, .inl (cF, 99, .inr (.inr (.inr (.inr (rowF fa md)))))), (h0, .inr (7, [.ref im, .ref pr, .ref ra, .int cn, .int vw, .int wr])), (im, .inr (1, [.ref iq, .int L])), (iq, .inl (cB, n, .inl f))]) (cx := [(h0, .inr (7, [.ref im, .ref pr, .ref ra, .int cn, .int vw, .int wr])), (ra, .inl (cF, 99, .inr (.inr (.inr (.inr (rowF fa md)))))), (im, .inr (1, [.ref iq, .int L])), (iq, .inl (cB, n, .inl f))]) [1, 0, 2, 3] (by decide +kernel) rfl
            exact W.zret (v := 0) hx hb hr (by first | rfl | decide | exact i_narZ (by omega)) (fun t ht hW => ⟨⟨0, (), rfl, (by (try dsimp only); first | assumption | omega | trivial), by rw [ht]; exact hP9, hD9⟩, hS.F ht⟩) hS.2.2 d_Reader_isOwnRecord_67
          · skip
            have g59_39 : r12.toInt = (ga x.toNatClampNeg 4).toInt := (i_eq rfl rfl).mp h_9
            refine lv_iconst (v := 1) hx hb d_Reader_isOwnRecord_62 (by decide) ?_
            refine lv_goto (tgt := 67) hx hb d_Reader_isOwnRecord_63 (by decide) ?_
            have hP9 := hP.part (X := [(ra, .inl (cF, 99, .inr (.inr (.inr (.inr (rowF fa md)))))), (h0, .inr (7, [.ref im, .ref pr, .ref ra, .int cn, .int vw, .int wr])), (im, .inr (1, [.ref iq, .int L])), (iq, .inl (cB, n, .inl f))]) (cx := [(h0, .inr (7, [.ref im, .ref pr, .ref ra, .int cn, .int vw, .int wr])), (ra, .inl (cF, 99, .inr (.inr (.inr (.inr (rowF fa md)))))), (im, .inr (1, [.ref iq, .int L])), (iq, .inl (cB, n, .inl f))]) [1, 0, 2, 3] rfl
            have hD9 := hD.part (X := [(ra, .inl (cF, 99, .inr (.inr (.inr (.inr (rowF fa md)))))), (h0, .inr (7, [.ref im, .ref pr, .ref ra, .int cn, .int vw, .int wr])), (im, .inr (1, [.ref iq, .int L])), (iq, .inl (cB, n, .inl f))]) (cx := [(h0, .inr (7, [.ref im, .ref pr, .ref ra, .int cn, .int vw, .int wr])), (ra, .inl (cF, 99, .inr (.inr (.inr (.inr (rowF fa md)))))), (im, .inr (1, [.ref iq, .int L])), (iq, .inl (cB, n, .inl f))]) [1, 0, 2, 3] (by decide +kernel) rfl
            exact W.zret (v := 1) hx hb hr (by first | rfl | decide | exact i_narZ (by omega)) (fun t ht hW => ⟨⟨1, (), rfl, (by (try dsimp only); first | assumption | omega | trivial), by rw [ht]; exact hP9, hD9⟩, hS.F ht⟩) hS.2.2 d_Reader_isOwnRecord_67
      · skip
        have g35_24 : r9.toInt = 0 := (i_eq rfl (by decide)).mp h_9
        refine lv_iconst (v := 0) hx hb d_Reader_isOwnRecord_38 (by decide) ?_
        have hP9 := hP.part (X := [(ra, .inl (cF, 99, .inr (.inr (.inr (.inr (rowF fa md)))))), (h0, .inr (7, [.ref im, .ref pr, .ref ra, .int cn, .int vw, .int wr])), (im, .inr (1, [.ref iq, .int L])), (iq, .inl (cB, n, .inl f))]) (cx := [(h0, .inr (7, [.ref im, .ref pr, .ref ra, .int cn, .int vw, .int wr])), (ra, .inl (cF, 99, .inr (.inr (.inr (.inr (rowF fa md)))))), (im, .inr (1, [.ref iq, .int L])), (iq, .inl (cB, n, .inl f))]) [1, 0, 2, 3] rfl
        have hD9 := hD.part (X := [(ra, .inl (cF, 99, .inr (.inr (.inr (.inr (rowF fa md)))))), (h0, .inr (7, [.ref im, .ref pr, .ref ra, .int cn, .int vw, .int wr])), (im, .inr (1, [.ref iq, .int L])), (iq, .inl (cB, n, .inl f))]) (cx := [(h0, .inr (7, [.ref im, .ref pr, .ref ra, .int cn, .int vw, .int wr])), (ra, .inl (cF, 99, .inr (.inr (.inr (.inr (rowF fa md)))))), (im, .inr (1, [.ref iq, .int L])), (iq, .inl (cB, n, .inl f))]) [1, 0, 2, 3] (by decide +kernel) rfl
        exact W.zret (v := 0) hx hb hr (by first | rfl | decide | exact i_narZ (by omega)) (fun t ht hW => ⟨⟨0, (), rfl, (by (try dsimp only); first | assumption | omega | trivial), by rw [ht]; exact hP9, hD9⟩, hS.F ht⟩) hS.2.2 d_Reader_isOwnRecord_39

theorem d_Reader_addNode_0 : decode b_Reader_addNode 0 = .ok (.aload_n 0, 1) := by decide +kernel
theorem d_Reader_addNode_1 : decode b_Reader_addNode 1 = .ok (.getfield 11, 3) := by decide +kernel
theorem d_Reader_addNode_4 : decode b_Reader_addNode 4 = .ok (.iload_n 1, 1) := by decide +kernel
theorem d_Reader_addNode_5 : decode b_Reader_addNode 5 = .ok (.aaload, 1) := by decide +kernel
theorem d_Reader_addNode_6 : decode b_Reader_addNode 6 = .ok (.getfield 124, 3) := by decide +kernel
theorem d_Reader_addNode_9 : decode b_Reader_addNode 9 = .ok (.iconst 1, 1) := by decide +kernel
theorem d_Reader_addNode_10 : decode b_Reader_addNode 10 = .ok (.iadd, 1) := by decide +kernel
theorem d_Reader_addNode_11 : decode b_Reader_addNode 11 = .ok (.istore_n 3, 1) := by decide +kernel
theorem d_Reader_addNode_12 : decode b_Reader_addNode 12 = .ok (.aload_n 0, 1) := by decide +kernel
theorem d_Reader_addNode_13 : decode b_Reader_addNode 13 = .ok (.getfield 30, 3) := by decide +kernel
theorem d_Reader_addNode_16 : decode b_Reader_addNode 16 = .ok (.bipush 99, 2) := by decide +kernel
theorem d_Reader_addNode_18 : decode b_Reader_addNode 18 = .ok (.if_icmp .eq 29, 3) := by decide +kernel
theorem d_Reader_addNode_21 : decode b_Reader_addNode 21 = .ok (.aload_n 0, 1) := by decide +kernel
theorem d_Reader_addNode_22 : decode b_Reader_addNode 22 = .ok (.iload_n 2, 1) := by decide +kernel
theorem d_Reader_addNode_23 : decode b_Reader_addNode 23 = .ok (.invokevirtual 89, 3) := by decide +kernel
theorem d_Reader_addNode_26 : decode b_Reader_addNode 26 = .ok (.ifCond .eq 23, 3) := by decide +kernel
theorem d_Reader_addNode_29 : decode b_Reader_addNode 29 = .ok (.iload_n 3, 1) := by decide +kernel
theorem d_Reader_addNode_30 : decode b_Reader_addNode 30 = .ok (.bipush 8, 2) := by decide +kernel
theorem d_Reader_addNode_32 : decode b_Reader_addNode 32 = .ok (.if_icmp .gt 15, 3) := by decide +kernel
theorem d_Reader_addNode_35 : decode b_Reader_addNode 35 = .ok (.aload_n 0, 1) := by decide +kernel
theorem d_Reader_addNode_36 : decode b_Reader_addNode 36 = .ok (.aload_n 0, 1) := by decide +kernel
theorem d_Reader_addNode_37 : decode b_Reader_addNode 37 = .ok (.iload_n 2, 1) := by decide +kernel
theorem d_Reader_addNode_38 : decode b_Reader_addNode 38 = .ok (.invokevirtual 119, 3) := by decide +kernel
theorem d_Reader_addNode_41 : decode b_Reader_addNode 41 = .ok (.invokevirtual 127, 3) := by decide +kernel
theorem d_Reader_addNode_44 : decode b_Reader_addNode 44 = .ok (.ifCond .eq 5, 3) := by decide +kernel
theorem d_Reader_addNode_47 : decode b_Reader_addNode 47 = .ok (.iconst 0, 1) := by decide +kernel
theorem d_Reader_addNode_48 : decode b_Reader_addNode 48 = .ok (.ireturn, 1) := by decide +kernel
theorem d_Reader_addNode_49 : decode b_Reader_addNode 49 = .ok (.aload_n 0, 1) := by decide +kernel
theorem d_Reader_addNode_50 : decode b_Reader_addNode 50 = .ok (.iload_n 1, 1) := by decide +kernel
theorem d_Reader_addNode_51 : decode b_Reader_addNode 51 = .ok (.iload_n 3, 1) := by decide +kernel
theorem d_Reader_addNode_52 : decode b_Reader_addNode 52 = .ok (.iload_n 2, 1) := by decide +kernel
theorem d_Reader_addNode_53 : decode b_Reader_addNode 53 = .ok (.invokevirtual 92, 3) := by decide +kernel
theorem d_Reader_addNode_56 : decode b_Reader_addNode 56 = .ok (.iconst 1, 1) := by decide +kernel
theorem d_Reader_addNode_57 : decode b_Reader_addNode 57 = .ok (.ireturn, 1) := by decide +kernel
set_option maxHeartbeats 4000000 in
set_option maxRecDepth 100000 in
theorem c3_addNode (l : Launch) (D : va_G) (cB cI cJ cZ cN cF : ClassId) (sz : Nat) (h0 : Nat) (pr : Nat) (ra : Nat) (im : Nat) (iq : Nat) (n : Nat) (L : Int32) (f : Nat → Int32) (cn : Int32) (vw : Int32) (wr : Int32) (fa : Nat → Nat → Nat) (ga : Nat → Nat → Int32) (cf : Nat → Nat → Nat → Int32) (md : Nat) (T0 : Nat) (x : Int32) (y : Int32) (hL : 0 ≤ L.toInt ∧ L.toInt ≤ n) (hn : n ≤ 3000000) (hcn : 0 ≤ cn.toInt ∧ cn.toInt ≤ md) (hmd : md ≤ 99) (hx : 0 ≤ x.toInt ∧ x.toInt < cn.toInt) (hy : 0 ≤ y.toInt ∧ y.toInt ≤ 1000000000) (hrec : RecC f L y) (hrok : ROK L.toInt cn.toInt ga) : Met l y_Reader_addNode w_Reader_addNode ({ frames := 3, cells := 3, slots := 473, locals := 87 }) (va_Pc [.ref h0, .int x, .int y] (fun U => U.heap.size = sz ∧ va_P D CL (([(h0, .inr (7, [.ref im, .ref pr, .ref ra, .int cn, .int vw, .int wr])), (ra, .inl (cF, 99, .inr (.inr (.inr (.inr (rowF fa md)))))), (im, .inr (1, [.ref iq, .int L])), (iq, .inl (cB, n, .inl f))] : va_W) ++ (PL (FC cB fa ga cf) md)) U.heap ∧ va_K D CL (TY cB cI cJ cZ cN cF) U ∧ NN U ∧ va_D (fun _ => True) (([(h0, .inr (7, [.ref im, .ref pr, .ref ra, .int cn, .int vw, .int wr])), (ra, .inl (cF, 99, .inr (.inr (.inr (.inr (rowF fa md)))))), (im, .inr (1, [.ref iq, .int L])), (iq, .inl (cB, n, .inl f))] : va_W) ++ (PL (FC cB fa ga cf) md)) ∧ TOT T0 (va_A (([(h0, .inr (7, [.ref im, .ref pr, .ref ra, .int cn, .int vw, .int wr])), (ra, .inl (cF, 99, .inr (.inr (.inr (.inr (rowF fa md)))))), (im, .inr (1, [.ref iq, .int L])), (iq, .inl (cB, n, .inl f))] : va_W) ++ (PL (FC cB fa ga cf) md)) sz) U U.heap)) (va_Qi (fun (r : Int32) (u : Int32 × (Nat → Nat → Nat) × (Nat → Nat → Int32) × (Nat → Nat → Nat → Int32) × Nat) => match u with | (cn2, fa2, ga2, cf2, md2) => (0 ≤ r.toInt ∧ r.toInt ≤ 1) ∧ (cn.toInt ≤ cn2.toInt ∧ cn2.toInt ≤ md2 ∧ md ≤ md2 ∧ md2 ≤ 99) ∧ (r.toInt ≠ 0 → cn2.toInt = cn.toInt + 1) ∧ (r.toInt ≠ 0 → ROK L.toInt cn2.toInt ga2) ∧ (r.toInt ≠ 0 → (ga2 cn.toNatClampNeg 8).toInt = 0 ∧ (ga2 cn.toNatClampNeg 9).toInt = 0)) (fun (u : Int32 × (Nat → Nat → Nat) × (Nat → Nat → Int32) × (Nat → Nat → Nat → Int32) × Nat) (t : State) => match u with | (cn2, fa2, ga2, cf2, md2) => (t.heap.size ≤ sz + 3 * (md2 - md) ∧ tot t.heap ≤ T0 + 473 * (md2 - md)) ∧ va_P D CL (([(h0, .inr (7, [.ref im, .ref pr, .ref ra, .int cn2, .int vw, .int wr])), (ra, .inl (cF, 99, .inr (.inr (.inr (.inr (rowF fa2 md2)))))), (im, .inr (1, [.ref iq, .int L])), (iq, .inl (cB, n, .inl f))] : va_W) ++ (PL (FC cB fa2 ga2 cf2) md2)) t.heap ∧ va_D (va_A (([(h0, .inr (7, [.ref im, .ref pr, .ref ra, .int cn, .int vw, .int wr])), (ra, .inl (cF, 99, .inr (.inr (.inr (.inr (rowF fa md)))))), (im, .inr (1, [.ref iq, .int L])), (iq, .inl (cB, n, .inl f))] : va_W) ++ (PL (FC cB fa ga cf) md)) sz) (([(h0, .inr (7, [.ref im, .ref pr, .ref ra, .int cn2, .int vw, .int wr])), (ra, .inl (cF, 99, .inr (.inr (.inr (.inr (rowF fa2 md2)))))), (im, .inr (1, [.ref iq, .int L])), (iq, .inl (cB, n, .inl f))] : va_W) ++ (PL (FC cB fa2 ga2 cf2) md2))) (va_A (([(h0, .inr (7, [.ref im, .ref pr, .ref ra, .int cn, .int vw, .int wr])), (ra, .inl (cF, 99, .inr (.inr (.inr (.inr (rowF fa md)))))), (im, .inr (1, [.ref iq, .int L])), (iq, .inl (cB, n, .inl f))] : va_W) ++ (PL (FC cB fa ga cf) md)) sz)) 3 473 (va_A (([(h0, .inr (7, [.ref im, .ref pr, .ref ra, .int cn, .int vw, .int wr])), (ra, .inl (cF, 99, .inr (.inr (.inr (.inr (rowF fa md)))))), (im, .inr (1, [.ref iq, .int L])), (iq, .inl (cB, n, .inl f))] : va_W) ++ (PL (FC cB fa ga cf) md)) sz) := by
  refine Met.ofW (cc := b_Reader_addNode) (maxL := 4) (ret := some .boolean) (by decide +kernel) rfl ?_
  intro p e s m args below meth c s₁ B hml hv
  obtain ⟨rfl, hsz, hP, hK, hN, hD0, hZq⟩ := hv
  have hx := B.exec
  have hb := B.bytes
  have hr := B.returns
  have hts := atoms_spec (ws := w_Reader_addNode) B.pre
  have ht9 := fun (w : Cond) (h : w ∈ lw_g) => hts w (List.mem_cons_of_mem _ h)
  have hown : s.vm.findClass "DiscMaker$Reader" = some m.cls := findClass_of_methodNamed B.named
  have hlocks := B.notSynchronized
  subst hsz
  have hD := hD0.self (sz := s.heap.size)
  generalize hAe : va_A (([(h0, .inr (7, [.ref im, .ref pr, .ref ra, .int cn, .int vw, .int wr])), (ra, .inl (cF, 99, .inr (.inr (.inr (.inr (rowF fa md)))))), (im, .inr (1, [.ref iq, .int L])), (iq, .inl (cB, n, .inl f))] : va_W) ++ (PL (FC cB fa ga cf) md)) s.heap.size = A at hD hZq ⊢
  have hA : ∀ q : Nat, s.heap.size ≤ q → A q := fun q h => by rw [← hAe]; exact Or.inr h
  have hS : va_S A s.heap s.heap [] := va_S.rf
  have hP : va_P D CL (([(h0, .inr (7, [.ref im, .ref pr, .ref ra, .int cn, .int vw, .int wr])), (ra, .inl (cF, 99, .inr (.inr (.inr (.inr (rowF fa md)))))), (im, .inr (1, [.ref iq, .int L])), (iq, .inl (cB, n, .inl f))] : va_W) ++ (PL (FC cB fa ga cf) md)) s.heap := hP
  have hl := lv_entry [.ref h0, .int x, .int y] (n := 4) (Nat.le_of_ble_eq_true rfl)
  rw [lg_entry_eq]
  generalize (lg_sl [.ref h0, .int x, .int y] ++ List.replicate (4 - (lg_sl [.ref h0, .int x, .int y]).length) Slot.unset).toArray = ls at hl ⊢
  have hl : lv_has ls 4 [(0, .ref h0), (1, .int x), (2, .int y)] := hl
  have L_m1 : ((-1) : Int32).toInt = (-1) := by decide
  have L_0 : (0 : Int32).toInt = 0 := by decide
  have L_1 : (1 : Int32).toInt = 1 := by decide
  have L_8 : (8 : Int32).toInt = 8 := by decide
  have L_99 : (99 : Int32).toInt = 99 := by decide
  refine lv_aload_n hx hb d_Reader_addNode_0 rfl (lv_at hl 0 rfl) ?_
  refine va_get (D := D) (ci := 7) (v := .ref ra) (C := "DiscMaker$Reader") (T := F_Reader) (N := 6) hx hb ht9 in_Reader hown hK hP 0 rfl rfl 2 (by decide) (ht9 _ k414) (fun _ h9 => h9) rfl d_Reader_addNode_1 ?_
  refine lv_iload_n hx hb d_Reader_addNode_4 rfl (lv_at hl 1 rfl) ?_
  refine va_aldq hx hb hK hP 1 5 rfl rfl (vp_in_iff.mpr ⟨by omega, by omega⟩) d_Reader_addNode_5 ?_
  have hk1 : x.toNatClampNeg < md := by have := i_cl (a := x) (by omega); omega
  obtain ⟨i_hj2, hj2⟩ : ∃ j : Nat, (PL (FC cB fa ga cf) md)[j]? = some ((fa x.toNatClampNeg 0), .inr (2, [.ref (fa x.toNatClampNeg 1), .ref (fa x.toNatClampNeg 2), .int (ga x.toNatClampNeg 0), .int (ga x.toNatClampNeg 1), .int (ga x.toNatClampNeg 2), .int (ga x.toNatClampNeg 3), .int (ga x.toNatClampNeg 4), .int (ga x.toNatClampNeg 5), .int (ga x.toNatClampNeg 6), .int (ga x.toNatClampNeg 7), .int (ga x.toNatClampNeg 8), .int (ga x.toNatClampNeg 9), .int (ga x.toNatClampNeg 10)])) := PL_get (i := 0) hk1 rfl
  refine W.eq (g2 := F0 m 6 ls [.ref (fa x.toNatClampNeg 0)]) (by rw [show rowF fa md x.toNatClampNeg = some (fa x.toNatClampNeg 0) from rowF_some hk1]; rfl) ?_
  refine va_getN (D := D) (ci := 2) (v := .int (ga x.toNatClampNeg 1)) (C := "DiscMaker$Found") (T := F_Found) (N := 13) hx hb ht9 in_Found hown hK hP _ (pix (X := [(h0, .inr (7, [.ref im, .ref pr, .ref ra, .int cn, .int vw, .int wr])), (ra, .inl (cF, 99, .inr (.inr (.inr (.inr (rowF fa md)))))), (im, .inr (1, [.ref iq, .int L])), (iq, .inl (cB, n, .inl f))]) hj2) rfl 3 (by decide) (va_Nw.use rfl (hN _ k1229)) (fun _ h9 => h9) rfl d_Reader_addNode_6 ?_
  refine lv_iconst (v := 1) hx hb d_Reader_addNode_9 (by decide) ?_
  refine lv_iadd hx hb d_Reader_addNode_10 ?_
  refine lv_topi (fun v3 e_v3 => ?_)
  refine lv_istore_n hx hb d_Reader_addNode_11 rfl hl (by decide) rfl (fun ls hl => ?_)
  have hl : lv_has ls 4 [(3, .int v3), (0, .ref h0), (1, .int x), (2, .int y)] := hl
  refine lv_aload_n hx hb d_Reader_addNode_12 rfl (lv_at hl 1 rfl) ?_
  refine va_get (D := D) (ci := 7) (v := .int cn) (C := "DiscMaker$Reader") (T := F_Reader) (N := 6) hx hb ht9 in_Reader hown hK hP 0 rfl rfl 3 (by decide) (ht9 _ k415) (fun _ h9 => h9) rfl d_Reader_addNode_13 ?_
  refine lv_bipush (v := 99) hx hb d_Reader_addNode_16 (by decide) ?_
  refine lv_icmp_eq (tgt := 47) hx hb d_Reader_addNode_18 (by decide) (fun h_9 => ?_) (fun h_9 => ?_)
  · skip
    have g18_12 : cn.toInt = 99 := (i_eq rfl (by decide)).mp h_9
    refine lv_iconst (v := 0) hx hb d_Reader_addNode_47 (by decide) ?_
    have hT0 : tot s.heap = T0 := hZq
    refine zz_know (fun hk9 hn9 => ?_)
    have hP9 := hP.part (X := [(h0, .inr (7, [.ref im, .ref pr, .ref ra, .int cn, .int vw, .int wr])), (ra, .inl (cF, 99, .inr (.inr (.inr (.inr (rowF fa md)))))), (im, .inr (1, [.ref iq, .int L])), (iq, .inl (cB, n, .inl f))]) (cx := [(h0, .inr (7, [.ref im, .ref pr, .ref ra, .int cn, .int vw, .int wr])), (ra, .inl (cF, 99, .inr (.inr (.inr (.inr (rowF fa md)))))), (im, .inr (1, [.ref iq, .int L])), (iq, .inl (cB, n, .inl f))]) [0, 1, 2, 3] rfl
    have hD9 := hD.part (X := [(h0, .inr (7, [.ref im, .ref pr, .ref ra, .int cn, .int vw, .int wr])), (ra, .inl (cF, 99, .inr (.inr (.inr (.inr (rowF fa md)))))), (im, .inr (1, [.ref iq, .int L])), (iq, .inl (cB, n, .inl f))]) (cx := [(h0, .inr (7, [.ref im, .ref pr, .ref ra, .int cn, .int vw, .int wr])), (ra, .inl (cF, 99, .inr (.inr (.inr (.inr (rowF fa md)))))), (im, .inr (1, [.ref iq, .int L])), (iq, .inl (cB, n, .inl f))]) [0, 1, 2, 3] (by decide +kernel) rfl
    refine W.widen (k := 3) (n := 473) (by decide) (by decide) ?_
    exact W.zret (v := 0) hx hb hr (by first | rfl | decide | exact i_narZ (by omega)) (fun t ht hW => ⟨⟨0, (cn, fa, ga, cf, md), rfl, ⟨(by (try dsimp only); first | assumption | omega | trivial), (by (try dsimp only); first | assumption | omega | trivial), (by (try dsimp only); intro h7; exfalso; omega), (by (try dsimp only); intro h7; exfalso; omega), (by (try dsimp only); intro h7; exfalso; omega)⟩, ⟨by rw [ht]; omega, by rw [ht]; omega⟩, by rw [ht]; exact hP9, hD9⟩, hS.F ht⟩) hS.2.2 d_Reader_addNode_48
  · skip
    have g18_12 : ¬ cn.toInt = 99 := fun h8 => h_9 ((i_eq rfl (by decide)).mpr h8)
    refine lv_aload_n hx hb d_Reader_addNode_21 rfl (lv_at hl 1 rfl) ?_
    refine lv_iload_n hx hb d_Reader_addNode_22 rfl (lv_at hl 3 rfl) ?_
    have hPc := hP.sub (ws' := [(h0, .inr (7, [.ref im, .ref pr, .ref ra, .int cn, .int vw, .int wr])), (im, .inr (1, [.ref iq, .int L])), (iq, .inl (cB, n, .inl f))]) [0, 2, 3] rfl
    have hDc := hD.sub (ws' := [(h0, .inr (7, [.ref im, .ref pr, .ref ra, .int cn, .int vw, .int wr])), (im, .inr (1, [.ref iq, .int L])), (iq, .inl (cB, n, .inl f))]) [0, 2, 3] (by decide +kernel) rfl
    have hFc := va_free (wc := [(h0, .inr (7, [.ref im, .ref pr, .ref ra, .int cn, .int vw, .int wr])), (im, .inr (1, [.ref iq, .int L])), (iq, .inl (cB, n, .inl f))]) hD hS hA [0, 2, 3] rfl
    have hkc : 0 ≤ 3 := by decide
    have hks : 0 ≤ 473 := by decide
    refine va_calli (va_runV (C := "DiscMaker$Reader") (As := [.int y]) (rest := []) ⟨hx, hb, hml, hown, hts⟩ (c3_isDirectory l D cB cI cJ cZ cN cF s.heap.size h0 pr ra im iq n L f cn vw wr y (by (try dsimp only); first | assumption | omega | trivial) (by (try dsimp only); first | assumption | omega | trivial) (by (try dsimp only); first | assumption | omega | trivial)) (cwV 1 hts (lg_goodV k1209 k1211 k37 k123 kc_Reader_isDirectory) rfl rfl rfl (by decide +kernel) ⟨Nat.le_of_ble_eq_true rfl, Nat.le_of_ble_eq_true rfl⟩) ⟨fun a U g mk q => by obtain ⟨q0, q1, qP, qK, qN, qD⟩ := q; exact ⟨q0, q1, qP, va_K.moved (u := U) (U := U.calling g mk a) (Vm.Alike.refl U.vm) qK, qN.calling, qD⟩, va_recv hK hP (ci := 7) (q0 := 0) rfl rfl, fun U hU hW => ⟨rfl, by rw [hU], by rw [hU]; exact hPc, va_K.moved hW.alike hK, NN.warm hW hN, hDc.weaken (fun _ _ _ _ => trivial)⟩⟩ rfl rfl hl.1 rfl (lv_room (Nat.le_of_ble_eq_true rfl)) d_Reader_addNode_23 ⟨hkc, hks⟩) hS (fun q _ h => hFc q h) hFc (fun r4 u t H1 locs ht hvm hp_r4 hB hz1 hk1 hS => ?_)
    obtain ⟨hP1, hD1⟩ := hB
    rw [ht] at hP1
    obtain ⟨hP, hD⟩ := va_joinQ (X := [(h0, .inr (7, [.ref im, .ref pr, .ref ra, .int cn, .int vw, .int wr])), (ra, .inl (cF, 99, .inr (.inr (.inr (.inr (rowF fa md)))))), (im, .inr (1, [.ref iq, .int L])), (iq, .inl (cB, n, .inl f))]) (cx := [(h0, .inr (7, [.ref im, .ref pr, .ref ra, .int cn, .int vw, .int wr])), (im, .inr (1, [.ref iq, .int L])), (iq, .inl (cB, n, .inl f))]) (wr := [(ra, .inl (cF, 99, .inr (.inr (.inr (.inr (rowF fa md))))))]) (w1 := [(h0, .inr (7, [.ref im, .ref pr, .ref ra, .int cn, .int vw, .int wr])), (im, .inr (1, [.ref iq, .int L])), (iq, .inl (cB, n, .inl f))]) hP hD [0, 2, 3] [1] rfl rfl (by decide +kernel) (by decide +kernel) hk1 hFc hP1 hD1
    clear hPc hDc hFc hP1 hD1 hk1 hz1 hkc hks
    generalize H1 = H at hP hS ⊢
    have hP : va_P D CL (([(ra, .inl (cF, 99, .inr (.inr (.inr (.inr (rowF fa md)))))), (h0, .inr (7, [.ref im, .ref pr, .ref ra, .int cn, .int vw, .int wr])), (im, .inr (1, [.ref iq, .int L])), (iq, .inl (cB, n, .inl f))] : va_W) ++ (PL (FC cB fa ga cf) md)) H := hP
    have hD : va_D A (([(ra, .inl (cF, 99, .inr (.inr (.inr (.inr (rowF fa md)))))), (h0, .inr (7, [.ref im, .ref pr, .ref ra, .int cn, .int vw, .int wr])), (im, .inr (1, [.ref iq, .int L])), (iq, .inl (cB, n, .inl f))] : va_W) ++ (PL (FC cB fa ga cf) md)) := hD
    try dsimp only at hp_r4
    obtain ⟨hr_5, hv_6⟩ := hp_r4
    refine lv_if_eq (tgt := 49) hx hb d_Reader_addNode_26 (by decide) (fun h_9 => ?_) (fun h_9 => ?_)
    · skip
      have g26_18 : r4.toInt = 0 := (i_eq rfl (by decide)).mp h_9
      refine lv_aload_n hx hb d_Reader_addNode_49 rfl (lv_at hl 1 rfl) ?_
      refine lv_iload_n hx hb d_Reader_addNode_50 rfl (lv_at hl 2 rfl) ?_
      refine lv_iload_n hx hb d_Reader_addNode_51 rfl (lv_at hl 0 rfl) ?_
      refine lv_iload_n hx hb d_Reader_addNode_52 rfl (lv_at hl 3 rfl) ?_
      refine zz_know (fun hk8 hn8 => ?_)
      have hPc := hP.part (X := [(ra, .inl (cF, 99, .inr (.inr (.inr (.inr (rowF fa md)))))), (h0, .inr (7, [.ref im, .ref pr, .ref ra, .int cn, .int vw, .int wr])), (im, .inr (1, [.ref iq, .int L])), (iq, .inl (cB, n, .inl f))]) (cx := [(h0, .inr (7, [.ref im, .ref pr, .ref ra, .int cn, .int vw, .int wr])), (ra, .inl (cF, 99, .inr (.inr (.inr (.inr (rowF fa md)))))), (im, .inr (1, [.ref iq, .int L])), (iq, .inl (cB, n, .inl f))]) [1, 0, 2, 3] rfl
      have hDc := hD.part (X := [(ra, .inl (cF, 99, .inr (.inr (.inr (.inr (rowF fa md)))))), (h0, .inr (7, [.ref im, .ref pr, .ref ra, .int cn, .int vw, .int wr])), (im, .inr (1, [.ref iq, .int L])), (iq, .inl (cB, n, .inl f))]) (cx := [(h0, .inr (7, [.ref im, .ref pr, .ref ra, .int cn, .int vw, .int wr])), (ra, .inl (cF, 99, .inr (.inr (.inr (.inr (rowF fa md)))))), (im, .inr (1, [.ref iq, .int L])), (iq, .inl (cB, n, .inl f))]) [1, 0, 2, 3] (by decide +kernel) rfl
      have hFc := va_freeP (X := [(ra, .inl (cF, 99, .inr (.inr (.inr (.inr (rowF fa md)))))), (h0, .inr (7, [.ref im, .ref pr, .ref ra, .int cn, .int vw, .int wr])), (im, .inr (1, [.ref iq, .int L])), (iq, .inl (cB, n, .inl f))]) (cx := [(h0, .inr (7, [.ref im, .ref pr, .ref ra, .int cn, .int vw, .int wr])), (ra, .inl (cF, 99, .inr (.inr (.inr (.inr (rowF fa md)))))), (im, .inr (1, [.ref iq, .int L])), (iq, .inl (cB, n, .inl f))]) hD hS hA [1, 0, 2, 3] rfl
      have hkc : 3 ≤ 3 := by decide
      have hks : 473 ≤ 473 := by decide
      refine va_callv (va_runV (C := "DiscMaker$Reader") (As := [.int x, .int v3, .int y]) (rest := []) ⟨hx, hb, hml, hown, hts⟩ (c3_addRow l D cB cI cJ cZ cN cF H.size h0 pr ra im iq n L f cn vw wr fa ga cf md (tot H) x v3 y (by (try dsimp only); first | assumption | omega | trivial) (by (try dsimp only); first | assumption | omega | trivial) (by (try dsimp only); first | assumption | omega | trivial) (by (try dsimp only); first | assumption | omega | trivial) (by (try dsimp only); first | assumption | omega | trivial) (by (try dsimp only); first | assumption | omega | trivial) (by (try dsimp only); first | assumption | omega | trivial) (by (try dsimp only); first | assumption | omega | trivial)) (cwV 3 hts (lg_goodV k1214 k1216 k38 k123 kc_Reader_addRow) rfl rfl rfl (by decide +kernel) ⟨Nat.le_of_ble_eq_true rfl, Nat.le_of_ble_eq_true rfl⟩) ⟨fun a U g mk q => by obtain ⟨q0, q1, qP, qK, qN, qD, qZ0⟩ := q; exact ⟨q0, q1, qP, va_K.moved (u := U) (U := U.calling g mk a) (Vm.Alike.refl U.vm) qK, qN.calling, qD, TOT_blind qZ0⟩, va_recv hK hP (ci := 7) (q0 := 1) rfl rfl, fun U hU hW => ⟨rfl, by rw [hU], by rw [hU]; exact hPc, va_K.moved hW.alike hK, NN.warm hW hN, hDc.weaken (fun _ _ _ _ => trivial), congrArg tot hU⟩⟩ rfl rfl hl.1 rfl (lv_room (Nat.le_of_ble_eq_true rfl)) d_Reader_addNode_53 ⟨hkc, hks⟩) hS (fun q _ h => hFc q h) hFc (fun u t H1 locs ht hvm hp_r7 hB hz1 hk1 hS => ?_)
      obtain ⟨cn2_8, fa2_9, ga2_10, cf2_11, md2_12⟩ := u
      obtain ⟨hq_13, hP1, hD1⟩ := hB
      rw [ht] at hP1
      try rw [ht] at hq_13
      obtain ⟨hP, hD⟩ := va_joinP (X := [(ra, .inl (cF, 99, .inr (.inr (.inr (.inr (rowF fa md)))))), (h0, .inr (7, [.ref im, .ref pr, .ref ra, .int cn, .int vw, .int wr])), (im, .inr (1, [.ref iq, .int L])), (iq, .inl (cB, n, .inl f))]) (cx := [(h0, .inr (7, [.ref im, .ref pr, .ref ra, .int cn, .int vw, .int wr])), (ra, .inl (cF, 99, .inr (.inr (.inr (.inr (rowF fa md)))))), (im, .inr (1, [.ref iq, .int L])), (iq, .inl (cB, n, .inl f))]) (wr := []) (rx := [(h0, .inr (7, [.ref im, .ref pr, .ref ra, .int cn2_8, .int vw, .int wr])), (ra, .inl (cF, 99, .inr (.inr (.inr (.inr (rowF fa2_9 md2_12)))))), (im, .inr (1, [.ref iq, .int L])), (iq, .inl (cB, n, .inl f))]) hP hD [1, 0, 2, 3] [] rfl rfl (by decide +kernel) (by decide +kernel) hk1 hFc hP1 hD1
      clear hPc hDc hFc hP1 hD1 hk1 hz1 hkc hks
      generalize H1 = H at hP hS hq_13 ⊢
      have hP : va_P D CL (([(h0, .inr (7, [.ref im, .ref pr, .ref ra, .int cn2_8, .int vw, .int wr])), (ra, .inl (cF, 99, .inr (.inr (.inr (.inr (rowF fa2_9 md2_12)))))), (im, .inr (1, [.ref iq, .int L])), (iq, .inl (cB, n, .inl f))] : va_W) ++ (PL (FC cB fa2_9 ga2_10 cf2_11) md2_12)) H := hP
      have hD : va_D A (([(h0, .inr (7, [.ref im, .ref pr, .ref ra, .int cn2_8, .int vw, .int wr])), (ra, .inl (cF, 99, .inr (.inr (.inr (.inr (rowF fa2_9 md2_12)))))), (im, .inr (1, [.ref iq, .int L])), (iq, .inl (cB, n, .inl f))] : va_W) ++ (PL (FC cB fa2_9 ga2_10 cf2_11) md2_12)) := hD
      refine W.widen (k := 3) (n := 473) (by decide) (by decide) ?_
      try dsimp only at hp_r7
      obtain ⟨hcn2_14, hrok2_15, hnew_16⟩ := hp_r7
      refine lv_iconst (v := 1) hx hb d_Reader_addNode_56 (by decide) ?_
      have hT0 : tot s.heap = T0 := hZq
      have hP9 := hP.part (X := [(h0, .inr (7, [.ref im, .ref pr, .ref ra, .int cn2_8, .int vw, .int wr])), (ra, .inl (cF, 99, .inr (.inr (.inr (.inr (rowF fa2_9 md2_12)))))), (im, .inr (1, [.ref iq, .int L])), (iq, .inl (cB, n, .inl f))]) (cx := [(h0, .inr (7, [.ref im, .ref pr, .ref ra, .int cn2_8, .int vw, .int wr])), (ra, .inl (cF, 99, .inr (.inr (.inr (.inr (rowF fa2_9 md2_12)))))), (im, .inr (1, [.ref iq, .int L])), (iq, .inl (cB, n, .inl f))]) [0, 1, 2, 3] rfl
      have hD9 := hD.part (X := [(h0, .inr (7, [.ref im, .ref pr, .ref ra, .int cn2_8, .int vw, .int wr])), (ra, .inl (cF, 99, .inr (.inr (.inr (.inr (rowF fa2_9 md2_12)))))), (im, .inr (1, [.ref iq, .int L])), (iq, .inl (cB, n, .inl f))]) (cx := [(h0, .inr (7, [.ref im, .ref pr, .ref ra, .int cn2_8, .int vw, .int wr])), (ra, .inl (cF, 99, .inr (.inr (.inr (.inr (rowF fa2_9 md2_12)))))), (im, .inr (1, [.ref iq, .int L])), (iq, .inl (cB, n, .inl f))]) [0, 1, 2, 3] (by decide +kernel) rfl
      exact W.zret (v := 1) hx hb hr (by first | rfl | decide | exact i_narZ (by omega)) (fun t ht hW => ⟨⟨1, (cn2_8, fa2_9, ga2_10, cf2_11, md2_12), rfl, ⟨(by (try dsimp only); first | assumption | omega | trivial), (by (try dsimp only); first | assumption | omega | trivial), (by (try dsimp only); intro h7; first | (exfalso; omega) | omega | assumption | (refine ⟨?_, ?_⟩ <;> first | omega | assumption)), (fun _ => hrok2_15), (fun _ => hnew_16)⟩, ⟨by rw [ht]; omega, by rw [ht]; omega⟩, by rw [ht]; exact hP9, hD9⟩, hS.F ht⟩) hS.2.2 d_Reader_addNode_57
    · skip
      have g26_18 : ¬ r4.toInt = 0 := fun h8 => h_9 ((i_eq rfl (by decide)).mpr h8)
      refine lv_iload_n hx hb d_Reader_addNode_29 rfl (lv_at hl 0 rfl) ?_
      refine lv_bipush (v := 8) hx hb d_Reader_addNode_30 (by decide) ?_
      refine lv_icmp_gt (tgt := 47) hx hb d_Reader_addNode_32 (by decide) (fun h_9 => ?_) (fun h_9 => ?_)
      · skip
        have g32_28 : 8 < v3.toInt := (i_lt (by decide) rfl).mp h_9
        refine lv_iconst (v := 0) hx hb d_Reader_addNode_47 (by decide) ?_
        have hT0 : tot s.heap = T0 := hZq
        refine zz_know (fun hk9 hn9 => ?_)
        have hP9 := hP.part (X := [(ra, .inl (cF, 99, .inr (.inr (.inr (.inr (rowF fa md)))))), (h0, .inr (7, [.ref im, .ref pr, .ref ra, .int cn, .int vw, .int wr])), (im, .inr (1, [.ref iq, .int L])), (iq, .inl (cB, n, .inl f))]) (cx := [(h0, .inr (7, [.ref im, .ref pr, .ref ra, .int cn, .int vw, .int wr])), (ra, .inl (cF, 99, .inr (.inr (.inr (.inr (rowF fa md)))))), (im, .inr (1, [.ref iq, .int L])), (iq, .inl (cB, n, .inl f))]) [1, 0, 2, 3] rfl
        have hD9 := hD.part (X := [(ra, .inl (cF, 99, .inr (.inr (.inr (.inr (rowF fa md)))))), (h0, .inr (7, [.ref im, .ref pr, .ref ra, .int cn, .int vw, .int wr])), (im, .inr (1, [.ref iq, .int L])), (iq, .inl (cB, n, .inl f))]) (cx := [(h0, .inr (7, [.ref im, .ref pr, .ref ra, .int cn, .int vw, .int wr])), (ra, .inl (cF, 99, .inr (.inr (.inr (.inr (rowF fa md)))))), (im, .inr (1, [.ref iq, .int L])), (iq, .inl (cB, n, .inl f))]) [1, 0, 2, 3] (by decide +kernel) rfl
        refine W.widen (k := 3) (n := 473) (by decide) (by decide) ?_
        exact W.zret (v := 0) hx hb hr (by first | rfl | decide | exact i_narZ (by omega)) (fun t ht hW => ⟨⟨0, (cn, fa, ga, cf, md), rfl, ⟨(by (try dsimp only); first | assumption | omega | trivial), (by (try dsimp only); first | assumption | omega | trivial), (by (try dsimp only); intro h7; exfalso; omega), (by (try dsimp only); intro h7; exfalso; omega), (by (try dsimp only); intro h7; exfalso; omega)⟩, ⟨by rw [ht]; omega, by rw [ht]; omega⟩, by rw [ht]; exact hP9, hD9⟩, hS.F ht⟩) hS.2.2 d_Reader_addNode_48
      · skip
        have g32_28 : ¬ 8 < v3.toInt := fun h8 => h_9 ((i_lt (by decide) rfl).mpr h8)
        refine lv_aload_n hx hb d_Reader_addNode_35 rfl (lv_at hl 1 rfl) ?_
        refine lv_aload_n hx hb d_Reader_addNode_36 rfl (lv_at hl 1 rfl) ?_
        refine lv_iload_n hx hb d_Reader_addNode_37 rfl (lv_at hl 3 rfl) ?_
        have hPc := hP.sub (ws' := [(h0, .inr (7, [.ref im, .ref pr, .ref ra, .int cn, .int vw, .int wr])), (im, .inr (1, [.ref iq, .int L])), (iq, .inl (cB, n, .inl f))]) [1, 2, 3] rfl
        have hDc := hD.sub (ws' := [(h0, .inr (7, [.ref im, .ref pr, .ref ra, .int cn, .int vw, .int wr])), (im, .inr (1, [.ref iq, .int L])), (iq, .inl (cB, n, .inl f))]) [1, 2, 3] (by decide +kernel) rfl
        have hFc := va_free (wc := [(h0, .inr (7, [.ref im, .ref pr, .ref ra, .int cn, .int vw, .int wr])), (im, .inr (1, [.ref iq, .int L])), (iq, .inl (cB, n, .inl f))]) hD hS hA [1, 2, 3] rfl
        have hkc : 0 ≤ 3 := by decide
        have hks : 0 ≤ 473 := by decide
        refine va_calli (va_runV (C := "DiscMaker$Reader") (As := [.int y]) (rest := [.ref h0]) ⟨hx, hb, hml, hown, hts⟩ (c3_sectorAt l D cB cI cJ cZ cN cF H.size h0 pr ra im iq n L f cn vw wr y (by (try dsimp only); first | assumption | omega | trivial) (by (try dsimp only); first | assumption | omega | trivial) (by (try dsimp only); first | assumption | omega | trivial)) (cwV 1 hts (lg_goodV k1205 k1207 k36 k123 kc_Reader_sectorAt) rfl rfl rfl (by decide +kernel) ⟨Nat.le_of_ble_eq_true rfl, Nat.le_of_ble_eq_true rfl⟩) ⟨fun a U g mk q => by obtain ⟨q0, q1, qP, qK, qN, qD⟩ := q; exact ⟨q0, q1, qP, va_K.moved (u := U) (U := U.calling g mk a) (Vm.Alike.refl U.vm) qK, qN.calling, qD⟩, va_recv hK hP (ci := 7) (q0 := 1) rfl rfl, fun U hU hW => ⟨rfl, by rw [hU], by rw [hU]; exact hPc, va_K.moved hW.alike hK, NN.warm hW hN, hDc.weaken (fun _ _ _ _ => trivial)⟩⟩ rfl rfl hl.1 rfl (lv_room (Nat.le_of_ble_eq_true rfl)) d_Reader_addNode_38 ⟨hkc, hks⟩) hS (fun q _ h => hFc q h) hFc (fun r17 u t H1 locs ht hvm hp_r17 hB hz1 hk1 hS => ?_)
        obtain ⟨hP1, hD1⟩ := hB
        rw [ht] at hP1
        obtain ⟨hP, hD⟩ := va_joinQ (X := [(ra, .inl (cF, 99, .inr (.inr (.inr (.inr (rowF fa md)))))), (h0, .inr (7, [.ref im, .ref pr, .ref ra, .int cn, .int vw, .int wr])), (im, .inr (1, [.ref iq, .int L])), (iq, .inl (cB, n, .inl f))]) (cx := [(h0, .inr (7, [.ref im, .ref pr, .ref ra, .int cn, .int vw, .int wr])), (im, .inr (1, [.ref iq, .int L])), (iq, .inl (cB, n, .inl f))]) (wr := [(ra, .inl (cF, 99, .inr (.inr (.inr (.inr (rowF fa md))))))]) (w1 := [(h0, .inr (7, [.ref im, .ref pr, .ref ra, .int cn, .int vw, .int wr])), (im, .inr (1, [.ref iq, .int L])), (iq, .inl (cB, n, .inl f))]) hP hD [1, 2, 3] [0] rfl rfl (by decide +kernel) (by decide +kernel) hk1 hFc hP1 hD1
        clear hPc hDc hFc hP1 hD1 hk1 hz1 hkc hks
        generalize H1 = H at hP hS ⊢
        have hP : va_P D CL (([(ra, .inl (cF, 99, .inr (.inr (.inr (.inr (rowF fa md)))))), (h0, .inr (7, [.ref im, .ref pr, .ref ra, .int cn, .int vw, .int wr])), (im, .inr (1, [.ref iq, .int L])), (iq, .inl (cB, n, .inl f))] : va_W) ++ (PL (FC cB fa ga cf) md)) H := hP
        have hD : va_D A (([(ra, .inl (cF, 99, .inr (.inr (.inr (.inr (rowF fa md)))))), (h0, .inr (7, [.ref im, .ref pr, .ref ra, .int cn, .int vw, .int wr])), (im, .inr (1, [.ref iq, .int L])), (iq, .inl (cB, n, .inl f))] : va_W) ++ (PL (FC cB fa ga cf) md)) := hD
        try dsimp only at hp_r17
        have hv_18 := hp_r17
        have hPc := hP.part (X := [(ra, .inl (cF, 99, .inr (.inr (.inr (.inr (rowF fa md)))))), (h0, .inr (7, [.ref im, .ref pr, .ref ra, .int cn, .int vw, .int wr])), (im, .inr (1, [.ref iq, .int L])), (iq, .inl (cB, n, .inl f))]) (cx := [(h0, .inr (7, [.ref im, .ref pr, .ref ra, .int cn, .int vw, .int wr])), (ra, .inl (cF, 99, .inr (.inr (.inr (.inr (rowF fa md))))))]) [1, 0] rfl
        have hDc := hD.part (X := [(ra, .inl (cF, 99, .inr (.inr (.inr (.inr (rowF fa md)))))), (h0, .inr (7, [.ref im, .ref pr, .ref ra, .int cn, .int vw, .int wr])), (im, .inr (1, [.ref iq, .int L])), (iq, .inl (cB, n, .inl f))]) (cx := [(h0, .inr (7, [.ref im, .ref pr, .ref ra, .int cn, .int vw, .int wr])), (ra, .inl (cF, 99, .inr (.inr (.inr (.inr (rowF fa md))))))]) [1, 0] (by decide +kernel) rfl
        have hFc := va_freeP (X := [(ra, .inl (cF, 99, .inr (.inr (.inr (.inr (rowF fa md)))))), (h0, .inr (7, [.ref im, .ref pr, .ref ra, .int cn, .int vw, .int wr])), (im, .inr (1, [.ref iq, .int L])), (iq, .inl (cB, n, .inl f))]) (cx := [(h0, .inr (7, [.ref im, .ref pr, .ref ra, .int cn, .int vw, .int wr])), (ra, .inl (cF, 99, .inr (.inr (.inr (.inr (rowF fa md))))))]) hD hS hA [1, 0] rfl
        have hkc : 0 ≤ 3 := by decide
        have hks : 0 ≤ 473 := by decide
        refine va_calli (va_runV (C := "DiscMaker$Reader") (As := [.int r17]) (rest := []) ⟨hx, hb, hml, hown, hts⟩ (c3_Reader_isTaken l D cB cI cJ cZ cN cF H.size h0 pr ra im cn vw wr fa ga cf md r17 (by (try dsimp only); first | assumption | omega | trivial) (by (try dsimp only); first | assumption | omega | trivial)) (cwV 1 hts (lg_goodV k1296 k1298 k42 k123 kc_Reader_isTaken) rfl rfl rfl (by decide +kernel) ⟨Nat.le_of_ble_eq_true rfl, Nat.le_of_ble_eq_true rfl⟩) ⟨fun a U g mk q => by obtain ⟨q0, q1, qP, qK, qN, qD⟩ := q; exact ⟨q0, q1, qP, va_K.moved (u := U) (U := U.calling g mk a) (Vm.Alike.refl U.vm) qK, qN.calling, qD⟩, va_recv hK hP (ci := 7) (q0 := 1) rfl rfl, fun U hU hW => ⟨rfl, by rw [hU], by rw [hU]; exact hPc, va_K.moved hW.alike hK, NN.warm hW hN, hDc.weaken (fun _ _ _ _ => trivial)⟩⟩ rfl rfl hl.1 rfl (lv_room (Nat.le_of_ble_eq_true rfl)) d_Reader_addNode_41 ⟨hkc, hks⟩) hS (fun q _ h => hFc q h) hFc (fun r19 u t H1 locs ht hvm hp_r19 hB hz1 hk1 hS => ?_)
        obtain ⟨hP1, hD1⟩ := hB
        rw [ht] at hP1
        obtain ⟨hP, hD⟩ := va_joinP (X := [(ra, .inl (cF, 99, .inr (.inr (.inr (.inr (rowF fa md)))))), (h0, .inr (7, [.ref im, .ref pr, .ref ra, .int cn, .int vw, .int wr])), (im, .inr (1, [.ref iq, .int L])), (iq, .inl (cB, n, .inl f))]) (cx := [(h0, .inr (7, [.ref im, .ref pr, .ref ra, .int cn, .int vw, .int wr])), (ra, .inl (cF, 99, .inr (.inr (.inr (.inr (rowF fa md))))))]) (wr := [(im, .inr (1, [.ref iq, .int L])), (iq, .inl (cB, n, .inl f))]) (rx := [(h0, .inr (7, [.ref im, .ref pr, .ref ra, .int cn, .int vw, .int wr])), (ra, .inl (cF, 99, .inr (.inr (.inr (.inr (rowF fa md))))))]) hP hD [1, 0] [2, 3] rfl rfl (by decide +kernel) (by decide +kernel) hk1 hFc hP1 hD1
        clear hPc hDc hFc hP1 hD1 hk1 hz1 hkc hks
        generalize H1 = H at hP hS ⊢
        have hP : va_P D CL (([(im, .inr (1, [.ref iq, .int L])), (iq, .inl (cB, n, .inl f)), (h0, .inr (7, [.ref im, .ref pr, .ref ra, .int cn, .int vw, .int wr])), (ra, .inl (cF, 99, .inr (.inr (.inr (.inr (rowF fa md))))))] : va_W) ++ (PL (FC cB fa ga cf) md)) H := hP
        have hD : va_D A (([(im, .inr (1, [.ref iq, .int L])), (iq, .inl (cB, n, .inl f)), (h0, .inr (7, [.ref im, .ref pr, .ref ra, .int cn, .int vw, .int wr])), (ra, .inl (cF, 99, .inr (.inr (.inr (.inr (rowF fa md))))))] : va_W) ++ (PL (FC cB fa ga cf) md)) := hD
        try dsimp only at hp_r19
        have hr_20 := hp_r19
        refine lv_if_eq (tgt := 49) hx hb d_Reader_addNode_44 (by decide) (fun h_9 => ?_) (fun h_9 => ?_)
        · skip
          have g44_36 : r19.toInt = 0 := (i_eq rfl (by decide)).mp h_9
          refine lv_aload_n hx hb d_Reader_addNode_49 rfl (lv_at hl 1 rfl) ?_
          refine lv_iload_n hx hb d_Reader_addNode_50 rfl (lv_at hl 2 rfl) ?_
          refine lv_iload_n hx hb d_Reader_addNode_51 rfl (lv_at hl 0 rfl) ?_
          refine lv_iload_n hx hb d_Reader_addNode_52 rfl (lv_at hl 3 rfl) ?_
          refine zz_know (fun hk8 hn8 => ?_)
          have hPc := hP.part (X := [(im, .inr (1, [.ref iq, .int L])), (iq, .inl (cB, n, .inl f)), (h0, .inr (7, [.ref im, .ref pr, .ref ra, .int cn, .int vw, .int wr])), (ra, .inl (cF, 99, .inr (.inr (.inr (.inr (rowF fa md))))))]) (cx := [(h0, .inr (7, [.ref im, .ref pr, .ref ra, .int cn, .int vw, .int wr])), (ra, .inl (cF, 99, .inr (.inr (.inr (.inr (rowF fa md)))))), (im, .inr (1, [.ref iq, .int L])), (iq, .inl (cB, n, .inl f))]) [2, 3, 0, 1] rfl
          have hDc := hD.part (X := [(im, .inr (1, [.ref iq, .int L])), (iq, .inl (cB, n, .inl f)), (h0, .inr (7, [.ref im, .ref pr, .ref ra, .int cn, .int vw, .int wr])), (ra, .inl (cF, 99, .inr (.inr (.inr (.inr (rowF fa md))))))]) (cx := [(h0, .inr (7, [.ref im, .ref pr, .ref ra, .int cn, .int vw, .int wr])), (ra, .inl (cF, 99, .inr (.inr (.inr (.inr (rowF fa md)))))), (im, .inr (1, [.ref iq, .int L])), (iq, .inl (cB, n, .inl f))]) [2, 3, 0, 1] (by decide +kernel) rfl
          have hFc := va_freeP (X := [(im, .inr (1, [.ref iq, .int L])), (iq, .inl (cB, n, .inl f)), (h0, .inr (7, [.ref im, .ref pr, .ref ra, .int cn, .int vw, .int wr])), (ra, .inl (cF, 99, .inr (.inr (.inr (.inr (rowF fa md))))))]) (cx := [(h0, .inr (7, [.ref im, .ref pr, .ref ra, .int cn, .int vw, .int wr])), (ra, .inl (cF, 99, .inr (.inr (.inr (.inr (rowF fa md)))))), (im, .inr (1, [.ref iq, .int L])), (iq, .inl (cB, n, .inl f))]) hD hS hA [2, 3, 0, 1] rfl
          have hkc : 3 ≤ 3 := by decide
          have hks : 473 ≤ 473 := by decide
          refine va_callv (va_runV (C := "DiscMaker$Reader") (As := [.int x, .int v3, .int y]) (rest := []) ⟨hx, hb, hml, hown, hts⟩ (c3_addRow l D cB cI cJ cZ cN cF H.size h0 pr ra im iq n L f cn vw wr fa ga cf md (tot H) x v3 y (by (try dsimp only); first | assumption | omega | trivial) (by (try dsimp only); first | assumption | omega | trivial) (by (try dsimp only); first | assumption | omega | trivial) (by (try dsimp only); first | assumption | omega | trivial) (by (try dsimp only); first | assumption | omega | trivial) (by (try dsimp only); first | assumption | omega | trivial) (by (try dsimp only); first | assumption | omega | trivial) (by (try dsimp only); first | assumption | omega | trivial)) (cwV 3 hts (lg_goodV k1214 k1216 k38 k123 kc_Reader_addRow) rfl rfl rfl (by decide +kernel) ⟨Nat.le_of_ble_eq_true rfl, Nat.le_of_ble_eq_true rfl⟩) ⟨fun a U g mk q => by obtain ⟨q0, q1, qP, qK, qN, qD, qZ0⟩ := q; exact ⟨q0, q1, qP, va_K.moved (u := U) (U := U.calling g mk a) (Vm.Alike.refl U.vm) qK, qN.calling, qD, TOT_blind qZ0⟩, va_recv hK hP (ci := 7) (q0 := 2) rfl rfl, fun U hU hW => ⟨rfl, by rw [hU], by rw [hU]; exact hPc, va_K.moved hW.alike hK, NN.warm hW hN, hDc.weaken (fun _ _ _ _ => trivial), congrArg tot hU⟩⟩ rfl rfl hl.1 rfl (lv_room (Nat.le_of_ble_eq_true rfl)) d_Reader_addNode_53 ⟨hkc, hks⟩) hS (fun q _ h => hFc q h) hFc (fun u t H1 locs ht hvm hp_r21 hB hz1 hk1 hS => ?_)
          obtain ⟨cn2_22, fa2_23, ga2_24, cf2_25, md2_26⟩ := u
          obtain ⟨hq_27, hP1, hD1⟩ := hB
          rw [ht] at hP1
          try rw [ht] at hq_27
          obtain ⟨hP, hD⟩ := va_joinP (X := [(im, .inr (1, [.ref iq, .int L])), (iq, .inl (cB, n, .inl f)), (h0, .inr (7, [.ref im, .ref pr, .ref ra, .int cn, .int vw, .int wr])), (ra, .inl (cF, 99, .inr (.inr (.inr (.inr (rowF fa md))))))]) (cx := [(h0, .inr (7, [.ref im, .ref pr, .ref ra, .int cn, .int vw, .int wr])), (ra, .inl (cF, 99, .inr (.inr (.inr (.inr (rowF fa md)))))), (im, .inr (1, [.ref iq, .int L])), (iq, .inl (cB, n, .inl f))]) (wr := []) (rx := [(h0, .inr (7, [.ref im, .ref pr, .ref ra, .int cn2_22, .int vw, .int wr])), (ra, .inl (cF, 99, .inr (.inr (.inr (.inr (rowF fa2_23 md2_26)))))), (im, .inr (1, [.ref iq, .int L])), (iq, .inl (cB, n, .inl f))]) hP hD [2, 3, 0, 1] [] rfl rfl (by decide +kernel) (by decide +kernel) hk1 hFc hP1 hD1
          clear hPc hDc hFc hP1 hD1 hk1 hz1 hkc hks
          generalize H1 = H at hP hS hq_27 ⊢
          have hP : va_P D CL (([(h0, .inr (7, [.ref im, .ref pr, .ref ra, .int cn2_22, .int vw, .int wr])), (ra, .inl (cF, 99, .inr (.inr (.inr (.inr (rowF fa2_23 md2_26)))))), (im, .inr (1, [.ref iq, .int L])), (iq, .inl (cB, n, .inl f))] : va_W) ++ (PL (FC cB fa2_23 ga2_24 cf2_25) md2_26)) H := hP
          have hD : va_D A (([(h0, .inr (7, [.ref im, .ref pr, .ref ra, .int cn2_22, .int vw, .int wr])), (ra, .inl (cF, 99, .inr (.inr (.inr (.inr (rowF fa2_23 md2_26)))))), (im, .inr (1, [.ref iq, .int L])), (iq, .inl (cB, n, .inl f))] : va_W) ++ (PL (FC cB fa2_23 ga2_24 cf2_25) md2_26)) := hD
          refine W.widen (k := 3) (n := 473) (by decide) (by decide) ?_
          try dsimp only at hp_r21
          obtain ⟨hcn2_28, hrok2_29, hnew_30⟩ := hp_r21
          refine lv_iconst (v := 1) hx hb d_Reader_addNode_56 (by decide) ?_
          have hT0 : tot s.heap = T0 := hZq
          have hP9 := hP.part (X := [(h0, .inr (7, [.ref im, .ref pr, .ref ra, .int cn2_22, .int vw, .int wr])), (ra, .inl (cF, 99, .inr (.inr (.inr (.inr (rowF fa2_23 md2_26)))))), (im, .inr (1, [.ref iq, .int L])), (iq, .inl (cB, n, .inl f))]) (cx := [(h0, .inr (7, [.ref im, .ref pr, .ref ra, .int cn2_22, .int vw, .int wr])), (ra, .inl (cF, 99, .inr (.inr (.inr (.inr (rowF fa2_23 md2_26)))))), (im, .inr (1, [.ref iq, .int L])), (iq, .inl (cB, n, .inl f))]) [0, 1, 2, 3] rfl
          have hD9 := hD.part (X := [(h0, .inr (7, [.ref im, .ref pr, .ref ra, .int cn2_22, .int vw, .int wr])), (ra, .inl (cF, 99, .inr (.inr (.inr (.inr (rowF fa2_23 md2_26)))))), (im, .inr (1, [.ref iq, .int L])), (iq, .inl (cB, n, .inl f))]) (cx := [(h0, .inr (7, [.ref im, .ref pr, .ref ra, .int cn2_22, .int vw, .int wr])), (ra, .inl (cF, 99, .inr (.inr (.inr (.inr (rowF fa2_23 md2_26)))))), (im, .inr (1, [.ref iq, .int L])), (iq, .inl (cB, n, .inl f))]) [0, 1, 2, 3] (by decide +kernel) rfl
          exact W.zret (v := 1) hx hb hr (by first | rfl | decide | exact i_narZ (by omega)) (fun t ht hW => ⟨⟨1, (cn2_22, fa2_23, ga2_24, cf2_25, md2_26), rfl, ⟨(by (try dsimp only); first | assumption | omega | trivial), (by (try dsimp only); first | assumption | omega | trivial), (by (try dsimp only); intro h7; first | (exfalso; omega) | omega | assumption | (refine ⟨?_, ?_⟩ <;> first | omega | assumption)), (fun _ => hrok2_29), (fun _ => hnew_30)⟩, ⟨by rw [ht]; omega, by rw [ht]; omega⟩, by rw [ht]; exact hP9, hD9⟩, hS.F ht⟩) hS.2.2 d_Reader_addNode_57
        · skip
          have g44_36 : ¬ r19.toInt = 0 := fun h8 => h_9 ((i_eq rfl (by decide)).mpr h8)
          refine lv_iconst (v := 0) hx hb d_Reader_addNode_47 (by decide) ?_
          have hT0 : tot s.heap = T0 := hZq
          refine zz_know (fun hk9 hn9 => ?_)
          have hP9 := hP.part (X := [(im, .inr (1, [.ref iq, .int L])), (iq, .inl (cB, n, .inl f)), (h0, .inr (7, [.ref im, .ref pr, .ref ra, .int cn, .int vw, .int wr])), (ra, .inl (cF, 99, .inr (.inr (.inr (.inr (rowF fa md))))))]) (cx := [(h0, .inr (7, [.ref im, .ref pr, .ref ra, .int cn, .int vw, .int wr])), (ra, .inl (cF, 99, .inr (.inr (.inr (.inr (rowF fa md)))))), (im, .inr (1, [.ref iq, .int L])), (iq, .inl (cB, n, .inl f))]) [2, 3, 0, 1] rfl
          have hD9 := hD.part (X := [(im, .inr (1, [.ref iq, .int L])), (iq, .inl (cB, n, .inl f)), (h0, .inr (7, [.ref im, .ref pr, .ref ra, .int cn, .int vw, .int wr])), (ra, .inl (cF, 99, .inr (.inr (.inr (.inr (rowF fa md))))))]) (cx := [(h0, .inr (7, [.ref im, .ref pr, .ref ra, .int cn, .int vw, .int wr])), (ra, .inl (cF, 99, .inr (.inr (.inr (.inr (rowF fa md)))))), (im, .inr (1, [.ref iq, .int L])), (iq, .inl (cB, n, .inl f))]) [2, 3, 0, 1] (by decide +kernel) rfl
          refine W.widen (k := 3) (n := 473) (by decide) (by decide) ?_
          exact W.zret (v := 0) hx hb hr (by first | rfl | decide | exact i_narZ (by omega)) (fun t ht hW => ⟨⟨0, (cn, fa, ga, cf, md), rfl, ⟨(by (try dsimp only); first | assumption | omega | trivial), (by (try dsimp only); first | assumption | omega | trivial), (by (try dsimp only); intro h7; exfalso; omega), (by (try dsimp only); intro h7; exfalso; omega), (by (try dsimp only); intro h7; exfalso; omega)⟩, ⟨by rw [ht]; omega, by rw [ht]; omega⟩, by rw [ht]; exact hP9, hD9⟩, hS.F ht⟩) hS.2.2 d_Reader_addNode_48
