theorem d_Maker_writeBytes_0 : decode b_Maker_writeBytes 0 = .ok (.iconst 0, 1) := by decide +kernel
theorem d_Maker_writeBytes_1 : decode b_Maker_writeBytes 1 = .ok (.istore_n 3, 1) := by decide +kernel
theorem d_Maker_writeBytes_2 : decode b_Maker_writeBytes 2 = .ok (.iload_n 3, 1) := by decide +kernel
theorem d_Maker_writeBytes_3 : decode b_Maker_writeBytes 3 = .ok (.aload_n 1, 1) := by decide +kernel
theorem d_Maker_writeBytes_4 : decode b_Maker_writeBytes 4 = .ok (.getfield 147, 3) := by decide +kernel
theorem d_Maker_writeBytes_7 : decode b_Maker_writeBytes 7 = .ok (.if_icmp .ge 33, 3) := by decide +kernel
theorem d_Maker_writeBytes_10 : decode b_Maker_writeBytes 10 = .ok (.aload_n 0, 1) := by decide +kernel
theorem d_Maker_writeBytes_11 : decode b_Maker_writeBytes 11 = .ok (.getfield 47, 3) := by decide +kernel
theorem d_Maker_writeBytes_14 : decode b_Maker_writeBytes 14 = .ok (.iload_n 2, 1) := by decide +kernel
theorem d_Maker_writeBytes_15 : decode b_Maker_writeBytes 15 = .ok (.iload_n 3, 1) := by decide +kernel
theorem d_Maker_writeBytes_16 : decode b_Maker_writeBytes 16 = .ok (.iadd, 1) := by decide +kernel
theorem d_Maker_writeBytes_17 : decode b_Maker_writeBytes 17 = .ok (.aload_n 1, 1) := by decide +kernel
theorem d_Maker_writeBytes_18 : decode b_Maker_writeBytes 18 = .ok (.getfield 153, 3) := by decide +kernel
theorem d_Maker_writeBytes_21 : decode b_Maker_writeBytes 21 = .ok (.iload_n 3, 1) := by decide +kernel
theorem d_Maker_writeBytes_22 : decode b_Maker_writeBytes 22 = .ok (.iload_n 3, 1) := by decide +kernel
theorem d_Maker_writeBytes_23 : decode b_Maker_writeBytes 23 = .ok (.imul, 1) := by decide +kernel
theorem d_Maker_writeBytes_24 : decode b_Maker_writeBytes 24 = .ok (.iadd, 1) := by decide +kernel
theorem d_Maker_writeBytes_25 : decode b_Maker_writeBytes 25 = .ok (.iload_n 3, 1) := by decide +kernel
theorem d_Maker_writeBytes_26 : decode b_Maker_writeBytes 26 = .ok (.sipush 256, 3) := by decide +kernel
theorem d_Maker_writeBytes_29 : decode b_Maker_writeBytes 29 = .ok (.idiv, 1) := by decide +kernel
theorem d_Maker_writeBytes_30 : decode b_Maker_writeBytes 30 = .ok (.iadd, 1) := by decide +kernel
theorem d_Maker_writeBytes_31 : decode b_Maker_writeBytes 31 = .ok (.invokevirtual 196, 3) := by decide +kernel
theorem d_Maker_writeBytes_34 : decode b_Maker_writeBytes 34 = .ok (.iinc 3 1, 3) := by decide +kernel
theorem d_Maker_writeBytes_37 : decode b_Maker_writeBytes 37 = .ok (.goto (-35), 3) := by decide +kernel
theorem d_Maker_writeBytes_40 : decode b_Maker_writeBytes 40 = .ok (.return_, 1) := by decide +kernel
set_option maxHeartbeats 4000000 in
set_option maxRecDepth 100000 in
theorem c3_writeBytes (l : Launch) (D : va_G) (cB cI cJ cZ cN cF : ClassId) (sz : Nat) (m0 : Nat) (tr : Nat) (im : Nat) (fi : Nat) (se : Nat) (u0 : Nat) (id : Nat) (ct : Nat) (ra : Int32) (ru : Int32) (wg : Int32) (iq : Nat) (n : Nat) (L : Int32) (f : Nat → Int32) (h0 : Nat) (kna : Nat) (kke : Nat) (kta : Nat) (so : Int32) (nu : Int32) (pa : Int32) (ab : Int32) (mo : Int32) (ow : Int32) (gr : Int32) (si : Int32) (sd : Int32) (x : Int32) (hL : 0 ≤ L.toInt ∧ L.toInt ≤ n) (hn : n ≤ 3000000) (hsi : 0 ≤ si.toInt ∧ si.toInt ≤ 4100) : Met l y_Maker_writeBytes w_Maker_writeBytes ({ frames := 1, cells := 0, slots := 0, locals := 28 }) (va_Pc [.ref m0, .ref h0, .int x] (fun U => U.heap.size = sz ∧ va_P D CL [(m0, .inr (4, [.ref tr, .ref im, .ref fi, .ref se, .ref u0, .ref id, .ref ct, .int ra, .int ru, .int wg])), (im, .inr (1, [.ref iq, .int L])), (iq, .inl (cB, n, .inl f))] U.heap ∧ va_K D CL (TY cB cI cJ cZ cN cF) U ∧ NN U ∧ va_D (fun _ => True) [(m0, .inr (4, [.ref tr, .ref im, .ref fi, .ref se, .ref u0, .ref id, .ref ct, .int ra, .int ru, .int wg])), (im, .inr (1, [.ref iq, .int L])), (iq, .inl (cB, n, .inl f))] ∧ RO D [(h0, .inr (5, [.int so, .ref kna, .ref kke, .ref kta, .int nu, .int pa, .int ab, .int mo, .int ow, .int gr, .int si, .int sd]))] (va_A [(m0, .inr (4, [.ref tr, .ref im, .ref fi, .ref se, .ref u0, .ref id, .ref ct, .int ra, .int ru, .int wg])), (im, .inr (1, [.ref iq, .int L])), (iq, .inl (cB, n, .inl f))] sz) U U.heap)) (va_Qv (fun (u : (Nat → Int32)) => True) (fun (u : (Nat → Int32)) (t : State) => match u with | g => va_P D CL [(m0, .inr (4, [.ref tr, .ref im, .ref fi, .ref se, .ref u0, .ref id, .ref ct, .int ra, .int ru, .int wg])), (im, .inr (1, [.ref iq, .int L])), (iq, .inl (cB, n, .inl g))] t.heap ∧ va_D (va_A [(m0, .inr (4, [.ref tr, .ref im, .ref fi, .ref se, .ref u0, .ref id, .ref ct, .int ra, .int ru, .int wg])), (im, .inr (1, [.ref iq, .int L])), (iq, .inl (cB, n, .inl f))] sz) [(m0, .inr (4, [.ref tr, .ref im, .ref fi, .ref se, .ref u0, .ref id, .ref ct, .int ra, .int ru, .int wg])), (im, .inr (1, [.ref iq, .int L])), (iq, .inl (cB, n, .inl g))]) (va_A [(m0, .inr (4, [.ref tr, .ref im, .ref fi, .ref se, .ref u0, .ref id, .ref ct, .int ra, .int ru, .int wg])), (im, .inr (1, [.ref iq, .int L])), (iq, .inl (cB, n, .inl f))] sz)) 0 0 (va_A [(m0, .inr (4, [.ref tr, .ref im, .ref fi, .ref se, .ref u0, .ref id, .ref ct, .int ra, .int ru, .int wg])), (im, .inr (1, [.ref iq, .int L])), (iq, .inl (cB, n, .inl f))] sz) := by
  refine Met.ofW (cc := b_Maker_writeBytes) (maxL := 4) (ret := none) (by decide +kernel) rfl ?_
  intro p e s m args below meth c s₁ B hml hv
  obtain ⟨rfl, hsz, hP, hK, hN, hD0, hZr⟩ := hv
  have hx := B.exec
  have hb := B.bytes
  have hr := B.returns
  have hts := atoms_spec (ws := w_Maker_writeBytes) B.pre
  have ht9 := fun (w : Cond) (h : w ∈ lw_g) => hts w (List.mem_cons_of_mem _ h)
  have hown : s.vm.findClass "DiscMaker$Maker" = some m.cls := findClass_of_methodNamed B.named
  have hlocks := B.notSynchronized
  subst hsz
  have hD := hD0.self (sz := s.heap.size)
  generalize hAe : va_A [(m0, .inr (4, [.ref tr, .ref im, .ref fi, .ref se, .ref u0, .ref id, .ref ct, .int ra, .int ru, .int wg])), (im, .inr (1, [.ref iq, .int L])), (iq, .inl (cB, n, .inl f))] s.heap.size = A at hD hZr ⊢
  have hA : ∀ q : Nat, s.heap.size ≤ q → A q := fun q h => by rw [← hAe]; exact Or.inr h
  have hS : va_S A s.heap s.heap [] := va_S.rf
  have hP : va_P D CL [(m0, .inr (4, [.ref tr, .ref im, .ref fi, .ref se, .ref u0, .ref id, .ref ct, .int ra, .int ru, .int wg])), (im, .inr (1, [.ref iq, .int L])), (iq, .inl (cB, n, .inl f))] s.heap := hP
  have hl := lv_entry [.ref m0, .ref h0, .int x] (n := 4) (Nat.le_of_ble_eq_true rfl)
  rw [lg_entry_eq]
  generalize (lg_sl [.ref m0, .ref h0, .int x] ++ List.replicate (4 - (lg_sl [.ref m0, .ref h0, .int x]).length) Slot.unset).toArray = ls at hl ⊢
  have hl : lv_has ls 4 [(0, .ref m0), (1, .ref h0), (2, .int x)] := hl
  have L_m1 : ((-1) : Int32).toInt = (-1) := by decide
  have L_0 : (0 : Int32).toInt = 0 := by decide
  have L_1 : (1 : Int32).toInt = 1 := by decide
  have L_256 : (256 : Int32).toInt = 256 := by decide
  refine lv_iconst (v := 0) hx hb d_Maker_writeBytes_0 (by decide) ?_
  refine lv_istore_n hx hb d_Maker_writeBytes_1 rfl hl (by decide) rfl (fun ls hl => ?_)
  have hl : lv_has ls 4 [(3, .int 0), (0, .ref m0), (1, .ref h0), (2, .int x)] := hl
  refine zz_labM (B := fun (lk : Nat) (K : Heap → List Loc → Array Slot → List Value → Prop) => ∀ (kx : Int32) (lf : Nat → Int32) (H : Heap) (locs : List Loc) (ls : Array Slot), lk = (si.toInt - kx.toInt).toNat → (0 ≤ kx.toInt ∧ kx.toInt ≤ si.toInt) → va_P D CL [(m0, .inr (4, [.ref tr, .ref im, .ref fi, .ref se, .ref u0, .ref id, .ref ct, .int ra, .int ru, .int wg])), (im, .inr (1, [.ref iq, .int L])), (iq, .inl (cB, n, .inl lf))] H → va_D A [(m0, .inr (4, [.ref tr, .ref im, .ref fi, .ref se, .ref u0, .ref id, .ref ct, .int ra, .int ru, .int wg])), (im, .inr (1, [.ref iq, .int L])), (iq, .inl (cB, n, .inl lf))] → va_S A s.heap H locs → lv_has ls 4 [(0, .ref m0), (1, .ref h0), (2, .int x), (3, .int kx)] → K H locs ls []) 2 ?_ ?_
  · skip
    intro lk ih2 kx lf H locs ls hm2 e1 hP hD hS hl
    refine lv_iload_n hx hb d_Maker_writeBytes_2 rfl (lv_at hl 3 rfl) ?_
    refine lv_aload_n hx hb d_Maker_writeBytes_3 rfl (lv_at hl 1 rfl) ?_
    have hPR := RO_at hZr hS
    refine va_getN (D := D) (ci := 5) (v := .int si) (C := "DiscMaker$Node") (T := F_Node) (N := 12) hx hb ht9 in_Node hown hK hPR 0 rfl rfl 10 (by decide) (va_Nw.use rfl (hN _ k207)) (fun _ h9 => h9) rfl d_Maker_writeBytes_4 ?_
    refine lv_icmp_ge (tgt := 40) hx hb d_Maker_writeBytes_7 (by decide) (fun h_9 => ?_) (fun h_9 => ?_)
    · skip
      have g7_6 : si.toInt ≤ kx.toInt := (i_le rfl rfl).mp h_9
      have hP9 := hP.sub (ws' := [(m0, .inr (4, [.ref tr, .ref im, .ref fi, .ref se, .ref u0, .ref id, .ref ct, .int ra, .int ru, .int wg])), (im, .inr (1, [.ref iq, .int L])), (iq, .inl (cB, n, .inl lf))]) [0, 1, 2] rfl
      have hD9 := hD.sub (ws' := [(m0, .inr (4, [.ref tr, .ref im, .ref fi, .ref se, .ref u0, .ref id, .ref ct, .int ra, .int ru, .int wg])), (im, .inr (1, [.ref iq, .int L])), (iq, .inl (cB, n, .inl lf))]) [0, 1, 2] (by decide +kernel) rfl
      exact W.vret hx hb hr (fun t ht hW => ⟨⟨lf, rfl, trivial, by rw [ht]; exact hP9, hD9⟩, hS.F ht⟩) hS.2.2 d_Maker_writeBytes_40
    · skip
      have g7_6 : ¬ si.toInt ≤ kx.toInt := fun h8 => h_9 ((i_le rfl rfl).mpr h8)
      refine lv_aload_n hx hb d_Maker_writeBytes_10 rfl (lv_at hl 0 rfl) ?_
      refine va_get (D := D) (ci := 4) (v := .ref im) (C := "DiscMaker$Maker") (T := F_Maker) (N := 10) hx hb ht9 in_Maker hown hK hP 0 rfl rfl 1 (by decide) (ht9 _ k348) (fun _ h9 => h9) rfl d_Maker_writeBytes_11 ?_
      refine lv_iload_n hx hb d_Maker_writeBytes_14 rfl (lv_at hl 2 rfl) ?_
      refine lv_iload_n hx hb d_Maker_writeBytes_15 rfl (lv_at hl 3 rfl) ?_
      refine lv_iadd hx hb d_Maker_writeBytes_16 ?_
      refine lv_topi (fun v1 e_v1 => ?_)
      refine lv_aload_n hx hb d_Maker_writeBytes_17 rfl (lv_at hl 1 rfl) ?_
      have hPR := RO_at hZr hS
      refine va_getN (D := D) (ci := 5) (v := .int sd) (C := "DiscMaker$Node") (T := F_Node) (N := 12) hx hb ht9 in_Node hown hK hPR 0 rfl rfl 11 (by decide) (va_Nw.use rfl (hN _ k209)) (fun _ h9 => h9) rfl d_Maker_writeBytes_18 ?_
      refine lv_iload_n hx hb d_Maker_writeBytes_21 rfl (lv_at hl 3 rfl) ?_
      refine lv_iload_n hx hb d_Maker_writeBytes_22 rfl (lv_at hl 3 rfl) ?_
      refine lv_imul hx hb d_Maker_writeBytes_23 ?_
      refine lv_topi (fun v2 e_v2 => ?_)
      refine lv_iadd hx hb d_Maker_writeBytes_24 ?_
      refine lv_topi (fun v3 e_v3 => ?_)
      refine lv_iload_n hx hb d_Maker_writeBytes_25 rfl (lv_at hl 3 rfl) ?_
      refine lv_sipush (v := 256) hx hb d_Maker_writeBytes_26 (by decide) ?_
      refine lv_idiv hx hb d_Maker_writeBytes_29 (by decide) ?_
      refine lv_topi (fun v4 e_v4 => ?_)
      refine lv_iadd hx hb d_Maker_writeBytes_30 ?_
      refine lv_topi (fun v5 e_v5 => ?_)
      have hPc := hP.sub (ws' := [(im, .inr (1, [.ref iq, .int L])), (iq, .inl (cB, n, .inl lf))]) [1, 2] rfl
      have hDc := hD.sub (ws' := [(im, .inr (1, [.ref iq, .int L])), (iq, .inl (cB, n, .inl lf))]) [1, 2] (by decide +kernel) rfl
      have hFc := va_free (wc := [(im, .inr (1, [.ref iq, .int L])), (iq, .inl (cB, n, .inl lf))]) hD hS hA [1, 2] rfl
      have hkc : 0 ≤ 0 := by decide
      have hks : 0 ≤ 0 := by decide
      refine va_callv (va_runV (C := "DiscMaker$Bytes") (As := [.int v1, .int v5]) (rest := []) ⟨hx, hb, hml, hown, hts⟩ (c3_put l D cB cI cJ cZ cN cF H.size im iq n L lf v1 v5 (by (try dsimp only); first | assumption | omega | trivial) (by (try dsimp only); first | assumption | omega | trivial)) (cwV 2 hts (lg_goodV k978 k912 k913 k119 kc_Bytes_put) rfl rfl rfl (by decide +kernel) ⟨Nat.le_of_ble_eq_true rfl, Nat.le_of_ble_eq_true rfl⟩) ⟨fun a U g mk q => by obtain ⟨q0, q1, qP, qK, qN, qD⟩ := q; exact ⟨q0, q1, qP, va_K.moved (u := U) (U := U.calling g mk a) (Vm.Alike.refl U.vm) qK, qN.calling, qD⟩, va_recv hK hP (ci := 1) (q0 := 1) rfl rfl, fun U hU hW => ⟨rfl, by rw [hU], by rw [hU]; exact hPc, va_K.moved hW.alike hK, NN.warm hW hN, hDc.weaken (fun _ _ _ _ => trivial)⟩⟩ rfl rfl hl.1 rfl (lv_room (Nat.le_of_ble_eq_true rfl)) d_Maker_writeBytes_31 ⟨hkc, hks⟩) hS (fun q _ h => hFc q h) hFc (fun u t H1 locs ht hvm hp_r6 hB hz1 hk1 hS => ?_)
      obtain ⟨g_7, rfl⟩ : ∃ z, z = u := ⟨_, rfl⟩
      obtain ⟨hP1, hD1⟩ := hB
      rw [ht] at hP1
      obtain ⟨hP, hD⟩ := va_join (wr := [(m0, .inr (4, [.ref tr, .ref im, .ref fi, .ref se, .ref u0, .ref id, .ref ct, .int ra, .int ru, .int wg]))]) (w1 := [(im, .inr (1, [.ref iq, .int L])), (iq, .inl (cB, n, .inl g_7))]) hP hD [1, 2] [0] rfl rfl (by decide +kernel) (by decide +kernel) hk1 hFc hP1 hD1
      clear hPc hDc hFc hP1 hD1 hk1 hz1 hkc hks
      generalize H1 = H at hP hS ⊢
      have hP : va_P D CL [(m0, .inr (4, [.ref tr, .ref im, .ref fi, .ref se, .ref u0, .ref id, .ref ct, .int ra, .int ru, .int wg])), (im, .inr (1, [.ref iq, .int L])), (iq, .inl (cB, n, .inl g_7))] H := hP
      have hD : va_D A [(m0, .inr (4, [.ref tr, .ref im, .ref fi, .ref se, .ref u0, .ref id, .ref ct, .int ra, .int ru, .int wg])), (im, .inr (1, [.ref iq, .int L])), (iq, .inl (cB, n, .inl g_7))] := hD
      obtain ⟨v8, e_v8⟩ : ∃ z : Int32, z = kx + 1 := ⟨_, rfl⟩
      refine lv_iinc (v := v8) hx hb d_Maker_writeBytes_34 hl (k := 3) rfl e_v8.symm (by decide +kernel) rfl (fun ls hl => ?_)
      have t_v8 : v8.toInt = kx.toInt + 1 := by rw [e_v8]; exact i_add rfl (by decide) (by omega) (by omega)
      have hl : lv_has ls 4 [(3, .int v8), (0, .ref m0), (1, .ref h0), (2, .int x)] := hl
      refine lv_goto (tgt := 2) hx hb d_Maker_writeBytes_37 (by decide) ?_
      have hP := hP.sub (ws' := [(m0, .inr (4, [.ref tr, .ref im, .ref fi, .ref se, .ref u0, .ref id, .ref ct, .int ra, .int ru, .int wg])), (im, .inr (1, [.ref iq, .int L])), (iq, .inl (cB, n, .inl g_7))]) [0, 1, 2] rfl
      have hD := hD.sub (ws' := [(m0, .inr (4, [.ref tr, .ref im, .ref fi, .ref se, .ref u0, .ref id, .ref ct, .int ra, .int ru, .int wg])), (im, .inr (1, [.ref iq, .int L])), (iq, .inl (cB, n, .inl g_7))]) [0, 1, 2] (by decide +kernel) rfl
      have hl := lv_sub hl [1, 2, 3, 0] rfl
      exact ih2 _ (by first | omega | (dsimp only; omega)) v8 g_7 _ _ _ rfl ((by (try dsimp only); first | assumption | omega | trivial)) hP hD hS hl
  · skip
    intro kk2
    have hP := hP.sub (ws' := [(m0, .inr (4, [.ref tr, .ref im, .ref fi, .ref se, .ref u0, .ref id, .ref ct, .int ra, .int ru, .int wg])), (im, .inr (1, [.ref iq, .int L])), (iq, .inl (cB, n, .inl f))]) [0, 1, 2] rfl
    have hD := hD.sub (ws' := [(m0, .inr (4, [.ref tr, .ref im, .ref fi, .ref se, .ref u0, .ref id, .ref ct, .int ra, .int ru, .int wg])), (im, .inr (1, [.ref iq, .int L])), (iq, .inl (cB, n, .inl f))]) [0, 1, 2] (by decide +kernel) rfl
    have hl := lv_sub hl [1, 2, 3, 0] rfl
    exact kk2 _ 0 f _ _ _ rfl ((by (try dsimp only); first | assumption | omega | trivial)) hP hD hS hl

theorem d_Maker_writeContents_0 : decode b_Maker_writeContents 0 = .ok (.iconst 0, 1) := by decide +kernel
theorem d_Maker_writeContents_1 : decode b_Maker_writeContents 1 = .ok (.istore_n 1, 1) := by decide +kernel
theorem d_Maker_writeContents_2 : decode b_Maker_writeContents 2 = .ok (.iload_n 1, 1) := by decide +kernel
theorem d_Maker_writeContents_3 : decode b_Maker_writeContents 3 = .ok (.aload_n 0, 1) := by decide +kernel
theorem d_Maker_writeContents_4 : decode b_Maker_writeContents 4 = .ok (.getfield 43, 3) := by decide +kernel
theorem d_Maker_writeContents_7 : decode b_Maker_writeContents 7 = .ok (.getfield 143, 3) := by decide +kernel
theorem d_Maker_writeContents_10 : decode b_Maker_writeContents 10 = .ok (.if_icmp .ge 41, 3) := by decide +kernel
theorem d_Maker_writeContents_13 : decode b_Maker_writeContents 13 = .ok (.aload_n 0, 1) := by decide +kernel
theorem d_Maker_writeContents_14 : decode b_Maker_writeContents 14 = .ok (.iload_n 1, 1) := by decide +kernel
theorem d_Maker_writeContents_15 : decode b_Maker_writeContents 15 = .ok (.invokevirtual 144, 3) := by decide +kernel
theorem d_Maker_writeContents_18 : decode b_Maker_writeContents 18 = .ok (.iload_n 1, 1) := by decide +kernel
theorem d_Maker_writeContents_19 : decode b_Maker_writeContents 19 = .ok (.if_icmp .ne 26, 3) := by decide +kernel
theorem d_Maker_writeContents_22 : decode b_Maker_writeContents 22 = .ok (.aload_n 0, 1) := by decide +kernel
theorem d_Maker_writeContents_23 : decode b_Maker_writeContents 23 = .ok (.aload_n 0, 1) := by decide +kernel
theorem d_Maker_writeContents_24 : decode b_Maker_writeContents 24 = .ok (.getfield 43, 3) := by decide +kernel
theorem d_Maker_writeContents_27 : decode b_Maker_writeContents 27 = .ok (.getfield 107, 3) := by decide +kernel
theorem d_Maker_writeContents_30 : decode b_Maker_writeContents 30 = .ok (.iload_n 1, 1) := by decide +kernel
theorem d_Maker_writeContents_31 : decode b_Maker_writeContents 31 = .ok (.aaload, 1) := by decide +kernel
theorem d_Maker_writeContents_32 : decode b_Maker_writeContents 32 = .ok (.aload_n 0, 1) := by decide +kernel
theorem d_Maker_writeContents_33 : decode b_Maker_writeContents 33 = .ok (.getfield 39, 3) := by decide +kernel
theorem d_Maker_writeContents_36 : decode b_Maker_writeContents 36 = .ok (.iload_n 1, 1) := by decide +kernel
theorem d_Maker_writeContents_37 : decode b_Maker_writeContents 37 = .ok (.iaload, 1) := by decide +kernel
theorem d_Maker_writeContents_38 : decode b_Maker_writeContents 38 = .ok (.sipush 2048, 3) := by decide +kernel
theorem d_Maker_writeContents_41 : decode b_Maker_writeContents 41 = .ok (.imul, 1) := by decide +kernel
theorem d_Maker_writeContents_42 : decode b_Maker_writeContents 42 = .ok (.invokevirtual 270, 3) := by decide +kernel
theorem d_Maker_writeContents_45 : decode b_Maker_writeContents 45 = .ok (.iinc 1 1, 3) := by decide +kernel
theorem d_Maker_writeContents_48 : decode b_Maker_writeContents 48 = .ok (.goto (-46), 3) := by decide +kernel
theorem d_Maker_writeContents_51 : decode b_Maker_writeContents 51 = .ok (.return_, 1) := by decide +kernel
set_option maxHeartbeats 4000000 in
set_option maxRecDepth 100000 in
theorem c3_writeContents (l : Launch) (D : va_G) (cB cI cJ cZ cN cF : ClassId) (sz : Nat) (m0 : Nat) (tr : Nat) (im : Nat) (fi : Nat) (se : Nat) (u0 : Nat) (id : Nat) (ct : Nat) (ra : Int32) (ru : Int32) (wg : Int32) (cc : Nat → Int32) (iq : Nat) (n : Nat) (L : Int32) (f : Nat → Int32) (ta : Nat) (cn : Int32) (dr : Int32) (na : Nat → Nat → Nat) (ng : Nat → Nat → Int32) (nn : Nat → Nat → Nat) (nf : Nat → Nat → Nat → Int32) (cm : Nat) (hL : 0 ≤ L.toInt ∧ L.toInt ≤ n) (hn : n ≤ 3000000) (hcn : cn.toInt = cm) (hcm : cm ≤ 40) (htok : TOK cm ng nn) : Met l y_Maker_writeContents w_Maker_writeContents ({ frames := 2, cells := 0, slots := 0, locals := 57 }) (va_Pc [.ref m0] (fun U => U.heap.size = sz ∧ va_P D CL [(m0, .inr (4, [.ref tr, .ref im, .ref fi, .ref se, .ref u0, .ref id, .ref ct, .int ra, .int ru, .int wg])), (ct, .inl (cI, 40, .inl cc)), (im, .inr (1, [.ref iq, .int L])), (iq, .inl (cB, n, .inl f))] U.heap ∧ va_K D CL (TY cB cI cJ cZ cN cF) U ∧ NN U ∧ va_D (fun _ => True) [(m0, .inr (4, [.ref tr, .ref im, .ref fi, .ref se, .ref u0, .ref id, .ref ct, .int ra, .int ru, .int wg])), (ct, .inl (cI, 40, .inl cc)), (im, .inr (1, [.ref iq, .int L])), (iq, .inl (cB, n, .inl f))] ∧ RO D (([(tr, .inr (10, [.ref ta, .int cn, .int dr])), (ta, .inl (cN, 40, .inr (.inr (.inr (.inr (rowF na cm))))))] : va_W) ++ (PL (NC cB na ng nn nf) cm)) (va_A [(m0, .inr (4, [.ref tr, .ref im, .ref fi, .ref se, .ref u0, .ref id, .ref ct, .int ra, .int ru, .int wg])), (ct, .inl (cI, 40, .inl cc)), (im, .inr (1, [.ref iq, .int L])), (iq, .inl (cB, n, .inl f))] sz) U U.heap)) (va_Qv (fun (u : (Nat → Int32)) => True) (fun (u : (Nat → Int32)) (t : State) => match u with | g => va_P D CL [(m0, .inr (4, [.ref tr, .ref im, .ref fi, .ref se, .ref u0, .ref id, .ref ct, .int ra, .int ru, .int wg])), (ct, .inl (cI, 40, .inl cc)), (im, .inr (1, [.ref iq, .int L])), (iq, .inl (cB, n, .inl g))] t.heap ∧ va_D (va_A [(m0, .inr (4, [.ref tr, .ref im, .ref fi, .ref se, .ref u0, .ref id, .ref ct, .int ra, .int ru, .int wg])), (ct, .inl (cI, 40, .inl cc)), (im, .inr (1, [.ref iq, .int L])), (iq, .inl (cB, n, .inl f))] sz) [(m0, .inr (4, [.ref tr, .ref im, .ref fi, .ref se, .ref u0, .ref id, .ref ct, .int ra, .int ru, .int wg])), (ct, .inl (cI, 40, .inl cc)), (im, .inr (1, [.ref iq, .int L])), (iq, .inl (cB, n, .inl g))]) (va_A [(m0, .inr (4, [.ref tr, .ref im, .ref fi, .ref se, .ref u0, .ref id, .ref ct, .int ra, .int ru, .int wg])), (ct, .inl (cI, 40, .inl cc)), (im, .inr (1, [.ref iq, .int L])), (iq, .inl (cB, n, .inl f))] sz)) 0 0 (va_A [(m0, .inr (4, [.ref tr, .ref im, .ref fi, .ref se, .ref u0, .ref id, .ref ct, .int ra, .int ru, .int wg])), (ct, .inl (cI, 40, .inl cc)), (im, .inr (1, [.ref iq, .int L])), (iq, .inl (cB, n, .inl f))] sz) := by
  refine Met.ofW (cc := b_Maker_writeContents) (maxL := 2) (ret := none) (by decide +kernel) rfl ?_
  intro p e s m args below meth c s₁ B hml hv
  obtain ⟨rfl, hsz, hP, hK, hN, hD0, hZr⟩ := hv
  have hx := B.exec
  have hb := B.bytes
  have hr := B.returns
  have hts := atoms_spec (ws := w_Maker_writeContents) B.pre
  have ht9 := fun (w : Cond) (h : w ∈ lw_g) => hts w (List.mem_cons_of_mem _ h)
  have hown : s.vm.findClass "DiscMaker$Maker" = some m.cls := findClass_of_methodNamed B.named
  have hlocks := B.notSynchronized
  subst hsz
  have hD := hD0.self (sz := s.heap.size)
  generalize hAe : va_A [(m0, .inr (4, [.ref tr, .ref im, .ref fi, .ref se, .ref u0, .ref id, .ref ct, .int ra, .int ru, .int wg])), (ct, .inl (cI, 40, .inl cc)), (im, .inr (1, [.ref iq, .int L])), (iq, .inl (cB, n, .inl f))] s.heap.size = A at hD hZr ⊢
  have hA : ∀ q : Nat, s.heap.size ≤ q → A q := fun q h => by rw [← hAe]; exact Or.inr h
  have hS : va_S A s.heap s.heap [] := va_S.rf
  have hP : va_P D CL [(m0, .inr (4, [.ref tr, .ref im, .ref fi, .ref se, .ref u0, .ref id, .ref ct, .int ra, .int ru, .int wg])), (ct, .inl (cI, 40, .inl cc)), (im, .inr (1, [.ref iq, .int L])), (iq, .inl (cB, n, .inl f))] s.heap := hP
  have hl := lv_entry [.ref m0] (n := 2) (Nat.le_of_ble_eq_true rfl)
  rw [lg_entry_eq]
  generalize (lg_sl [.ref m0] ++ List.replicate (2 - (lg_sl [.ref m0]).length) Slot.unset).toArray = ls at hl ⊢
  have hl : lv_has ls 2 [(0, .ref m0)] := hl
  have L_m1 : ((-1) : Int32).toInt = (-1) := by decide
  have L_0 : (0 : Int32).toInt = 0 := by decide
  have L_1 : (1 : Int32).toInt = 1 := by decide
  have L_2048 : (2048 : Int32).toInt = 2048 := by decide
  refine lv_iconst (v := 0) hx hb d_Maker_writeContents_0 (by decide) ?_
  refine lv_istore_n hx hb d_Maker_writeContents_1 rfl hl (by decide) rfl (fun ls hl => ?_)
  have hl : lv_has ls 2 [(1, .int 0), (0, .ref m0)] := hl
  refine zz_labM (B := fun (lk : Nat) (K : Heap → List Loc → Array Slot → List Value → Prop) => ∀ (kx : Int32) (lf : Nat → Int32) (H : Heap) (locs : List Loc) (ls : Array Slot), lk = (cn.toInt - kx.toInt).toNat → (0 ≤ kx.toInt ∧ kx.toInt ≤ cn.toInt) → va_P D CL [(m0, .inr (4, [.ref tr, .ref im, .ref fi, .ref se, .ref u0, .ref id, .ref ct, .int ra, .int ru, .int wg])), (ct, .inl (cI, 40, .inl cc)), (im, .inr (1, [.ref iq, .int L])), (iq, .inl (cB, n, .inl lf))] H → va_D A [(m0, .inr (4, [.ref tr, .ref im, .ref fi, .ref se, .ref u0, .ref id, .ref ct, .int ra, .int ru, .int wg])), (ct, .inl (cI, 40, .inl cc)), (im, .inr (1, [.ref iq, .int L])), (iq, .inl (cB, n, .inl lf))] → va_S A s.heap H locs → lv_has ls 2 [(0, .ref m0), (1, .int kx)] → K H locs ls []) 2 ?_ ?_
  · skip
    intro lk ih2 kx lf H locs ls hm2 e1 hP hD hS hl
    refine lv_iload_n hx hb d_Maker_writeContents_2 rfl (lv_at hl 1 rfl) ?_
    refine lv_aload_n hx hb d_Maker_writeContents_3 rfl (lv_at hl 0 rfl) ?_
    refine va_get (D := D) (ci := 4) (v := .ref tr) (C := "DiscMaker$Maker") (T := F_Maker) (N := 10) hx hb ht9 in_Maker hown hK hP 0 rfl rfl 0 (by decide) (ht9 _ k347) (fun _ h9 => h9) rfl d_Maker_writeContents_4 ?_
    have hPR := RO_at hZr hS
    refine va_getN (D := D) (ci := 10) (v := .int cn) (C := "DiscMaker$Tree") (T := F_Tree) (N := 3) hx hb ht9 in_Tree hown hK hPR 0 rfl rfl 1 (by decide) (va_Nw.use rfl (hN _ k241)) (fun _ h9 => h9) rfl d_Maker_writeContents_7 ?_
    refine lv_icmp_ge (tgt := 51) hx hb d_Maker_writeContents_10 (by decide) (fun h_9 => ?_) (fun h_9 => ?_)
    · skip
      have g10_7 : cn.toInt ≤ kx.toInt := (i_le rfl rfl).mp h_9
      have hP9 := hP.sub (ws' := [(m0, .inr (4, [.ref tr, .ref im, .ref fi, .ref se, .ref u0, .ref id, .ref ct, .int ra, .int ru, .int wg])), (ct, .inl (cI, 40, .inl cc)), (im, .inr (1, [.ref iq, .int L])), (iq, .inl (cB, n, .inl lf))]) [0, 1, 2, 3] rfl
      have hD9 := hD.sub (ws' := [(m0, .inr (4, [.ref tr, .ref im, .ref fi, .ref se, .ref u0, .ref id, .ref ct, .int ra, .int ru, .int wg])), (ct, .inl (cI, 40, .inl cc)), (im, .inr (1, [.ref iq, .int L])), (iq, .inl (cB, n, .inl lf))]) [0, 1, 2, 3] (by decide +kernel) rfl
      exact W.vret hx hb hr (fun t ht hW => ⟨⟨lf, rfl, trivial, by rw [ht]; exact hP9, hD9⟩, hS.F ht⟩) hS.2.2 d_Maker_writeContents_51
    · skip
      have g10_7 : ¬ cn.toInt ≤ kx.toInt := fun h8 => h_9 ((i_le rfl rfl).mpr h8)
      refine lv_aload_n hx hb d_Maker_writeContents_13 rfl (lv_at hl 0 rfl) ?_
      refine lv_iload_n hx hb d_Maker_writeContents_14 rfl (lv_at hl 1 rfl) ?_
      have hPc := hP.sub (ws' := [(m0, .inr (4, [.ref tr, .ref im, .ref fi, .ref se, .ref u0, .ref id, .ref ct, .int ra, .int ru, .int wg]))]) [0] rfl
      have hDc := hD.sub (ws' := [(m0, .inr (4, [.ref tr, .ref im, .ref fi, .ref se, .ref u0, .ref id, .ref ct, .int ra, .int ru, .int wg]))]) [0] (by decide +kernel) rfl
      have hFc := va_free (wc := [(m0, .inr (4, [.ref tr, .ref im, .ref fi, .ref se, .ref u0, .ref id, .ref ct, .int ra, .int ru, .int wg]))]) hD hS hA [0] rfl
      have hkc : 0 ≤ 0 := by decide
      have hks : 0 ≤ 0 := by decide
      refine va_calli (va_runV (C := "DiscMaker$Maker") (As := [.int kx]) (rest := []) ⟨hx, hb, hml, hown, hts⟩ (c3_firstWithContents l D cB cI cJ cZ cN cF H.size m0 tr im fi se u0 id ct ra ru wg ta cn dr na ng nn nf cm kx (by (try dsimp only); first | assumption | omega | trivial) (by (try dsimp only); first | assumption | omega | trivial) (by (try dsimp only); first | assumption | omega | trivial) (by (try dsimp only); first | assumption | omega | trivial)) (cwV 1 hts (lg_goodV k1077 k1079 k24 k120 kc_Maker_firstWithContents) rfl rfl rfl (by decide +kernel) ⟨Nat.le_of_ble_eq_true rfl, Nat.le_of_ble_eq_true rfl⟩) ⟨fun a U g mk q => by obtain ⟨q0, q1, qP, qK, qN, qD, qZ0⟩ := q; exact ⟨q0, q1, qP, va_K.moved (u := U) (U := U.calling g mk a) (Vm.Alike.refl U.vm) qK, qN.calling, qD, RO_blind qZ0⟩, va_recv hK hP (ci := 4) (q0 := 0) rfl rfl, fun U hU hW => ⟨rfl, by rw [hU], by rw [hU]; exact hPc, va_K.moved hW.alike hK, NN.warm hW hN, hDc.weaken (fun _ _ _ _ => trivial), (RO_app (w1 := [(tr, .inr (10, [.ref ta, .int cn, .int dr]))]) (w2 := (([(ta, .inl (cN, 40, .inr (.inr (.inr (.inr (rowF na cm))))))] : va_W) ++ (PL (NC cB na ng nn nf) cm))) (RO_pass (RO_one hZr 0 rfl) hS hFc hU) (RO_app (w1 := [(ta, .inl (cN, 40, .inr (.inr (.inr (.inr (rowF na cm))))))]) (w2 := (PL (NC cB na ng nn nf) cm)) (RO_pass (RO_one hZr 1 rfl) hS hFc hU) (RO_pass (RO_tail (X := [(tr, .inr (10, [.ref ta, .int cn, .int dr])), (ta, .inl (cN, 40, .inr (.inr (.inr (.inr (rowF na cm))))))]) hZr) hS hFc hU)))⟩⟩ rfl rfl hl.1 rfl (lv_room (Nat.le_of_ble_eq_true rfl)) d_Maker_writeContents_15 ⟨hkc, hks⟩) hS (fun q _ h => hFc q h) hFc (fun r1 u t H1 locs ht hvm hp_r1 hB hz1 hk1 hS => ?_)
      obtain ⟨hP1, hD1⟩ := hB
      rw [ht] at hP1
      obtain ⟨hP, hD⟩ := va_join (wr := [(ct, .inl (cI, 40, .inl cc)), (im, .inr (1, [.ref iq, .int L])), (iq, .inl (cB, n, .inl lf))]) (w1 := [(m0, .inr (4, [.ref tr, .ref im, .ref fi, .ref se, .ref u0, .ref id, .ref ct, .int ra, .int ru, .int wg]))]) hP hD [0] [1, 2, 3] rfl rfl (by decide +kernel) (by decide +kernel) hk1 hFc hP1 hD1
      clear hPc hDc hFc hP1 hD1 hk1 hz1 hkc hks
      generalize H1 = H at hP hS ⊢
      have hP : va_P D CL [(ct, .inl (cI, 40, .inl cc)), (im, .inr (1, [.ref iq, .int L])), (iq, .inl (cB, n, .inl lf)), (m0, .inr (4, [.ref tr, .ref im, .ref fi, .ref se, .ref u0, .ref id, .ref ct, .int ra, .int ru, .int wg]))] H := hP
      have hD : va_D A [(ct, .inl (cI, 40, .inl cc)), (im, .inr (1, [.ref iq, .int L])), (iq, .inl (cB, n, .inl lf)), (m0, .inr (4, [.ref tr, .ref im, .ref fi, .ref se, .ref u0, .ref id, .ref ct, .int ra, .int ru, .int wg]))] := hD
      try dsimp only at hp_r1
      have hr_2 := hp_r1
      refine lv_iload_n hx hb d_Maker_writeContents_18 rfl (lv_at hl 1 rfl) ?_
      refine lv_icmp_ne (tgt := 45) hx hb d_Maker_writeContents_19 (by decide) (fun h_9 => ?_) (fun h_9 => ?_)
      · skip
        have g19_13 : ¬ r1.toInt = kx.toInt := fun h8 => h_9 ((i_eq rfl rfl).mpr h8)
        obtain ⟨v3, e_v3⟩ : ∃ z : Int32, z = kx + 1 := ⟨_, rfl⟩
        refine lv_iinc (v := v3) hx hb d_Maker_writeContents_45 hl (k := 1) rfl e_v3.symm (by decide +kernel) rfl (fun ls hl => ?_)
        have t_v3 : v3.toInt = kx.toInt + 1 := by rw [e_v3]; exact i_add rfl (by decide) (by omega) (by omega)
        have hl : lv_has ls 2 [(1, .int v3), (0, .ref m0)] := hl
        refine lv_goto (tgt := 2) hx hb d_Maker_writeContents_48 (by decide) ?_
        have hP := hP.sub (ws' := [(m0, .inr (4, [.ref tr, .ref im, .ref fi, .ref se, .ref u0, .ref id, .ref ct, .int ra, .int ru, .int wg])), (ct, .inl (cI, 40, .inl cc)), (im, .inr (1, [.ref iq, .int L])), (iq, .inl (cB, n, .inl lf))]) [3, 0, 1, 2] rfl
        have hD := hD.sub (ws' := [(m0, .inr (4, [.ref tr, .ref im, .ref fi, .ref se, .ref u0, .ref id, .ref ct, .int ra, .int ru, .int wg])), (ct, .inl (cI, 40, .inl cc)), (im, .inr (1, [.ref iq, .int L])), (iq, .inl (cB, n, .inl lf))]) [3, 0, 1, 2] (by decide +kernel) rfl
        have hl := lv_sub hl [1, 0] rfl
        exact ih2 _ (by first | omega | (dsimp only; omega)) v3 lf _ _ _ rfl ((by (try dsimp only); first | assumption | omega | trivial)) hP hD hS hl
      · skip
        have g19_13 : r1.toInt = kx.toInt := (i_eq rfl rfl).mp h_9
        refine lv_aload_n hx hb d_Maker_writeContents_22 rfl (lv_at hl 0 rfl) ?_
        refine lv_aload_n hx hb d_Maker_writeContents_23 rfl (lv_at hl 0 rfl) ?_
        refine va_get (D := D) (ci := 4) (v := .ref tr) (C := "DiscMaker$Maker") (T := F_Maker) (N := 10) hx hb ht9 in_Maker hown hK hP 3 rfl rfl 0 (by decide) (ht9 _ k347) (fun _ h9 => h9) rfl d_Maker_writeContents_24 ?_
        have hPR := RO_at hZr hS
        refine va_getN (D := D) (ci := 10) (v := .ref ta) (C := "DiscMaker$Tree") (T := F_Tree) (N := 3) hx hb ht9 in_Tree hown hK hPR 0 rfl rfl 0 (by decide) (va_Nw.use rfl (hN _ k237)) (fun _ h9 => h9) rfl d_Maker_writeContents_27 ?_
        refine lv_iload_n hx hb d_Maker_writeContents_30 rfl (lv_at hl 1 rfl) ?_
        have hPR := RO_at hZr hS
        refine va_aldq hx hb hK hPR 1 4 rfl rfl (vp_in_iff.mpr ⟨by omega, by omega⟩) d_Maker_writeContents_31 ?_
        have c_hk4 := i_cl (a := kx) (by omega)
        have hk4 : kx.toNatClampNeg < cm := by omega
        have o_hk4 := htok kx.toNatClampNeg hk4
        obtain ⟨i_hj5, hj5⟩ : ∃ j : Nat, (PL (NC cB na ng nn nf) cm)[j]? = some ((na kx.toNatClampNeg 0), .inr (5, [.int (ng kx.toNatClampNeg 0), .ref (na kx.toNatClampNeg 1), .ref (na kx.toNatClampNeg 2), .ref (na kx.toNatClampNeg 3), .int (ng kx.toNatClampNeg 1), .int (ng kx.toNatClampNeg 2), .int (ng kx.toNatClampNeg 3), .int (ng kx.toNatClampNeg 4), .int (ng kx.toNatClampNeg 5), .int (ng kx.toNatClampNeg 6), .int (ng kx.toNatClampNeg 7), .int (ng kx.toNatClampNeg 8)])) := PL_get (i := 0) hk4 rfl
        obtain ⟨i_hj6, hj6⟩ : ∃ j : Nat, (PL (NC cB na ng nn nf) cm)[j]? = some ((na kx.toNatClampNeg 1), .inl (cB, (nn kx.toNatClampNeg 1), .inl (nf kx.toNatClampNeg 1))) := PL_get (i := 1) hk4 rfl
        obtain ⟨i_hj7, hj7⟩ : ∃ j : Nat, (PL (NC cB na ng nn nf) cm)[j]? = some ((na kx.toNatClampNeg 2), .inl (cB, 11, .inl (nf kx.toNatClampNeg 2))) := PL_get (i := 2) hk4 rfl
        obtain ⟨i_hj8, hj8⟩ : ∃ j : Nat, (PL (NC cB na ng nn nf) cm)[j]? = some ((na kx.toNatClampNeg 3), .inl (cB, (nn kx.toNatClampNeg 3), .inl (nf kx.toNatClampNeg 3))) := PL_get (i := 3) hk4 rfl
        refine W.eq (g2 := F0 m 32 ls [.ref (na kx.toNatClampNeg 0), .ref m0]) (by rw [show rowF na cm kx.toNatClampNeg = some (na kx.toNatClampNeg 0) from rowF_some hk4]; rfl) ?_
        refine lv_aload_n hx hb d_Maker_writeContents_32 rfl (lv_at hl 0 rfl) ?_
        refine va_get (D := D) (ci := 4) (v := .ref ct) (C := "DiscMaker$Maker") (T := F_Maker) (N := 10) hx hb ht9 in_Maker hown hK hP 3 rfl rfl 6 (by decide) (ht9 _ k353) (fun _ h9 => h9) rfl d_Maker_writeContents_33 ?_
        refine lv_iload_n hx hb d_Maker_writeContents_36 rfl (lv_at hl 1 rfl) ?_
        refine va_iald hx hb hK hP 0 1 rfl rfl (vp_in_iff.mpr ⟨by omega, by omega⟩) d_Maker_writeContents_37 ?_
        refine lv_topi (fun v9 e_v9 => ?_)
        refine lv_sipush (v := 2048) hx hb d_Maker_writeContents_38 (by decide) ?_
        refine lv_imul hx hb d_Maker_writeContents_41 ?_
        refine lv_topi (fun v10 e_v10 => ?_)
        have hPc := hP.sub (ws' := [(m0, .inr (4, [.ref tr, .ref im, .ref fi, .ref se, .ref u0, .ref id, .ref ct, .int ra, .int ru, .int wg])), (im, .inr (1, [.ref iq, .int L])), (iq, .inl (cB, n, .inl lf))]) [3, 1, 2] rfl
        have hDc := hD.sub (ws' := [(m0, .inr (4, [.ref tr, .ref im, .ref fi, .ref se, .ref u0, .ref id, .ref ct, .int ra, .int ru, .int wg])), (im, .inr (1, [.ref iq, .int L])), (iq, .inl (cB, n, .inl lf))]) [3, 1, 2] (by decide +kernel) rfl
        have hFc := va_free (wc := [(m0, .inr (4, [.ref tr, .ref im, .ref fi, .ref se, .ref u0, .ref id, .ref ct, .int ra, .int ru, .int wg])), (im, .inr (1, [.ref iq, .int L])), (iq, .inl (cB, n, .inl lf))]) hD hS hA [3, 1, 2] rfl
        have hkc : 0 ≤ 0 := by decide
        have hks : 0 ≤ 0 := by decide
        refine va_callv (va_runV (C := "DiscMaker$Maker") (As := [.ref (na kx.toNatClampNeg 0), .int v10]) (rest := []) ⟨hx, hb, hml, hown, hts⟩ (c3_writeBytes l D cB cI cJ cZ cN cF H.size m0 tr im fi se u0 id ct ra ru wg iq n L lf (na kx.toNatClampNeg 0) (na kx.toNatClampNeg 1) (na kx.toNatClampNeg 2) (na kx.toNatClampNeg 3) (ng kx.toNatClampNeg 0) (ng kx.toNatClampNeg 1) (ng kx.toNatClampNeg 2) (ng kx.toNatClampNeg 3) (ng kx.toNatClampNeg 4) (ng kx.toNatClampNeg 5) (ng kx.toNatClampNeg 6) (ng kx.toNatClampNeg 7) (ng kx.toNatClampNeg 8) v10 (by (try dsimp only); first | assumption | omega | trivial) (by (try dsimp only); first | assumption | omega | trivial) (by (try dsimp only); first | assumption | omega | trivial)) (cwV 2 hts (lg_goodV k1119 k1121 k30 k120 kc_Maker_writeBytes) rfl rfl rfl (by decide +kernel) ⟨Nat.le_of_ble_eq_true rfl, Nat.le_of_ble_eq_true rfl⟩) ⟨fun a U g mk q => by obtain ⟨q0, q1, qP, qK, qN, qD, qZ0⟩ := q; exact ⟨q0, q1, qP, va_K.moved (u := U) (U := U.calling g mk a) (Vm.Alike.refl U.vm) qK, qN.calling, qD, RO_blind qZ0⟩, va_recv hK hP (ci := 4) (q0 := 3) rfl rfl, fun U hU hW => ⟨rfl, by rw [hU], by rw [hU]; exact hPc, va_K.moved hW.alike hK, NN.warm hW hN, hDc.weaken (fun _ _ _ _ => trivial), (RO_pass (RO_one hZr _ (pix (X := [(tr, .inr (10, [.ref ta, .int cn, .int dr])), (ta, .inl (cN, 40, .inr (.inr (.inr (.inr (rowF na cm))))))]) hj5)) hS hFc hU)⟩⟩ rfl rfl hl.1 rfl (lv_room (Nat.le_of_ble_eq_true rfl)) d_Maker_writeContents_42 ⟨hkc, hks⟩) hS (fun q _ h => hFc q h) hFc (fun u t H1 locs ht hvm hp_r11 hB hz1 hk1 hS => ?_)
        obtain ⟨g_12, rfl⟩ : ∃ z, z = u := ⟨_, rfl⟩
        obtain ⟨hP1, hD1⟩ := hB
        rw [ht] at hP1
        obtain ⟨hP, hD⟩ := va_join (wr := [(ct, .inl (cI, 40, .inl cc))]) (w1 := [(m0, .inr (4, [.ref tr, .ref im, .ref fi, .ref se, .ref u0, .ref id, .ref ct, .int ra, .int ru, .int wg])), (im, .inr (1, [.ref iq, .int L])), (iq, .inl (cB, n, .inl g_12))]) hP hD [3, 1, 2] [0] rfl rfl (by decide +kernel) (by decide +kernel) hk1 hFc hP1 hD1
        clear hPc hDc hFc hP1 hD1 hk1 hz1 hkc hks
        generalize H1 = H at hP hS ⊢
        have hP : va_P D CL [(ct, .inl (cI, 40, .inl cc)), (m0, .inr (4, [.ref tr, .ref im, .ref fi, .ref se, .ref u0, .ref id, .ref ct, .int ra, .int ru, .int wg])), (im, .inr (1, [.ref iq, .int L])), (iq, .inl (cB, n, .inl g_12))] H := hP
        have hD : va_D A [(ct, .inl (cI, 40, .inl cc)), (m0, .inr (4, [.ref tr, .ref im, .ref fi, .ref se, .ref u0, .ref id, .ref ct, .int ra, .int ru, .int wg])), (im, .inr (1, [.ref iq, .int L])), (iq, .inl (cB, n, .inl g_12))] := hD
        obtain ⟨v13, e_v13⟩ : ∃ z : Int32, z = kx + 1 := ⟨_, rfl⟩
        refine lv_iinc (v := v13) hx hb d_Maker_writeContents_45 hl (k := 1) rfl e_v13.symm (by decide +kernel) rfl (fun ls hl => ?_)
        have t_v13 : v13.toInt = kx.toInt + 1 := by rw [e_v13]; exact i_add rfl (by decide) (by omega) (by omega)
        have hl : lv_has ls 2 [(1, .int v13), (0, .ref m0)] := hl
        refine lv_goto (tgt := 2) hx hb d_Maker_writeContents_48 (by decide) ?_
        have hP := hP.sub (ws' := [(m0, .inr (4, [.ref tr, .ref im, .ref fi, .ref se, .ref u0, .ref id, .ref ct, .int ra, .int ru, .int wg])), (ct, .inl (cI, 40, .inl cc)), (im, .inr (1, [.ref iq, .int L])), (iq, .inl (cB, n, .inl g_12))]) [1, 0, 2, 3] rfl
        have hD := hD.sub (ws' := [(m0, .inr (4, [.ref tr, .ref im, .ref fi, .ref se, .ref u0, .ref id, .ref ct, .int ra, .int ru, .int wg])), (ct, .inl (cI, 40, .inl cc)), (im, .inr (1, [.ref iq, .int L])), (iq, .inl (cB, n, .inl g_12))]) [1, 0, 2, 3] (by decide +kernel) rfl
        have hl := lv_sub hl [1, 0] rfl
        exact ih2 _ (by first | omega | (dsimp only; omega)) v13 g_12 _ _ _ rfl ((by (try dsimp only); first | assumption | omega | trivial)) hP hD hS hl
  · skip
    intro kk2
    have hP := hP.sub (ws' := [(m0, .inr (4, [.ref tr, .ref im, .ref fi, .ref se, .ref u0, .ref id, .ref ct, .int ra, .int ru, .int wg])), (ct, .inl (cI, 40, .inl cc)), (im, .inr (1, [.ref iq, .int L])), (iq, .inl (cB, n, .inl f))]) [0, 1, 2, 3] rfl
    have hD := hD.sub (ws' := [(m0, .inr (4, [.ref tr, .ref im, .ref fi, .ref se, .ref u0, .ref id, .ref ct, .int ra, .int ru, .int wg])), (ct, .inl (cI, 40, .inl cc)), (im, .inr (1, [.ref iq, .int L])), (iq, .inl (cB, n, .inl f))]) [0, 1, 2, 3] (by decide +kernel) rfl
    have hl := lv_sub hl [1, 0] rfl
    exact kk2 _ 0 f _ _ _ rfl ((by (try dsimp only); first | assumption | omega | trivial)) hP hD hS hl

theorem d_Maker_writePathHead_0 : decode b_Maker_writePathHead 0 = .ok (.aload_n 0, 1) := by decide +kernel
theorem d_Maker_writePathHead_1 : decode b_Maker_writePathHead 1 = .ok (.getfield 47, 3) := by decide +kernel
theorem d_Maker_writePathHead_4 : decode b_Maker_writePathHead 4 = .ok (.iload_n 1, 1) := by decide +kernel
theorem d_Maker_writePathHead_5 : decode b_Maker_writePathHead 5 = .ok (.aload_n 0, 1) := by decide +kernel
theorem d_Maker_writePathHead_6 : decode b_Maker_writePathHead 6 = .ok (.getfield 35, 3) := by decide +kernel
theorem d_Maker_writePathHead_9 : decode b_Maker_writePathHead 9 = .ok (.getfield 60, 3) := by decide +kernel
theorem d_Maker_writePathHead_12 : decode b_Maker_writePathHead 12 = .ok (.invokevirtual 196, 3) := by decide +kernel
theorem d_Maker_writePathHead_15 : decode b_Maker_writePathHead 15 = .ok (.aload_n 0, 1) := by decide +kernel
theorem d_Maker_writePathHead_16 : decode b_Maker_writePathHead 16 = .ok (.getfield 35, 3) := by decide +kernel
theorem d_Maker_writePathHead_19 : decode b_Maker_writePathHead 19 = .ok (.aload_n 0, 1) := by decide +kernel
theorem d_Maker_writePathHead_20 : decode b_Maker_writePathHead 20 = .ok (.getfield 47, 3) := by decide +kernel
theorem d_Maker_writePathHead_23 : decode b_Maker_writePathHead 23 = .ok (.iconst 0, 1) := by decide +kernel
theorem d_Maker_writePathHead_24 : decode b_Maker_writePathHead 24 = .ok (.iload_n 1, 1) := by decide +kernel
theorem d_Maker_writePathHead_25 : decode b_Maker_writePathHead 25 = .ok (.bipush 8, 2) := by decide +kernel
theorem d_Maker_writePathHead_27 : decode b_Maker_writePathHead 27 = .ok (.iadd, 1) := by decide +kernel
theorem d_Maker_writePathHead_28 : decode b_Maker_writePathHead 28 = .ok (.aload_n 0, 1) := by decide +kernel
theorem d_Maker_writePathHead_29 : decode b_Maker_writePathHead 29 = .ok (.getfield 35, 3) := by decide +kernel
theorem d_Maker_writePathHead_32 : decode b_Maker_writePathHead 32 = .ok (.getfield 60, 3) := by decide +kernel
theorem d_Maker_writePathHead_35 : decode b_Maker_writePathHead 35 = .ok (.invokevirtual 236, 3) := by decide +kernel
theorem d_Maker_writePathHead_38 : decode b_Maker_writePathHead 38 = .ok (.return_, 1) := by decide +kernel
set_option maxHeartbeats 4000000 in
set_option maxRecDepth 100000 in
theorem c3_writePathHead (l : Launch) (D : va_G) (cB cI cJ cZ cN cF : ClassId) (sz : Nat) (m0 : Nat) (tr : Nat) (im : Nat) (fi : Nat) (se : Nat) (u0 : Nat) (id : Nat) (ct : Nat) (ra : Int32) (ru : Int32) (wg : Int32) (jq : Nat) (il : Int32) (jf : Nat → Int32) (iq : Nat) (n : Nat) (L : Int32) (f : Nat → Int32) (x : Int32) (hL : 0 ≤ L.toInt ∧ L.toInt ≤ n) (hn : n ≤ 3000000) (hil : 0 ≤ il.toInt ∧ il.toInt ≤ 60) : Met l y_Maker_writePathHead w_Maker_writePathHead ({ frames := 2, cells := 0, slots := 0, locals := 59 }) (va_Pc [.ref m0, .int x] (fun U => U.heap.size = sz ∧ va_P D CL [(m0, .inr (4, [.ref tr, .ref im, .ref fi, .ref se, .ref u0, .ref id, .ref ct, .int ra, .int ru, .int wg])), (id, .inr (1, [.ref jq, .int il])), (jq, .inl (cB, 60, .inl jf)), (im, .inr (1, [.ref iq, .int L])), (iq, .inl (cB, n, .inl f))] U.heap ∧ va_K D CL (TY cB cI cJ cZ cN cF) U ∧ NN U ∧ va_D (fun _ => True) [(m0, .inr (4, [.ref tr, .ref im, .ref fi, .ref se, .ref u0, .ref id, .ref ct, .int ra, .int ru, .int wg])), (id, .inr (1, [.ref jq, .int il])), (jq, .inl (cB, 60, .inl jf)), (im, .inr (1, [.ref iq, .int L])), (iq, .inl (cB, n, .inl f))])) (va_Qv (fun (u : (Nat → Int32)) => True) (fun (u : (Nat → Int32)) (t : State) => match u with | g => va_P D CL [(m0, .inr (4, [.ref tr, .ref im, .ref fi, .ref se, .ref u0, .ref id, .ref ct, .int ra, .int ru, .int wg])), (id, .inr (1, [.ref jq, .int il])), (jq, .inl (cB, 60, .inl jf)), (im, .inr (1, [.ref iq, .int L])), (iq, .inl (cB, n, .inl g))] t.heap ∧ va_D (va_A [(m0, .inr (4, [.ref tr, .ref im, .ref fi, .ref se, .ref u0, .ref id, .ref ct, .int ra, .int ru, .int wg])), (id, .inr (1, [.ref jq, .int il])), (jq, .inl (cB, 60, .inl jf)), (im, .inr (1, [.ref iq, .int L])), (iq, .inl (cB, n, .inl f))] sz) [(m0, .inr (4, [.ref tr, .ref im, .ref fi, .ref se, .ref u0, .ref id, .ref ct, .int ra, .int ru, .int wg])), (id, .inr (1, [.ref jq, .int il])), (jq, .inl (cB, 60, .inl jf)), (im, .inr (1, [.ref iq, .int L])), (iq, .inl (cB, n, .inl g))]) (va_A [(m0, .inr (4, [.ref tr, .ref im, .ref fi, .ref se, .ref u0, .ref id, .ref ct, .int ra, .int ru, .int wg])), (id, .inr (1, [.ref jq, .int il])), (jq, .inl (cB, 60, .inl jf)), (im, .inr (1, [.ref iq, .int L])), (iq, .inl (cB, n, .inl f))] sz)) 0 0 (va_A [(m0, .inr (4, [.ref tr, .ref im, .ref fi, .ref se, .ref u0, .ref id, .ref ct, .int ra, .int ru, .int wg])), (id, .inr (1, [.ref jq, .int il])), (jq, .inl (cB, 60, .inl jf)), (im, .inr (1, [.ref iq, .int L])), (iq, .inl (cB, n, .inl f))] sz) := by
  refine Met.ofW (cc := b_Maker_writePathHead) (maxL := 2) (ret := none) (by decide +kernel) rfl ?_
  intro p e s m args below meth c s₁ B hml hv
  obtain ⟨rfl, hsz, hP, hK, hN, hD0⟩ := hv
  have hx := B.exec
  have hb := B.bytes
  have hr := B.returns
  have hts := atoms_spec (ws := w_Maker_writePathHead) B.pre
  have ht9 := fun (w : Cond) (h : w ∈ lw_g) => hts w (List.mem_cons_of_mem _ h)
  have hown : s.vm.findClass "DiscMaker$Maker" = some m.cls := findClass_of_methodNamed B.named
  have hlocks := B.notSynchronized
  subst hsz
  have hD := hD0.self (sz := s.heap.size)
  generalize hAe : va_A [(m0, .inr (4, [.ref tr, .ref im, .ref fi, .ref se, .ref u0, .ref id, .ref ct, .int ra, .int ru, .int wg])), (id, .inr (1, [.ref jq, .int il])), (jq, .inl (cB, 60, .inl jf)), (im, .inr (1, [.ref iq, .int L])), (iq, .inl (cB, n, .inl f))] s.heap.size = A at hD ⊢
  have hA : ∀ q : Nat, s.heap.size ≤ q → A q := fun q h => by rw [← hAe]; exact Or.inr h
  have hS : va_S A s.heap s.heap [] := va_S.rf
  have hP : va_P D CL [(m0, .inr (4, [.ref tr, .ref im, .ref fi, .ref se, .ref u0, .ref id, .ref ct, .int ra, .int ru, .int wg])), (id, .inr (1, [.ref jq, .int il])), (jq, .inl (cB, 60, .inl jf)), (im, .inr (1, [.ref iq, .int L])), (iq, .inl (cB, n, .inl f))] s.heap := hP
  have hl := lv_entry [.ref m0, .int x] (n := 2) (Nat.le_of_ble_eq_true rfl)
  rw [lg_entry_eq]
  generalize (lg_sl [.ref m0, .int x] ++ List.replicate (2 - (lg_sl [.ref m0, .int x]).length) Slot.unset).toArray = ls at hl ⊢
  have hl : lv_has ls 2 [(0, .ref m0), (1, .int x)] := hl
  have L_m1 : ((-1) : Int32).toInt = (-1) := by decide
  have L_0 : (0 : Int32).toInt = 0 := by decide
  have L_1 : (1 : Int32).toInt = 1 := by decide
  have L_8 : (8 : Int32).toInt = 8 := by decide
  refine lv_aload_n hx hb d_Maker_writePathHead_0 rfl (lv_at hl 0 rfl) ?_
  refine va_get (D := D) (ci := 4) (v := .ref im) (C := "DiscMaker$Maker") (T := F_Maker) (N := 10) hx hb ht9 in_Maker hown hK hP 0 rfl rfl 1 (by decide) (ht9 _ k348) (fun _ h9 => h9) rfl d_Maker_writePathHead_1 ?_
  refine lv_iload_n hx hb d_Maker_writePathHead_4 rfl (lv_at hl 1 rfl) ?_
  refine lv_aload_n hx hb d_Maker_writePathHead_5 rfl (lv_at hl 0 rfl) ?_
  refine va_get (D := D) (ci := 4) (v := .ref id) (C := "DiscMaker$Maker") (T := F_Maker) (N := 10) hx hb ht9 in_Maker hown hK hP 0 rfl rfl 5 (by decide) (ht9 _ k352) (fun _ h9 => h9) rfl d_Maker_writePathHead_6 ?_
  refine va_getN (D := D) (ci := 1) (v := .int il) (C := "DiscMaker$Bytes") (T := F_Bytes) (N := 2) hx hb ht9 in_Bytes hown hK hP 1 rfl rfl 1 (by decide) (va_Nw.use rfl (hN _ k257)) (fun _ h9 => h9) rfl d_Maker_writePathHead_9 ?_
  have hPc := hP.sub (ws' := [(im, .inr (1, [.ref iq, .int L])), (iq, .inl (cB, n, .inl f))]) [3, 4] rfl
  have hDc := hD.sub (ws' := [(im, .inr (1, [.ref iq, .int L])), (iq, .inl (cB, n, .inl f))]) [3, 4] (by decide +kernel) rfl
  have hFc := va_free (wc := [(im, .inr (1, [.ref iq, .int L])), (iq, .inl (cB, n, .inl f))]) hD hS hA [3, 4] rfl
  have hkc : 0 ≤ 0 := by decide
  have hks : 0 ≤ 0 := by decide
  refine va_callv (va_runV (C := "DiscMaker$Bytes") (As := [.int x, .int il]) (rest := []) ⟨hx, hb, hml, hown, hts⟩ (c3_put l D cB cI cJ cZ cN cF s.heap.size im iq n L f x il (by (try dsimp only); first | assumption | omega | trivial) (by (try dsimp only); first | assumption | omega | trivial)) (cwV 2 hts (lg_goodV k978 k912 k913 k119 kc_Bytes_put) rfl rfl rfl (by decide +kernel) ⟨Nat.le_of_ble_eq_true rfl, Nat.le_of_ble_eq_true rfl⟩) ⟨fun a U g mk q => by obtain ⟨q0, q1, qP, qK, qN, qD⟩ := q; exact ⟨q0, q1, qP, va_K.moved (u := U) (U := U.calling g mk a) (Vm.Alike.refl U.vm) qK, qN.calling, qD⟩, va_recv hK hP (ci := 1) (q0 := 3) rfl rfl, fun U hU hW => ⟨rfl, by rw [hU], by rw [hU]; exact hPc, va_K.moved hW.alike hK, NN.warm hW hN, hDc.weaken (fun _ _ _ _ => trivial)⟩⟩ rfl rfl hl.1 rfl (lv_room (Nat.le_of_ble_eq_true rfl)) d_Maker_writePathHead_12 ⟨hkc, hks⟩) hS (fun q _ h => hFc q h) hFc (fun u t H1 locs ht hvm hp_r1 hB hz1 hk1 hS => ?_)
  obtain ⟨g_2, rfl⟩ : ∃ z, z = u := ⟨_, rfl⟩
  obtain ⟨hP1, hD1⟩ := hB
  rw [ht] at hP1
  obtain ⟨hP, hD⟩ := va_join (wr := [(m0, .inr (4, [.ref tr, .ref im, .ref fi, .ref se, .ref u0, .ref id, .ref ct, .int ra, .int ru, .int wg])), (id, .inr (1, [.ref jq, .int il])), (jq, .inl (cB, 60, .inl jf))]) (w1 := [(im, .inr (1, [.ref iq, .int L])), (iq, .inl (cB, n, .inl g_2))]) hP hD [3, 4] [0, 1, 2] rfl rfl (by decide +kernel) (by decide +kernel) hk1 hFc hP1 hD1
  clear hPc hDc hFc hP1 hD1 hk1 hz1 hkc hks
  generalize H1 = H at hP hS ⊢
  have hP : va_P D CL [(m0, .inr (4, [.ref tr, .ref im, .ref fi, .ref se, .ref u0, .ref id, .ref ct, .int ra, .int ru, .int wg])), (id, .inr (1, [.ref jq, .int il])), (jq, .inl (cB, 60, .inl jf)), (im, .inr (1, [.ref iq, .int L])), (iq, .inl (cB, n, .inl g_2))] H := hP
  have hD : va_D A [(m0, .inr (4, [.ref tr, .ref im, .ref fi, .ref se, .ref u0, .ref id, .ref ct, .int ra, .int ru, .int wg])), (id, .inr (1, [.ref jq, .int il])), (jq, .inl (cB, 60, .inl jf)), (im, .inr (1, [.ref iq, .int L])), (iq, .inl (cB, n, .inl g_2))] := hD
  refine lv_aload_n hx hb d_Maker_writePathHead_15 rfl (lv_at hl 0 rfl) ?_
  refine va_get (D := D) (ci := 4) (v := .ref id) (C := "DiscMaker$Maker") (T := F_Maker) (N := 10) hx hb ht9 in_Maker hown hK hP 0 rfl rfl 5 (by decide) (ht9 _ k352) (fun _ h9 => h9) rfl d_Maker_writePathHead_16 ?_
  refine lv_aload_n hx hb d_Maker_writePathHead_19 rfl (lv_at hl 0 rfl) ?_
  refine va_get (D := D) (ci := 4) (v := .ref im) (C := "DiscMaker$Maker") (T := F_Maker) (N := 10) hx hb ht9 in_Maker hown hK hP 0 rfl rfl 1 (by decide) (ht9 _ k348) (fun _ h9 => h9) rfl d_Maker_writePathHead_20 ?_
  refine lv_iconst (v := 0) hx hb d_Maker_writePathHead_23 (by decide) ?_
  refine lv_iload_n hx hb d_Maker_writePathHead_24 rfl (lv_at hl 1 rfl) ?_
  refine lv_bipush (v := 8) hx hb d_Maker_writePathHead_25 (by decide) ?_
  refine lv_iadd hx hb d_Maker_writePathHead_27 ?_
  refine lv_topi (fun v3 e_v3 => ?_)
  refine lv_aload_n hx hb d_Maker_writePathHead_28 rfl (lv_at hl 0 rfl) ?_
  refine va_get (D := D) (ci := 4) (v := .ref id) (C := "DiscMaker$Maker") (T := F_Maker) (N := 10) hx hb ht9 in_Maker hown hK hP 0 rfl rfl 5 (by decide) (ht9 _ k352) (fun _ h9 => h9) rfl d_Maker_writePathHead_29 ?_
  refine va_getN (D := D) (ci := 1) (v := .int il) (C := "DiscMaker$Bytes") (T := F_Bytes) (N := 2) hx hb ht9 in_Bytes hown hK hP 1 rfl rfl 1 (by decide) (va_Nw.use rfl (hN _ k257)) (fun _ h9 => h9) rfl d_Maker_writePathHead_32 ?_
  have hPc := hP.sub (ws' := [(id, .inr (1, [.ref jq, .int il])), (jq, .inl (cB, 60, .inl jf)), (im, .inr (1, [.ref iq, .int L])), (iq, .inl (cB, n, .inl g_2))]) [1, 2, 3, 4] rfl
  have hDc := hD.sub (ws' := [(id, .inr (1, [.ref jq, .int il])), (jq, .inl (cB, 60, .inl jf)), (im, .inr (1, [.ref iq, .int L])), (iq, .inl (cB, n, .inl g_2))]) [1, 2, 3, 4] (by decide +kernel) rfl
  have hFc := va_free (wc := [(id, .inr (1, [.ref jq, .int il])), (jq, .inl (cB, 60, .inl jf)), (im, .inr (1, [.ref iq, .int L])), (iq, .inl (cB, n, .inl g_2))]) hD hS hA [1, 2, 3, 4] rfl
  have hkc : 0 ≤ 0 := by decide
  have hks : 0 ≤ 0 := by decide
  refine va_callv (va_runV (C := "DiscMaker$Bytes") (As := [.ref im, .int 0, .int v3, .int il]) (rest := []) ⟨hx, hb, hml, hown, hts⟩ (c3_copyTo l D cB cI cJ cZ cN cF H.size id jq 60 il jf im iq n L g_2 0 v3 il (by (try dsimp only); first | assumption | omega | trivial) (by (try dsimp only); first | assumption | omega | trivial) (by (try dsimp only); first | assumption | omega | trivial) (by (try dsimp only); first | assumption | omega | trivial)) (cwV 4 hts (lg_goodV k1060 k1061 k1062 k119 kc_Bytes_copyTo) rfl rfl rfl (by decide +kernel) ⟨Nat.le_of_ble_eq_true rfl, Nat.le_of_ble_eq_true rfl⟩) ⟨fun a U g mk q => by obtain ⟨q0, q1, qP, qK, qN, qD⟩ := q; exact ⟨q0, q1, qP, va_K.moved (u := U) (U := U.calling g mk a) (Vm.Alike.refl U.vm) qK, qN.calling, qD⟩, va_recv hK hP (ci := 1) (q0 := 1) rfl rfl, fun U hU hW => ⟨rfl, by rw [hU], by rw [hU]; exact hPc, va_K.moved hW.alike hK, NN.warm hW hN, hDc.weaken (fun _ _ _ _ => trivial)⟩⟩ rfl rfl hl.1 rfl (lv_room (Nat.le_of_ble_eq_true rfl)) d_Maker_writePathHead_35 ⟨hkc, hks⟩) hS (fun q _ h => hFc q h) hFc (fun u t H1 locs ht hvm hp_r4 hB hz1 hk1 hS => ?_)
  obtain ⟨g_5, rfl⟩ : ∃ z, z = u := ⟨_, rfl⟩
  obtain ⟨hP1, hD1⟩ := hB
  rw [ht] at hP1
  obtain ⟨hP, hD⟩ := va_join (wr := [(m0, .inr (4, [.ref tr, .ref im, .ref fi, .ref se, .ref u0, .ref id, .ref ct, .int ra, .int ru, .int wg]))]) (w1 := [(id, .inr (1, [.ref jq, .int il])), (jq, .inl (cB, 60, .inl jf)), (im, .inr (1, [.ref iq, .int L])), (iq, .inl (cB, n, .inl g_5))]) hP hD [1, 2, 3, 4] [0] rfl rfl (by decide +kernel) (by decide +kernel) hk1 hFc hP1 hD1
  clear hPc hDc hFc hP1 hD1 hk1 hz1 hkc hks
  generalize H1 = H at hP hS ⊢
  have hP : va_P D CL [(m0, .inr (4, [.ref tr, .ref im, .ref fi, .ref se, .ref u0, .ref id, .ref ct, .int ra, .int ru, .int wg])), (id, .inr (1, [.ref jq, .int il])), (jq, .inl (cB, 60, .inl jf)), (im, .inr (1, [.ref iq, .int L])), (iq, .inl (cB, n, .inl g_5))] H := hP
  have hD : va_D A [(m0, .inr (4, [.ref tr, .ref im, .ref fi, .ref se, .ref u0, .ref id, .ref ct, .int ra, .int ru, .int wg])), (id, .inr (1, [.ref jq, .int il])), (jq, .inl (cB, 60, .inl jf)), (im, .inr (1, [.ref iq, .int L])), (iq, .inl (cB, n, .inl g_5))] := hD
  have hP9 := hP.sub (ws' := [(m0, .inr (4, [.ref tr, .ref im, .ref fi, .ref se, .ref u0, .ref id, .ref ct, .int ra, .int ru, .int wg])), (id, .inr (1, [.ref jq, .int il])), (jq, .inl (cB, 60, .inl jf)), (im, .inr (1, [.ref iq, .int L])), (iq, .inl (cB, n, .inl g_5))]) [0, 1, 2, 3, 4] rfl
  have hD9 := hD.sub (ws' := [(m0, .inr (4, [.ref tr, .ref im, .ref fi, .ref se, .ref u0, .ref id, .ref ct, .int ra, .int ru, .int wg])), (id, .inr (1, [.ref jq, .int il])), (jq, .inl (cB, 60, .inl jf)), (im, .inr (1, [.ref iq, .int L])), (iq, .inl (cB, n, .inl g_5))]) [0, 1, 2, 3, 4] (by decide +kernel) rfl
  exact W.vret hx hb hr (fun t ht hW => ⟨⟨g_5, rfl, trivial, by rw [ht]; exact hP9, hD9⟩, hS.F ht⟩) hS.2.2 d_Maker_writePathHead_38

theorem d_Maker_writeDescriptorHead_0 : decode b_Maker_writeDescriptorHead 0 = .ok (.aload_n 0, 1) := by decide +kernel
theorem d_Maker_writeDescriptorHead_1 : decode b_Maker_writeDescriptorHead 1 = .ok (.getfield 47, 3) := by decide +kernel
theorem d_Maker_writeDescriptorHead_4 : decode b_Maker_writeDescriptorHead 4 = .ok (.iload_n 1, 1) := by decide +kernel
theorem d_Maker_writeDescriptorHead_5 : decode b_Maker_writeDescriptorHead 5 = .ok (.sipush 2048, 3) := by decide +kernel
theorem d_Maker_writeDescriptorHead_8 : decode b_Maker_writeDescriptorHead 8 = .ok (.imul, 1) := by decide +kernel
theorem d_Maker_writeDescriptorHead_9 : decode b_Maker_writeDescriptorHead 9 = .ok (.iload_n 2, 1) := by decide +kernel
theorem d_Maker_writeDescriptorHead_10 : decode b_Maker_writeDescriptorHead 10 = .ok (.invokevirtual 196, 3) := by decide +kernel
theorem d_Maker_writeDescriptorHead_13 : decode b_Maker_writeDescriptorHead 13 = .ok (.aload_n 0, 1) := by decide +kernel
theorem d_Maker_writeDescriptorHead_14 : decode b_Maker_writeDescriptorHead 14 = .ok (.getfield 47, 3) := by decide +kernel
theorem d_Maker_writeDescriptorHead_17 : decode b_Maker_writeDescriptorHead 17 = .ok (.iload_n 1, 1) := by decide +kernel
theorem d_Maker_writeDescriptorHead_18 : decode b_Maker_writeDescriptorHead 18 = .ok (.sipush 2048, 3) := by decide +kernel
theorem d_Maker_writeDescriptorHead_21 : decode b_Maker_writeDescriptorHead 21 = .ok (.imul, 1) := by decide +kernel
theorem d_Maker_writeDescriptorHead_22 : decode b_Maker_writeDescriptorHead 22 = .ok (.iconst 1, 1) := by decide +kernel
theorem d_Maker_writeDescriptorHead_23 : decode b_Maker_writeDescriptorHead 23 = .ok (.iadd, 1) := by decide +kernel
theorem d_Maker_writeDescriptorHead_24 : decode b_Maker_writeDescriptorHead 24 = .ok (.getstatic 258, 3) := by decide +kernel
theorem d_Maker_writeDescriptorHead_27 : decode b_Maker_writeDescriptorHead 27 = .ok (.invokevirtual 232, 3) := by decide +kernel
theorem d_Maker_writeDescriptorHead_30 : decode b_Maker_writeDescriptorHead 30 = .ok (.return_, 1) := by decide +kernel
set_option maxHeartbeats 4000000 in
set_option maxRecDepth 100000 in
theorem c3_writeDescriptorHead (l : Launch) (D : va_G) (cB cI cJ cZ cN cF : ClassId) (sz : Nat) (m0 : Nat) (tr : Nat) (im : Nat) (fi : Nat) (se : Nat) (u0 : Nat) (id : Nat) (ct : Nat) (ra : Int32) (ru : Int32) (wg : Int32) (iq : Nat) (n : Nat) (L : Int32) (f : Nat → Int32) (td : Nat) (ts : Nat) (tl : Nat) (gd : Nat → Int32) (gs : Nat → Int32) (gl : Nat → Int32) (x : Int32) (y : Int32) (hL : 0 ≤ L.toInt ∧ L.toInt ≤ n) (hn : n ≤ 3000000) : Met l y_Maker_writeDescriptorHead w_Maker_writeDescriptorHead ({ frames := 2, cells := 0, slots := 0, locals := 57 }) (va_Pc [.ref m0, .int x, .int y] (fun U => U.heap.size = sz ∧ va_P D CL [(m0, .inr (4, [.ref tr, .ref im, .ref fi, .ref se, .ref u0, .ref id, .ref ct, .int ra, .int ru, .int wg])), (im, .inr (1, [.ref iq, .int L])), (iq, .inl (cB, n, .inl f))] U.heap ∧ va_K D CL (TY cB cI cJ cZ cN cF) U ∧ NN U ∧ va_D (fun _ => True) [(m0, .inr (4, [.ref tr, .ref im, .ref fi, .ref se, .ref u0, .ref id, .ref ct, .int ra, .int ru, .int wg])), (im, .inr (1, [.ref iq, .int L])), (iq, .inl (cB, n, .inl f))] ∧ SZ td ts tl gd gs gl (va_A [(m0, .inr (4, [.ref tr, .ref im, .ref fi, .ref se, .ref u0, .ref id, .ref ct, .int ra, .int ru, .int wg])), (im, .inr (1, [.ref iq, .int L])), (iq, .inl (cB, n, .inl f))] sz) U U.heap)) (va_Qv (fun (u : (Nat → Int32)) => True) (fun (u : (Nat → Int32)) (t : State) => match u with | g => va_P D CL [(m0, .inr (4, [.ref tr, .ref im, .ref fi, .ref se, .ref u0, .ref id, .ref ct, .int ra, .int ru, .int wg])), (im, .inr (1, [.ref iq, .int L])), (iq, .inl (cB, n, .inl g))] t.heap ∧ va_D (va_A [(m0, .inr (4, [.ref tr, .ref im, .ref fi, .ref se, .ref u0, .ref id, .ref ct, .int ra, .int ru, .int wg])), (im, .inr (1, [.ref iq, .int L])), (iq, .inl (cB, n, .inl f))] sz) [(m0, .inr (4, [.ref tr, .ref im, .ref fi, .ref se, .ref u0, .ref id, .ref ct, .int ra, .int ru, .int wg])), (im, .inr (1, [.ref iq, .int L])), (iq, .inl (cB, n, .inl g))]) (va_A [(m0, .inr (4, [.ref tr, .ref im, .ref fi, .ref se, .ref u0, .ref id, .ref ct, .int ra, .int ru, .int wg])), (im, .inr (1, [.ref iq, .int L])), (iq, .inl (cB, n, .inl f))] sz)) 0 0 (va_A [(m0, .inr (4, [.ref tr, .ref im, .ref fi, .ref se, .ref u0, .ref id, .ref ct, .int ra, .int ru, .int wg])), (im, .inr (1, [.ref iq, .int L])), (iq, .inl (cB, n, .inl f))] sz) := by
  refine Met.ofW (cc := b_Maker_writeDescriptorHead) (maxL := 3) (ret := none) (by decide +kernel) rfl ?_
  intro p e s m args below meth c s₁ B hml hv
  obtain ⟨rfl, hsz, hP, hK, hN, hD0, hZs⟩ := hv
  have hx := B.exec
  have hb := B.bytes
  have hr := B.returns
  have hts := atoms_spec (ws := w_Maker_writeDescriptorHead) B.pre
  have ht9 := fun (w : Cond) (h : w ∈ lw_g) => hts w (List.mem_cons_of_mem _ h)
  have hown : s.vm.findClass "DiscMaker$Maker" = some m.cls := findClass_of_methodNamed B.named
  have hlocks := B.notSynchronized
  subst hsz
  have hD := hD0.self (sz := s.heap.size)
  generalize hAe : va_A [(m0, .inr (4, [.ref tr, .ref im, .ref fi, .ref se, .ref u0, .ref id, .ref ct, .int ra, .int ru, .int wg])), (im, .inr (1, [.ref iq, .int L])), (iq, .inl (cB, n, .inl f))] s.heap.size = A at hD hZs ⊢
  have hA : ∀ q : Nat, s.heap.size ≤ q → A q := fun q h => by rw [← hAe]; exact Or.inr h
  have hS : va_S A s.heap s.heap [] := va_S.rf
  have hP : va_P D CL [(m0, .inr (4, [.ref tr, .ref im, .ref fi, .ref se, .ref u0, .ref id, .ref ct, .int ra, .int ru, .int wg])), (im, .inr (1, [.ref iq, .int L])), (iq, .inl (cB, n, .inl f))] s.heap := hP
  have hl := lv_entry [.ref m0, .int x, .int y] (n := 3) (Nat.le_of_ble_eq_true rfl)
  rw [lg_entry_eq]
  generalize (lg_sl [.ref m0, .int x, .int y] ++ List.replicate (3 - (lg_sl [.ref m0, .int x, .int y]).length) Slot.unset).toArray = ls at hl ⊢
  have hl : lv_has ls 3 [(0, .ref m0), (1, .int x), (2, .int y)] := hl
  have L_m1 : ((-1) : Int32).toInt = (-1) := by decide
  have L_0 : (0 : Int32).toInt = 0 := by decide
  have L_1 : (1 : Int32).toInt = 1 := by decide
  have L_2048 : (2048 : Int32).toInt = 2048 := by decide
  refine lv_aload_n hx hb d_Maker_writeDescriptorHead_0 rfl (lv_at hl 0 rfl) ?_
  refine va_get (D := D) (ci := 4) (v := .ref im) (C := "DiscMaker$Maker") (T := F_Maker) (N := 10) hx hb ht9 in_Maker hown hK hP 0 rfl rfl 1 (by decide) (ht9 _ k348) (fun _ h9 => h9) rfl d_Maker_writeDescriptorHead_1 ?_
  refine lv_iload_n hx hb d_Maker_writeDescriptorHead_4 rfl (lv_at hl 1 rfl) ?_
  refine lv_sipush (v := 2048) hx hb d_Maker_writeDescriptorHead_5 (by decide) ?_
  refine lv_imul hx hb d_Maker_writeDescriptorHead_8 ?_
  refine lv_topi (fun v1 e_v1 => ?_)
  refine lv_iload_n hx hb d_Maker_writeDescriptorHead_9 rfl (lv_at hl 2 rfl) ?_
  have hPc := hP.sub (ws' := [(im, .inr (1, [.ref iq, .int L])), (iq, .inl (cB, n, .inl f))]) [1, 2] rfl
  have hDc := hD.sub (ws' := [(im, .inr (1, [.ref iq, .int L])), (iq, .inl (cB, n, .inl f))]) [1, 2] (by decide +kernel) rfl
  have hFc := va_free (wc := [(im, .inr (1, [.ref iq, .int L])), (iq, .inl (cB, n, .inl f))]) hD hS hA [1, 2] rfl
  have hkc : 0 ≤ 0 := by decide
  have hks : 0 ≤ 0 := by decide
  refine va_callv (va_runV (C := "DiscMaker$Bytes") (As := [.int v1, .int y]) (rest := []) ⟨hx, hb, hml, hown, hts⟩ (c3_put l D cB cI cJ cZ cN cF s.heap.size im iq n L f v1 y (by (try dsimp only); first | assumption | omega | trivial) (by (try dsimp only); first | assumption | omega | trivial)) (cwV 2 hts (lg_goodV k978 k912 k913 k119 kc_Bytes_put) rfl rfl rfl (by decide +kernel) ⟨Nat.le_of_ble_eq_true rfl, Nat.le_of_ble_eq_true rfl⟩) ⟨fun a U g mk q => by obtain ⟨q0, q1, qP, qK, qN, qD⟩ := q; exact ⟨q0, q1, qP, va_K.moved (u := U) (U := U.calling g mk a) (Vm.Alike.refl U.vm) qK, qN.calling, qD⟩, va_recv hK hP (ci := 1) (q0 := 1) rfl rfl, fun U hU hW => ⟨rfl, by rw [hU], by rw [hU]; exact hPc, va_K.moved hW.alike hK, NN.warm hW hN, hDc.weaken (fun _ _ _ _ => trivial)⟩⟩ rfl rfl hl.1 rfl (lv_room (Nat.le_of_ble_eq_true rfl)) d_Maker_writeDescriptorHead_10 ⟨hkc, hks⟩) hS (fun q _ h => hFc q h) hFc (fun u t H1 locs ht hvm hp_r2 hB hz1 hk1 hS => ?_)
  obtain ⟨g_3, rfl⟩ : ∃ z, z = u := ⟨_, rfl⟩
  obtain ⟨hP1, hD1⟩ := hB
  rw [ht] at hP1
  obtain ⟨hP, hD⟩ := va_join (wr := [(m0, .inr (4, [.ref tr, .ref im, .ref fi, .ref se, .ref u0, .ref id, .ref ct, .int ra, .int ru, .int wg]))]) (w1 := [(im, .inr (1, [.ref iq, .int L])), (iq, .inl (cB, n, .inl g_3))]) hP hD [1, 2] [0] rfl rfl (by decide +kernel) (by decide +kernel) hk1 hFc hP1 hD1
  clear hPc hDc hFc hP1 hD1 hk1 hz1 hkc hks
  generalize H1 = H at hP hS ⊢
  have hP : va_P D CL [(m0, .inr (4, [.ref tr, .ref im, .ref fi, .ref se, .ref u0, .ref id, .ref ct, .int ra, .int ru, .int wg])), (im, .inr (1, [.ref iq, .int L])), (iq, .inl (cB, n, .inl g_3))] H := hP
  have hD : va_D A [(m0, .inr (4, [.ref tr, .ref im, .ref fi, .ref se, .ref u0, .ref id, .ref ct, .int ra, .int ru, .int wg])), (im, .inr (1, [.ref iq, .int L])), (iq, .inl (cB, n, .inl g_3))] := hD
  refine lv_aload_n hx hb d_Maker_writeDescriptorHead_13 rfl (lv_at hl 0 rfl) ?_
  refine va_get (D := D) (ci := 4) (v := .ref im) (C := "DiscMaker$Maker") (T := F_Maker) (N := 10) hx hb ht9 in_Maker hown hK hP 0 rfl rfl 1 (by decide) (ht9 _ k348) (fun _ h9 => h9) rfl d_Maker_writeDescriptorHead_14 ?_
  refine lv_iload_n hx hb d_Maker_writeDescriptorHead_17 rfl (lv_at hl 1 rfl) ?_
  refine lv_sipush (v := 2048) hx hb d_Maker_writeDescriptorHead_18 (by decide) ?_
  refine lv_imul hx hb d_Maker_writeDescriptorHead_21 ?_
  refine lv_topi (fun v4 e_v4 => ?_)
  refine lv_iconst (v := 1) hx hb d_Maker_writeDescriptorHead_22 (by decide) ?_
  refine lv_iadd hx hb d_Maker_writeDescriptorHead_23 ?_
  refine lv_topi (fun v5 e_v5 => ?_)
  refine va_getsN (C := "DiscMaker") (n := "STANDARD") (d := "[B") (v := .ref ts) hx hb (hZs.2.1.1) hS hown (va_Nw.use rfl (hN _ k1107)) (fun _ h9 => h9) d_Maker_writeDescriptorHead_24 ?_
  have hPc := hP.sub (ws' := [(im, .inr (1, [.ref iq, .int L])), (iq, .inl (cB, n, .inl g_3))]) [1, 2] rfl
  have hDc := hD.sub (ws' := [(im, .inr (1, [.ref iq, .int L])), (iq, .inl (cB, n, .inl g_3))]) [1, 2] (by decide +kernel) rfl
  have hFc := va_free (wc := [(im, .inr (1, [.ref iq, .int L])), (iq, .inl (cB, n, .inl g_3))]) hD hS hA [1, 2] rfl
  have hkc : 0 ≤ 0 := by decide
  have hks : 0 ≤ 0 := by decide
  refine va_callv (va_runV (C := "DiscMaker$Bytes") (As := [.int v5, .ref ts]) (rest := []) ⟨hx, hb, hml, hown, hts⟩ (c3_putRowT l D cB cI cJ cZ cN cF H.size im iq n L g_3 ts 6 gs v5 (by (try dsimp only); first | assumption | omega | trivial) (by (try dsimp only); first | assumption | omega | trivial) (by (try dsimp only); first | assumption | omega | trivial)) (cwV 2 hts (lg_goodV k1059 k1031 k1032 k119 kc_Bytes_putRow) rfl rfl rfl (by decide +kernel) ⟨Nat.le_of_ble_eq_true rfl, Nat.le_of_ble_eq_true rfl⟩) ⟨fun a U g mk q => by obtain ⟨q0, q1, qP, qK, qN, qD, qZ0⟩ := q; exact ⟨q0, q1, qP, va_K.moved (u := U) (U := U.calling g mk a) (Vm.Alike.refl U.vm) qK, qN.calling, qD, zT_blind qZ0⟩, va_recv hK hP (ci := 1) (q0 := 1) rfl rfl, fun U hU hW => ⟨rfl, by rw [hU], by rw [hU]; exact hPc, va_K.moved hW.alike hK, NN.warm hW hN, hDc.weaken (fun _ _ _ _ => trivial), zT_pass hZs.2.1.2 hS hFc hW.alike hU⟩⟩ rfl rfl hl.1 rfl (lv_room (Nat.le_of_ble_eq_true rfl)) d_Maker_writeDescriptorHead_27 ⟨hkc, hks⟩) hS (fun q _ h => hFc q h) hFc (fun u t H1 locs ht hvm hp_r6 hB hz1 hk1 hS => ?_)
  obtain ⟨g_7, rfl⟩ : ∃ z, z = u := ⟨_, rfl⟩
  obtain ⟨hP1, hD1⟩ := hB
  rw [ht] at hP1
  obtain ⟨hP, hD⟩ := va_join (wr := [(m0, .inr (4, [.ref tr, .ref im, .ref fi, .ref se, .ref u0, .ref id, .ref ct, .int ra, .int ru, .int wg]))]) (w1 := [(im, .inr (1, [.ref iq, .int L])), (iq, .inl (cB, n, .inl g_7))]) hP hD [1, 2] [0] rfl rfl (by decide +kernel) (by decide +kernel) hk1 hFc hP1 hD1
  clear hPc hDc hFc hP1 hD1 hk1 hz1 hkc hks
  generalize H1 = H at hP hS ⊢
  have hP : va_P D CL [(m0, .inr (4, [.ref tr, .ref im, .ref fi, .ref se, .ref u0, .ref id, .ref ct, .int ra, .int ru, .int wg])), (im, .inr (1, [.ref iq, .int L])), (iq, .inl (cB, n, .inl g_7))] H := hP
  have hD : va_D A [(m0, .inr (4, [.ref tr, .ref im, .ref fi, .ref se, .ref u0, .ref id, .ref ct, .int ra, .int ru, .int wg])), (im, .inr (1, [.ref iq, .int L])), (iq, .inl (cB, n, .inl g_7))] := hD
  have hP9 := hP.sub (ws' := [(m0, .inr (4, [.ref tr, .ref im, .ref fi, .ref se, .ref u0, .ref id, .ref ct, .int ra, .int ru, .int wg])), (im, .inr (1, [.ref iq, .int L])), (iq, .inl (cB, n, .inl g_7))]) [0, 1, 2] rfl
  have hD9 := hD.sub (ws' := [(m0, .inr (4, [.ref tr, .ref im, .ref fi, .ref se, .ref u0, .ref id, .ref ct, .int ra, .int ru, .int wg])), (im, .inr (1, [.ref iq, .int L])), (iq, .inl (cB, n, .inl g_7))]) [0, 1, 2] (by decide +kernel) rfl
  exact W.vret hx hb hr (fun t ht hW => ⟨⟨g_7, rfl, trivial, by rw [ht]; exact hP9, hD9⟩, hS.F ht⟩) hS.2.2 d_Maker_writeDescriptorHead_30

theorem d_Maker_writePathTables_0 : decode b_Maker_writePathTables 0 = .ok (.aload_n 1, 1) := by decide +kernel
theorem d_Maker_writePathTables_1 : decode b_Maker_writePathTables 1 = .ok (.getfield 246, 3) := by decide +kernel
theorem d_Maker_writePathTables_4 : decode b_Maker_writePathTables 4 = .ok (.sipush 2048, 3) := by decide +kernel
theorem d_Maker_writePathTables_7 : decode b_Maker_writePathTables 7 = .ok (.imul, 1) := by decide +kernel
theorem d_Maker_writePathTables_8 : decode b_Maker_writePathTables 8 = .ok (.istore_n 2, 1) := by decide +kernel
theorem d_Maker_writePathTables_9 : decode b_Maker_writePathTables 9 = .ok (.iload_n 2, 1) := by decide +kernel
theorem d_Maker_writePathTables_10 : decode b_Maker_writePathTables 10 = .ok (.sipush 2048, 3) := by decide +kernel
theorem d_Maker_writePathTables_13 : decode b_Maker_writePathTables 13 = .ok (.iadd, 1) := by decide +kernel
theorem d_Maker_writePathTables_14 : decode b_Maker_writePathTables 14 = .ok (.istore_n 3, 1) := by decide +kernel
theorem d_Maker_writePathTables_15 : decode b_Maker_writePathTables 15 = .ok (.iconst 0, 1) := by decide +kernel
theorem d_Maker_writePathTables_16 : decode b_Maker_writePathTables 16 = .ok (.istore 4, 2) := by decide +kernel
theorem d_Maker_writePathTables_18 : decode b_Maker_writePathTables 18 = .ok (.iconst 0, 1) := by decide +kernel
theorem d_Maker_writePathTables_19 : decode b_Maker_writePathTables 19 = .ok (.istore 5, 2) := by decide +kernel
theorem d_Maker_writePathTables_21 : decode b_Maker_writePathTables 21 = .ok (.iload 5, 2) := by decide +kernel
theorem d_Maker_writePathTables_23 : decode b_Maker_writePathTables 23 = .ok (.aload_n 1, 1) := by decide +kernel
theorem d_Maker_writePathTables_24 : decode b_Maker_writePathTables 24 = .ok (.getfield 104, 3) := by decide +kernel
theorem d_Maker_writePathTables_27 : decode b_Maker_writePathTables 27 = .ok (.if_icmp .ge 178, 3) := by decide +kernel
theorem d_Maker_writePathTables_30 : decode b_Maker_writePathTables 30 = .ok (.aload_n 0, 1) := by decide +kernel
theorem d_Maker_writePathTables_31 : decode b_Maker_writePathTables 31 = .ok (.getfield 43, 3) := by decide +kernel
theorem d_Maker_writePathTables_34 : decode b_Maker_writePathTables 34 = .ok (.getfield 107, 3) := by decide +kernel
theorem d_Maker_writePathTables_37 : decode b_Maker_writePathTables 37 = .ok (.aload_n 1, 1) := by decide +kernel
theorem d_Maker_writePathTables_38 : decode b_Maker_writePathTables 38 = .ok (.getfield 113, 3) := by decide +kernel
theorem d_Maker_writePathTables_41 : decode b_Maker_writePathTables 41 = .ok (.iload 5, 2) := by decide +kernel
theorem d_Maker_writePathTables_43 : decode b_Maker_writePathTables 43 = .ok (.iaload, 1) := by decide +kernel
theorem d_Maker_writePathTables_44 : decode b_Maker_writePathTables 44 = .ok (.aaload, 1) := by decide +kernel
theorem d_Maker_writePathTables_45 : decode b_Maker_writePathTables 45 = .ok (.astore 6, 2) := by decide +kernel
theorem d_Maker_writePathTables_47 : decode b_Maker_writePathTables 47 = .ok (.aload_n 0, 1) := by decide +kernel
theorem d_Maker_writePathTables_48 : decode b_Maker_writePathTables 48 = .ok (.aload_n 1, 1) := by decide +kernel
theorem d_Maker_writePathTables_49 : decode b_Maker_writePathTables 49 = .ok (.aload 6, 2) := by decide +kernel
theorem d_Maker_writePathTables_51 : decode b_Maker_writePathTables 51 = .ok (.aload 6, 2) := by decide +kernel
theorem d_Maker_writePathTables_53 : decode b_Maker_writePathTables 53 = .ok (.getfield 134, 3) := by decide +kernel
theorem d_Maker_writePathTables_56 : decode b_Maker_writePathTables 56 = .ok (.ifCond .ne 7, 3) := by decide +kernel
theorem d_Maker_writePathTables_59 : decode b_Maker_writePathTables 59 = .ok (.iconst 0, 1) := by decide +kernel
theorem d_Maker_writePathTables_60 : decode b_Maker_writePathTables 60 = .ok (.goto 4, 3) := by decide +kernel
theorem d_Maker_writePathTables_63 : decode b_Maker_writePathTables 63 = .ok (.iconst 2, 1) := by decide +kernel
theorem d_Maker_writePathTables_64 : decode b_Maker_writePathTables 64 = .ok (.invokevirtual 156, 3) := by decide +kernel
theorem d_Maker_writePathTables_67 : decode b_Maker_writePathTables 67 = .ok (.aload_n 0, 1) := by decide +kernel
theorem d_Maker_writePathTables_68 : decode b_Maker_writePathTables 68 = .ok (.iload_n 2, 1) := by decide +kernel
theorem d_Maker_writePathTables_69 : decode b_Maker_writePathTables 69 = .ok (.iload 4, 2) := by decide +kernel
theorem d_Maker_writePathTables_71 : decode b_Maker_writePathTables 71 = .ok (.iadd, 1) := by decide +kernel
theorem d_Maker_writePathTables_72 : decode b_Maker_writePathTables 72 = .ok (.invokevirtual 249, 3) := by decide +kernel
theorem d_Maker_writePathTables_75 : decode b_Maker_writePathTables 75 = .ok (.aload_n 0, 1) := by decide +kernel
theorem d_Maker_writePathTables_76 : decode b_Maker_writePathTables 76 = .ok (.iload_n 3, 1) := by decide +kernel
theorem d_Maker_writePathTables_77 : decode b_Maker_writePathTables 77 = .ok (.iload 4, 2) := by decide +kernel
theorem d_Maker_writePathTables_79 : decode b_Maker_writePathTables 79 = .ok (.iadd, 1) := by decide +kernel
theorem d_Maker_writePathTables_80 : decode b_Maker_writePathTables 80 = .ok (.invokevirtual 249, 3) := by decide +kernel
theorem d_Maker_writePathTables_83 : decode b_Maker_writePathTables 83 = .ok (.aload_n 0, 1) := by decide +kernel
theorem d_Maker_writePathTables_84 : decode b_Maker_writePathTables 84 = .ok (.getfield 47, 3) := by decide +kernel
theorem d_Maker_writePathTables_87 : decode b_Maker_writePathTables 87 = .ok (.iload_n 2, 1) := by decide +kernel
theorem d_Maker_writePathTables_88 : decode b_Maker_writePathTables 88 = .ok (.iload 4, 2) := by decide +kernel
theorem d_Maker_writePathTables_90 : decode b_Maker_writePathTables 90 = .ok (.iadd, 1) := by decide +kernel
theorem d_Maker_writePathTables_91 : decode b_Maker_writePathTables 91 = .ok (.iconst 2, 1) := by decide +kernel
theorem d_Maker_writePathTables_92 : decode b_Maker_writePathTables 92 = .ok (.iadd, 1) := by decide +kernel
theorem d_Maker_writePathTables_93 : decode b_Maker_writePathTables 93 = .ok (.aload_n 1, 1) := by decide +kernel
theorem d_Maker_writePathTables_94 : decode b_Maker_writePathTables 94 = .ok (.getfield 137, 3) := by decide +kernel
theorem d_Maker_writePathTables_97 : decode b_Maker_writePathTables 97 = .ok (.aload 6, 2) := by decide +kernel
theorem d_Maker_writePathTables_99 : decode b_Maker_writePathTables 99 = .ok (.getfield 134, 3) := by decide +kernel
theorem d_Maker_writePathTables_102 : decode b_Maker_writePathTables 102 = .ok (.iaload, 1) := by decide +kernel
theorem d_Maker_writePathTables_103 : decode b_Maker_writePathTables 103 = .ok (.iconst 4, 1) := by decide +kernel
theorem d_Maker_writePathTables_104 : decode b_Maker_writePathTables 104 = .ok (.invokevirtual 252, 3) := by decide +kernel
theorem d_Maker_writePathTables_107 : decode b_Maker_writePathTables 107 = .ok (.aload_n 0, 1) := by decide +kernel
theorem d_Maker_writePathTables_108 : decode b_Maker_writePathTables 108 = .ok (.getfield 47, 3) := by decide +kernel
theorem d_Maker_writePathTables_111 : decode b_Maker_writePathTables 111 = .ok (.iload_n 3, 1) := by decide +kernel
theorem d_Maker_writePathTables_112 : decode b_Maker_writePathTables 112 = .ok (.iload 4, 2) := by decide +kernel
theorem d_Maker_writePathTables_114 : decode b_Maker_writePathTables 114 = .ok (.iadd, 1) := by decide +kernel
theorem d_Maker_writePathTables_115 : decode b_Maker_writePathTables 115 = .ok (.iconst 2, 1) := by decide +kernel
theorem d_Maker_writePathTables_116 : decode b_Maker_writePathTables 116 = .ok (.iadd, 1) := by decide +kernel
theorem d_Maker_writePathTables_117 : decode b_Maker_writePathTables 117 = .ok (.aload_n 1, 1) := by decide +kernel
theorem d_Maker_writePathTables_118 : decode b_Maker_writePathTables 118 = .ok (.getfield 137, 3) := by decide +kernel
theorem d_Maker_writePathTables_121 : decode b_Maker_writePathTables 121 = .ok (.aload 6, 2) := by decide +kernel
theorem d_Maker_writePathTables_123 : decode b_Maker_writePathTables 123 = .ok (.getfield 134, 3) := by decide +kernel
theorem d_Maker_writePathTables_126 : decode b_Maker_writePathTables 126 = .ok (.iaload, 1) := by decide +kernel
theorem d_Maker_writePathTables_127 : decode b_Maker_writePathTables 127 = .ok (.iconst 4, 1) := by decide +kernel
theorem d_Maker_writePathTables_128 : decode b_Maker_writePathTables 128 = .ok (.invokevirtual 243, 3) := by decide +kernel
theorem d_Maker_writePathTables_131 : decode b_Maker_writePathTables 131 = .ok (.aload_n 0, 1) := by decide +kernel
theorem d_Maker_writePathTables_132 : decode b_Maker_writePathTables 132 = .ok (.getfield 47, 3) := by decide +kernel
theorem d_Maker_writePathTables_135 : decode b_Maker_writePathTables 135 = .ok (.iload_n 2, 1) := by decide +kernel
theorem d_Maker_writePathTables_136 : decode b_Maker_writePathTables 136 = .ok (.iload 4, 2) := by decide +kernel
theorem d_Maker_writePathTables_138 : decode b_Maker_writePathTables 138 = .ok (.iadd, 1) := by decide +kernel
theorem d_Maker_writePathTables_139 : decode b_Maker_writePathTables 139 = .ok (.bipush 6, 2) := by decide +kernel
theorem d_Maker_writePathTables_141 : decode b_Maker_writePathTables 141 = .ok (.iadd, 1) := by decide +kernel
theorem d_Maker_writePathTables_142 : decode b_Maker_writePathTables 142 = .ok (.aload_n 1, 1) := by decide +kernel
theorem d_Maker_writePathTables_143 : decode b_Maker_writePathTables 143 = .ok (.getfield 255, 3) := by decide +kernel
theorem d_Maker_writePathTables_146 : decode b_Maker_writePathTables 146 = .ok (.aload 6, 2) := by decide +kernel
theorem d_Maker_writePathTables_148 : decode b_Maker_writePathTables 148 = .ok (.getfield 123, 3) := by decide +kernel
theorem d_Maker_writePathTables_151 : decode b_Maker_writePathTables 151 = .ok (.iaload, 1) := by decide +kernel
theorem d_Maker_writePathTables_152 : decode b_Maker_writePathTables 152 = .ok (.iconst 2, 1) := by decide +kernel
theorem d_Maker_writePathTables_153 : decode b_Maker_writePathTables 153 = .ok (.invokevirtual 252, 3) := by decide +kernel
theorem d_Maker_writePathTables_156 : decode b_Maker_writePathTables 156 = .ok (.aload_n 0, 1) := by decide +kernel
theorem d_Maker_writePathTables_157 : decode b_Maker_writePathTables 157 = .ok (.getfield 47, 3) := by decide +kernel
theorem d_Maker_writePathTables_160 : decode b_Maker_writePathTables 160 = .ok (.iload_n 3, 1) := by decide +kernel
theorem d_Maker_writePathTables_161 : decode b_Maker_writePathTables 161 = .ok (.iload 4, 2) := by decide +kernel
theorem d_Maker_writePathTables_163 : decode b_Maker_writePathTables 163 = .ok (.iadd, 1) := by decide +kernel
theorem d_Maker_writePathTables_164 : decode b_Maker_writePathTables 164 = .ok (.bipush 6, 2) := by decide +kernel
theorem d_Maker_writePathTables_166 : decode b_Maker_writePathTables 166 = .ok (.iadd, 1) := by decide +kernel
theorem d_Maker_writePathTables_167 : decode b_Maker_writePathTables 167 = .ok (.aload_n 1, 1) := by decide +kernel
theorem d_Maker_writePathTables_168 : decode b_Maker_writePathTables 168 = .ok (.getfield 255, 3) := by decide +kernel
theorem d_Maker_writePathTables_171 : decode b_Maker_writePathTables 171 = .ok (.aload 6, 2) := by decide +kernel
theorem d_Maker_writePathTables_173 : decode b_Maker_writePathTables 173 = .ok (.getfield 123, 3) := by decide +kernel
theorem d_Maker_writePathTables_176 : decode b_Maker_writePathTables 176 = .ok (.iaload, 1) := by decide +kernel
theorem d_Maker_writePathTables_177 : decode b_Maker_writePathTables 177 = .ok (.iconst 2, 1) := by decide +kernel
theorem d_Maker_writePathTables_178 : decode b_Maker_writePathTables 178 = .ok (.invokevirtual 243, 3) := by decide +kernel
theorem d_Maker_writePathTables_181 : decode b_Maker_writePathTables 181 = .ok (.iload 4, 2) := by decide +kernel
theorem d_Maker_writePathTables_183 : decode b_Maker_writePathTables 183 = .ok (.bipush 8, 2) := by decide +kernel
theorem d_Maker_writePathTables_185 : decode b_Maker_writePathTables 185 = .ok (.aload_n 0, 1) := by decide +kernel
theorem d_Maker_writePathTables_186 : decode b_Maker_writePathTables 186 = .ok (.getfield 35, 3) := by decide +kernel
theorem d_Maker_writePathTables_189 : decode b_Maker_writePathTables 189 = .ok (.getfield 60, 3) := by decide +kernel
theorem d_Maker_writePathTables_192 : decode b_Maker_writePathTables 192 = .ok (.invokestatic 159, 3) := by decide +kernel
theorem d_Maker_writePathTables_195 : decode b_Maker_writePathTables 195 = .ok (.iadd, 1) := by decide +kernel
theorem d_Maker_writePathTables_196 : decode b_Maker_writePathTables 196 = .ok (.iadd, 1) := by decide +kernel
theorem d_Maker_writePathTables_197 : decode b_Maker_writePathTables 197 = .ok (.istore 4, 2) := by decide +kernel
theorem d_Maker_writePathTables_199 : decode b_Maker_writePathTables 199 = .ok (.iinc 5 1, 3) := by decide +kernel
theorem d_Maker_writePathTables_202 : decode b_Maker_writePathTables 202 = .ok (.goto (-181), 3) := by decide +kernel
theorem d_Maker_writePathTables_205 : decode b_Maker_writePathTables 205 = .ok (.iload 4, 2) := by decide +kernel
theorem d_Maker_writePathTables_207 : decode b_Maker_writePathTables 207 = .ok (.ireturn, 1) := by decide +kernel
set_option maxHeartbeats 4000000 in
set_option maxRecDepth 100000 in
theorem c3_writePathTables (l : Launch) (D : va_G) (cB cI cJ cZ cN cF : ClassId) (sz : Nat) (m0 : Nat) (tr : Nat) (im : Nat) (fi : Nat) (se : Nat) (u0 : Nat) (id : Nat) (ct : Nat) (ra : Int32) (ru : Int32) (wg : Int32) (l0 : Nat) (lo : Nat) (lp : Nat) (lt : Nat) (lb : Nat) (le : Nat) (ln : Int32) (lds : Int32) (ltb : Int32) (lc : Int32) (ld : Int32) (fp : Nat → Int32) (ft : Nat → Int32) (fb : Nat → Int32) (jq : Nat) (il : Int32) (jf : Nat → Int32) (iq : Nat) (n : Nat) (L : Int32) (f : Nat → Int32) (ta : Nat) (cn : Int32) (dr : Int32) (na : Nat → Nat → Nat) (ng : Nat → Nat → Int32) (nn : Nat → Nat → Nat) (nf : Nat → Nat → Nat → Int32) (cm : Nat) (hL : 0 ≤ L.toInt ∧ L.toInt ≤ n) (hn : n ≤ 3000000) (hcn : cn.toInt = cm) (hcm : cm ≤ 40) (htok : TOK cm ng nn) (hld : 0 ≤ ld.toInt ∧ ld.toInt ≤ 12) (hpo : OrdOK ld.toInt cm fp) : Met l y_Maker_writePathTables w_Maker_writePathTables ({ frames := 4, cells := 0, slots := 0, locals := 116 }) (va_Pc [.ref m0, .ref l0] (fun U => U.heap.size = sz ∧ va_P D CL [(m0, .inr (4, [.ref tr, .ref im, .ref fi, .ref se, .ref u0, .ref id, .ref ct, .int ra, .int ru, .int wg])), (l0, .inr (3, [.int ln, .int lds, .int ltb, .ref lo, .ref lp, .ref lt, .ref lb, .ref le, .int lc, .int ld])), (lp, .inl (cI, 12, .inl fp)), (lt, .inl (cI, 40, .inl ft)), (lb, .inl (cI, 40, .inl fb)), (id, .inr (1, [.ref jq, .int il])), (jq, .inl (cB, 60, .inl jf)), (im, .inr (1, [.ref iq, .int L])), (iq, .inl (cB, n, .inl f))] U.heap ∧ va_K D CL (TY cB cI cJ cZ cN cF) U ∧ NN U ∧ va_D (fun _ => True) [(m0, .inr (4, [.ref tr, .ref im, .ref fi, .ref se, .ref u0, .ref id, .ref ct, .int ra, .int ru, .int wg])), (l0, .inr (3, [.int ln, .int lds, .int ltb, .ref lo, .ref lp, .ref lt, .ref lb, .ref le, .int lc, .int ld])), (lp, .inl (cI, 12, .inl fp)), (lt, .inl (cI, 40, .inl ft)), (lb, .inl (cI, 40, .inl fb)), (id, .inr (1, [.ref jq, .int il])), (jq, .inl (cB, 60, .inl jf)), (im, .inr (1, [.ref iq, .int L])), (iq, .inl (cB, n, .inl f))] ∧ RO D (([(tr, .inr (10, [.ref ta, .int cn, .int dr])), (ta, .inl (cN, 40, .inr (.inr (.inr (.inr (rowF na cm))))))] : va_W) ++ (PL (NC cB na ng nn nf) cm)) (va_A [(m0, .inr (4, [.ref tr, .ref im, .ref fi, .ref se, .ref u0, .ref id, .ref ct, .int ra, .int ru, .int wg])), (l0, .inr (3, [.int ln, .int lds, .int ltb, .ref lo, .ref lp, .ref lt, .ref lb, .ref le, .int lc, .int ld])), (lp, .inl (cI, 12, .inl fp)), (lt, .inl (cI, 40, .inl ft)), (lb, .inl (cI, 40, .inl fb)), (id, .inr (1, [.ref jq, .int il])), (jq, .inl (cB, 60, .inl jf)), (im, .inr (1, [.ref iq, .int L])), (iq, .inl (cB, n, .inl f))] sz) U U.heap)) (va_Qi (fun (r : Int32) (u : Int32 × (Nat → Int32) × (Nat → Int32)) => match u with | (il2, jg, g) => (0 ≤ r.toInt ∧ r.toInt ≤ 1200)) (fun (u : Int32 × (Nat → Int32) × (Nat → Int32)) (t : State) => match u with | (il2, jg, g) => va_P D CL [(m0, .inr (4, [.ref tr, .ref im, .ref fi, .ref se, .ref u0, .ref id, .ref ct, .int ra, .int ru, .int wg])), (l0, .inr (3, [.int ln, .int lds, .int ltb, .ref lo, .ref lp, .ref lt, .ref lb, .ref le, .int lc, .int ld])), (lp, .inl (cI, 12, .inl fp)), (lt, .inl (cI, 40, .inl ft)), (lb, .inl (cI, 40, .inl fb)), (id, .inr (1, [.ref jq, .int il2])), (jq, .inl (cB, 60, .inl jg)), (im, .inr (1, [.ref iq, .int L])), (iq, .inl (cB, n, .inl g))] t.heap ∧ va_D (va_A [(m0, .inr (4, [.ref tr, .ref im, .ref fi, .ref se, .ref u0, .ref id, .ref ct, .int ra, .int ru, .int wg])), (l0, .inr (3, [.int ln, .int lds, .int ltb, .ref lo, .ref lp, .ref lt, .ref lb, .ref le, .int lc, .int ld])), (lp, .inl (cI, 12, .inl fp)), (lt, .inl (cI, 40, .inl ft)), (lb, .inl (cI, 40, .inl fb)), (id, .inr (1, [.ref jq, .int il])), (jq, .inl (cB, 60, .inl jf)), (im, .inr (1, [.ref iq, .int L])), (iq, .inl (cB, n, .inl f))] sz) [(m0, .inr (4, [.ref tr, .ref im, .ref fi, .ref se, .ref u0, .ref id, .ref ct, .int ra, .int ru, .int wg])), (l0, .inr (3, [.int ln, .int lds, .int ltb, .ref lo, .ref lp, .ref lt, .ref lb, .ref le, .int lc, .int ld])), (lp, .inl (cI, 12, .inl fp)), (lt, .inl (cI, 40, .inl ft)), (lb, .inl (cI, 40, .inl fb)), (id, .inr (1, [.ref jq, .int il2])), (jq, .inl (cB, 60, .inl jg)), (im, .inr (1, [.ref iq, .int L])), (iq, .inl (cB, n, .inl g))]) (va_A [(m0, .inr (4, [.ref tr, .ref im, .ref fi, .ref se, .ref u0, .ref id, .ref ct, .int ra, .int ru, .int wg])), (l0, .inr (3, [.int ln, .int lds, .int ltb, .ref lo, .ref lp, .ref lt, .ref lb, .ref le, .int lc, .int ld])), (lp, .inl (cI, 12, .inl fp)), (lt, .inl (cI, 40, .inl ft)), (lb, .inl (cI, 40, .inl fb)), (id, .inr (1, [.ref jq, .int il])), (jq, .inl (cB, 60, .inl jf)), (im, .inr (1, [.ref iq, .int L])), (iq, .inl (cB, n, .inl f))] sz)) 0 0 (va_A [(m0, .inr (4, [.ref tr, .ref im, .ref fi, .ref se, .ref u0, .ref id, .ref ct, .int ra, .int ru, .int wg])), (l0, .inr (3, [.int ln, .int lds, .int ltb, .ref lo, .ref lp, .ref lt, .ref lb, .ref le, .int lc, .int ld])), (lp, .inl (cI, 12, .inl fp)), (lt, .inl (cI, 40, .inl ft)), (lb, .inl (cI, 40, .inl fb)), (id, .inr (1, [.ref jq, .int il])), (jq, .inl (cB, 60, .inl jf)), (im, .inr (1, [.ref iq, .int L])), (iq, .inl (cB, n, .inl f))] sz) := by
  refine Met.ofW (cc := b_Maker_writePathTables) (maxL := 7) (ret := some .int) (by decide +kernel) rfl ?_
  intro p e s m args below meth c s₁ B hml hv
  obtain ⟨rfl, hsz, hP, hK, hN, hD0, hZr⟩ := hv
  have hx := B.exec
  have hb := B.bytes
  have hr := B.returns
  have hts := atoms_spec (ws := w_Maker_writePathTables) B.pre
  have ht9 := fun (w : Cond) (h : w ∈ lw_g) => hts w (List.mem_cons_of_mem _ h)
  have hown : s.vm.findClass "DiscMaker$Maker" = some m.cls := findClass_of_methodNamed B.named
  have hlocks := B.notSynchronized
  subst hsz
  have hD := hD0.self (sz := s.heap.size)
  generalize hAe : va_A [(m0, .inr (4, [.ref tr, .ref im, .ref fi, .ref se, .ref u0, .ref id, .ref ct, .int ra, .int ru, .int wg])), (l0, .inr (3, [.int ln, .int lds, .int ltb, .ref lo, .ref lp, .ref lt, .ref lb, .ref le, .int lc, .int ld])), (lp, .inl (cI, 12, .inl fp)), (lt, .inl (cI, 40, .inl ft)), (lb, .inl (cI, 40, .inl fb)), (id, .inr (1, [.ref jq, .int il])), (jq, .inl (cB, 60, .inl jf)), (im, .inr (1, [.ref iq, .int L])), (iq, .inl (cB, n, .inl f))] s.heap.size = A at hD hZr ⊢
  have hA : ∀ q : Nat, s.heap.size ≤ q → A q := fun q h => by rw [← hAe]; exact Or.inr h
  have hS : va_S A s.heap s.heap [] := va_S.rf
  have hP : va_P D CL [(m0, .inr (4, [.ref tr, .ref im, .ref fi, .ref se, .ref u0, .ref id, .ref ct, .int ra, .int ru, .int wg])), (l0, .inr (3, [.int ln, .int lds, .int ltb, .ref lo, .ref lp, .ref lt, .ref lb, .ref le, .int lc, .int ld])), (lp, .inl (cI, 12, .inl fp)), (lt, .inl (cI, 40, .inl ft)), (lb, .inl (cI, 40, .inl fb)), (id, .inr (1, [.ref jq, .int il])), (jq, .inl (cB, 60, .inl jf)), (im, .inr (1, [.ref iq, .int L])), (iq, .inl (cB, n, .inl f))] s.heap := hP
  have hl := lv_entry [.ref m0, .ref l0] (n := 7) (Nat.le_of_ble_eq_true rfl)
  rw [lg_entry_eq]
  generalize (lg_sl [.ref m0, .ref l0] ++ List.replicate (7 - (lg_sl [.ref m0, .ref l0]).length) Slot.unset).toArray = ls at hl ⊢
  have hl : lv_has ls 7 [(0, .ref m0), (1, .ref l0)] := hl
  have L_m1 : ((-1) : Int32).toInt = (-1) := by decide
  have L_0 : (0 : Int32).toInt = 0 := by decide
  have L_1 : (1 : Int32).toInt = 1 := by decide
  have L_2 : (2 : Int32).toInt = 2 := by decide
  have L_4 : (4 : Int32).toInt = 4 := by decide
  have L_6 : (6 : Int32).toInt = 6 := by decide
  have L_8 : (8 : Int32).toInt = 8 := by decide
  have L_2048 : (2048 : Int32).toInt = 2048 := by decide
  refine lv_aload_n hx hb d_Maker_writePathTables_0 rfl (lv_at hl 1 rfl) ?_
  refine va_getN (D := D) (ci := 3) (v := .int ltb) (C := "DiscMaker$Layout") (T := F_Layout) (N := 10) hx hb ht9 in_Layout hown hK hP 1 rfl rfl 2 (by decide) (va_Nw.use rfl (hN _ k285)) (fun _ h9 => h9) rfl d_Maker_writePathTables_1 ?_
  refine lv_sipush (v := 2048) hx hb d_Maker_writePathTables_4 (by decide) ?_
  refine lv_imul hx hb d_Maker_writePathTables_7 ?_
  refine lv_topi (fun v1 e_v1 => ?_)
  refine lv_istore_n hx hb d_Maker_writePathTables_8 rfl hl (by decide) rfl (fun ls hl => ?_)
  have hl : lv_has ls 7 [(2, .int v1), (0, .ref m0), (1, .ref l0)] := hl
  refine lv_iload_n hx hb d_Maker_writePathTables_9 rfl (lv_at hl 0 rfl) ?_
  refine lv_sipush (v := 2048) hx hb d_Maker_writePathTables_10 (by decide) ?_
  refine lv_iadd hx hb d_Maker_writePathTables_13 ?_
  refine lv_topi (fun v2 e_v2 => ?_)
  refine lv_istore_n hx hb d_Maker_writePathTables_14 rfl hl (by decide) rfl (fun ls hl => ?_)
  have hl : lv_has ls 7 [(3, .int v2), (2, .int v1), (0, .ref m0), (1, .ref l0)] := hl
  refine lv_iconst (v := 0) hx hb d_Maker_writePathTables_15 (by decide) ?_
  refine lv_istore hx hb d_Maker_writePathTables_16 hl (by decide) rfl (fun ls hl => ?_)
  have hl : lv_has ls 7 [(4, .int 0), (3, .int v2), (2, .int v1), (0, .ref m0), (1, .ref l0)] := hl
  refine lv_iconst (v := 0) hx hb d_Maker_writePathTables_18 (by decide) ?_
  refine lv_istore hx hb d_Maker_writePathTables_19 hl (by decide) rfl (fun ls hl => ?_)
  have hl : lv_has ls 7 [(5, .int 0), (4, .int 0), (3, .int v2), (2, .int v1), (0, .ref m0), (1, .ref l0)] := hl
  refine zz_labM (B := fun (lk : Nat) (K : Heap → List Loc → Array Slot → List Value → Prop) => ∀ (bl : Int32) (bh9 : Int32) (la : Int32) (kx : Int32) (lil : Int32) (ljf : Nat → Int32) (lf : Nat → Int32) (H : Heap) (locs : List Loc) (ls : Array Slot), lk = (ld.toInt - kx.toInt).toNat → (0 ≤ kx.toInt ∧ kx.toInt ≤ ld.toInt) → (0 ≤ la.toInt ∧ la.toInt ≤ 100 * kx.toInt) → va_P D CL [(m0, .inr (4, [.ref tr, .ref im, .ref fi, .ref se, .ref u0, .ref id, .ref ct, .int ra, .int ru, .int wg])), (l0, .inr (3, [.int ln, .int lds, .int ltb, .ref lo, .ref lp, .ref lt, .ref lb, .ref le, .int lc, .int ld])), (lp, .inl (cI, 12, .inl fp)), (lt, .inl (cI, 40, .inl ft)), (lb, .inl (cI, 40, .inl fb)), (id, .inr (1, [.ref jq, .int lil])), (jq, .inl (cB, 60, .inl ljf)), (im, .inr (1, [.ref iq, .int L])), (iq, .inl (cB, n, .inl lf))] H → va_D A [(m0, .inr (4, [.ref tr, .ref im, .ref fi, .ref se, .ref u0, .ref id, .ref ct, .int ra, .int ru, .int wg])), (l0, .inr (3, [.int ln, .int lds, .int ltb, .ref lo, .ref lp, .ref lt, .ref lb, .ref le, .int lc, .int ld])), (lp, .inl (cI, 12, .inl fp)), (lt, .inl (cI, 40, .inl ft)), (lb, .inl (cI, 40, .inl fb)), (id, .inr (1, [.ref jq, .int lil])), (jq, .inl (cB, 60, .inl ljf)), (im, .inr (1, [.ref iq, .int L])), (iq, .inl (cB, n, .inl lf))] → va_S A s.heap H locs → lv_has ls 7 [(0, .ref m0), (1, .ref l0), (2, .int bl), (3, .int bh9), (4, .int la), (5, .int kx)] → K H locs ls []) 21 ?_ ?_
  · skip
    intro lk ih21 bl bh9 la kx lil ljf lf H locs ls hm21 e1 e2 hP hD hS hl
    refine lv_iload hx hb d_Maker_writePathTables_21 (lv_at hl 5 rfl) ?_
    refine lv_aload_n hx hb d_Maker_writePathTables_23 rfl (lv_at hl 1 rfl) ?_
    refine va_getN (D := D) (ci := 3) (v := .int ld) (C := "DiscMaker$Layout") (T := F_Layout) (N := 10) hx hb ht9 in_Layout hown hK hP 1 rfl rfl 9 (by decide) (va_Nw.use rfl (hN _ k299)) (fun _ h9 => h9) rfl d_Maker_writePathTables_24 ?_
    refine lv_icmp_ge (tgt := 205) hx hb d_Maker_writePathTables_27 (by decide) (fun h_9 => ?_) (fun h_9 => ?_)
    · skip
      have g27_17 : ld.toInt ≤ kx.toInt := (i_le rfl rfl).mp h_9
      refine lv_iload hx hb d_Maker_writePathTables_205 (lv_at hl 4 rfl) ?_
      have hP9 := hP.sub (ws' := [(m0, .inr (4, [.ref tr, .ref im, .ref fi, .ref se, .ref u0, .ref id, .ref ct, .int ra, .int ru, .int wg])), (l0, .inr (3, [.int ln, .int lds, .int ltb, .ref lo, .ref lp, .ref lt, .ref lb, .ref le, .int lc, .int ld])), (lp, .inl (cI, 12, .inl fp)), (lt, .inl (cI, 40, .inl ft)), (lb, .inl (cI, 40, .inl fb)), (id, .inr (1, [.ref jq, .int lil])), (jq, .inl (cB, 60, .inl ljf)), (im, .inr (1, [.ref iq, .int L])), (iq, .inl (cB, n, .inl lf))]) [0, 1, 2, 3, 4, 5, 6, 7, 8] rfl
      have hD9 := hD.sub (ws' := [(m0, .inr (4, [.ref tr, .ref im, .ref fi, .ref se, .ref u0, .ref id, .ref ct, .int ra, .int ru, .int wg])), (l0, .inr (3, [.int ln, .int lds, .int ltb, .ref lo, .ref lp, .ref lt, .ref lb, .ref le, .int lc, .int ld])), (lp, .inl (cI, 12, .inl fp)), (lt, .inl (cI, 40, .inl ft)), (lb, .inl (cI, 40, .inl fb)), (id, .inr (1, [.ref jq, .int lil])), (jq, .inl (cB, 60, .inl ljf)), (im, .inr (1, [.ref iq, .int L])), (iq, .inl (cB, n, .inl lf))]) [0, 1, 2, 3, 4, 5, 6, 7, 8] (by decide +kernel) rfl
      exact W.iret (v := la) hx hb hr (fun t ht hW => ⟨⟨la, (lil, ljf, lf), rfl, (by (try dsimp only); first | assumption | omega | trivial), by rw [ht]; exact hP9, hD9⟩, hS.F ht⟩) hS.2.2 d_Maker_writePathTables_207
    · skip
      have g27_17 : ¬ ld.toInt ≤ kx.toInt := fun h8 => h_9 ((i_le rfl rfl).mpr h8)
      refine lv_aload_n hx hb d_Maker_writePathTables_30 rfl (lv_at hl 0 rfl) ?_
      refine va_get (D := D) (ci := 4) (v := .ref tr) (C := "DiscMaker$Maker") (T := F_Maker) (N := 10) hx hb ht9 in_Maker hown hK hP 0 rfl rfl 0 (by decide) (ht9 _ k347) (fun _ h9 => h9) rfl d_Maker_writePathTables_31 ?_
      have hPR := RO_at hZr hS
      refine va_getN (D := D) (ci := 10) (v := .ref ta) (C := "DiscMaker$Tree") (T := F_Tree) (N := 3) hx hb ht9 in_Tree hown hK hPR 0 rfl rfl 0 (by decide) (va_Nw.use rfl (hN _ k237)) (fun _ h9 => h9) rfl d_Maker_writePathTables_34 ?_
      refine lv_aload_n hx hb d_Maker_writePathTables_37 rfl (lv_at hl 1 rfl) ?_
      refine va_getN (D := D) (ci := 3) (v := .ref lp) (C := "DiscMaker$Layout") (T := F_Layout) (N := 10) hx hb ht9 in_Layout hown hK hP 1 rfl rfl 4 (by decide) (va_Nw.use rfl (hN _ k289)) (fun _ h9 => h9) rfl d_Maker_writePathTables_38 ?_
      refine lv_iload hx hb d_Maker_writePathTables_41 (lv_at hl 5 rfl) ?_
      refine va_iald hx hb hK hP 2 1 rfl rfl (vp_in_iff.mpr ⟨by omega, by omega⟩) d_Maker_writePathTables_43 ?_
      refine lv_topi (fun v3 e_v3 => ?_)
      have qv3 := OrdOK_at hpo e_v3 (by have := i_cl (a := kx) (by omega); omega)
      have hPR := RO_at hZr hS
      refine va_aldq hx hb hK hPR 1 4 rfl rfl (vp_in_iff.mpr ⟨by omega, by omega⟩) d_Maker_writePathTables_44 ?_
      have c_hk4 := i_cl (a := v3) (by omega)
      have hk4 : v3.toNatClampNeg < cm := by omega
      have o_hk4 := htok v3.toNatClampNeg hk4
      obtain ⟨i_hj5, hj5⟩ : ∃ j : Nat, (PL (NC cB na ng nn nf) cm)[j]? = some ((na v3.toNatClampNeg 0), .inr (5, [.int (ng v3.toNatClampNeg 0), .ref (na v3.toNatClampNeg 1), .ref (na v3.toNatClampNeg 2), .ref (na v3.toNatClampNeg 3), .int (ng v3.toNatClampNeg 1), .int (ng v3.toNatClampNeg 2), .int (ng v3.toNatClampNeg 3), .int (ng v3.toNatClampNeg 4), .int (ng v3.toNatClampNeg 5), .int (ng v3.toNatClampNeg 6), .int (ng v3.toNatClampNeg 7), .int (ng v3.toNatClampNeg 8)])) := PL_get (i := 0) hk4 rfl
      obtain ⟨i_hj6, hj6⟩ : ∃ j : Nat, (PL (NC cB na ng nn nf) cm)[j]? = some ((na v3.toNatClampNeg 1), .inl (cB, (nn v3.toNatClampNeg 1), .inl (nf v3.toNatClampNeg 1))) := PL_get (i := 1) hk4 rfl
      obtain ⟨i_hj7, hj7⟩ : ∃ j : Nat, (PL (NC cB na ng nn nf) cm)[j]? = some ((na v3.toNatClampNeg 2), .inl (cB, 11, .inl (nf v3.toNatClampNeg 2))) := PL_get (i := 2) hk4 rfl
      obtain ⟨i_hj8, hj8⟩ : ∃ j : Nat, (PL (NC cB na ng nn nf) cm)[j]? = some ((na v3.toNatClampNeg 3), .inl (cB, (nn v3.toNatClampNeg 3), .inl (nf v3.toNatClampNeg 3))) := PL_get (i := 3) hk4 rfl
      refine W.eq (g2 := F0 m 45 ls [.ref (na v3.toNatClampNeg 0)]) (by rw [show rowF na cm v3.toNatClampNeg = some (na v3.toNatClampNeg 0) from rowF_some hk4]; rfl) ?_
      refine lv_astore hx hb d_Maker_writePathTables_45 hl (by decide) rfl (fun ls hl => ?_)
      have hl : lv_has ls 7 [(6, .ref (na v3.toNatClampNeg 0)), (0, .ref m0), (1, .ref l0), (2, .int bl), (3, .int bh9), (4, .int la), (5, .int kx)] := hl
      refine lv_aload_n hx hb d_Maker_writePathTables_47 rfl (lv_at hl 1 rfl) ?_
      refine lv_aload_n hx hb d_Maker_writePathTables_48 rfl (lv_at hl 2 rfl) ?_
      refine lv_aload hx hb d_Maker_writePathTables_49 (lv_at hl 0 rfl) ?_
      refine zz_labM (B := fun (lk : Nat) (K : Heap → List Loc → Array Slot → List Value → Prop) => ∀ (ro9 : Int32) (H : Heap) (locs : List Loc) (ls : Array Slot), lk = 0 → va_P D CL [(m0, .inr (4, [.ref tr, .ref im, .ref fi, .ref se, .ref u0, .ref id, .ref ct, .int ra, .int ru, .int wg])), (l0, .inr (3, [.int ln, .int lds, .int ltb, .ref lo, .ref lp, .ref lt, .ref lb, .ref le, .int lc, .int ld])), (lp, .inl (cI, 12, .inl fp)), (lt, .inl (cI, 40, .inl ft)), (lb, .inl (cI, 40, .inl fb)), (id, .inr (1, [.ref jq, .int lil])), (jq, .inl (cB, 60, .inl ljf)), (im, .inr (1, [.ref iq, .int L])), (iq, .inl (cB, n, .inl lf))] H → va_D A [(m0, .inr (4, [.ref tr, .ref im, .ref fi, .ref se, .ref u0, .ref id, .ref ct, .int ra, .int ru, .int wg])), (l0, .inr (3, [.int ln, .int lds, .int ltb, .ref lo, .ref lp, .ref lt, .ref lb, .ref le, .int lc, .int ld])), (lp, .inl (cI, 12, .inl fp)), (lt, .inl (cI, 40, .inl ft)), (lb, .inl (cI, 40, .inl fb)), (id, .inr (1, [.ref jq, .int lil])), (jq, .inl (cB, 60, .inl ljf)), (im, .inr (1, [.ref iq, .int L])), (iq, .inl (cB, n, .inl lf))] → va_S A s.heap H locs → lv_has ls 7 [(0, .ref m0), (1, .ref l0), (2, .int bl), (3, .int bh9), (4, .int la), (5, .int kx), (6, .ref (na v3.toNatClampNeg 0))] → K H locs ls [.int ro9, .ref (na v3.toNatClampNeg 0), .ref l0, .ref m0]) 64 ?_ ?_
      · skip
        intro lk ih64 ro9 H locs ls hm64 hP hD hS hl
        have hPc := hP.sub (ws' := [(m0, .inr (4, [.ref tr, .ref im, .ref fi, .ref se, .ref u0, .ref id, .ref ct, .int ra, .int ru, .int wg])), (l0, .inr (3, [.int ln, .int lds, .int ltb, .ref lo, .ref lp, .ref lt, .ref lb, .ref le, .int lc, .int ld])), (id, .inr (1, [.ref jq, .int lil])), (jq, .inl (cB, 60, .inl ljf))]) [0, 1, 5, 6] rfl
        have hDc := hD.sub (ws' := [(m0, .inr (4, [.ref tr, .ref im, .ref fi, .ref se, .ref u0, .ref id, .ref ct, .int ra, .int ru, .int wg])), (l0, .inr (3, [.int ln, .int lds, .int ltb, .ref lo, .ref lp, .ref lt, .ref lb, .ref le, .int lc, .int ld])), (id, .inr (1, [.ref jq, .int lil])), (jq, .inl (cB, 60, .inl ljf))]) [0, 1, 5, 6] (by decide +kernel) rfl
        have hFc := va_free (wc := [(m0, .inr (4, [.ref tr, .ref im, .ref fi, .ref se, .ref u0, .ref id, .ref ct, .int ra, .int ru, .int wg])), (l0, .inr (3, [.int ln, .int lds, .int ltb, .ref lo, .ref lp, .ref lt, .ref lb, .ref le, .int lc, .int ld])), (id, .inr (1, [.ref jq, .int lil])), (jq, .inl (cB, 60, .inl ljf))]) hD hS hA [0, 1, 5, 6] rfl
        have hkc : 0 ≤ 0 := by decide
        have hks : 0 ≤ 0 := by decide
        refine va_callv (va_runV (C := "DiscMaker$Maker") (As := [.ref l0, .ref (na v3.toNatClampNeg 0), .int ro9]) (rest := []) ⟨hx, hb, hml, hown, hts⟩ (c3_Maker_identify l D cB cI cJ cZ cN cF H.size m0 tr im fi se u0 id ct ra ru wg l0 lo lp lt lb le ln lds ltb lc ld jq lil ljf (na v3.toNatClampNeg 0) (na v3.toNatClampNeg 1) (na v3.toNatClampNeg 2) (na v3.toNatClampNeg 3) (ng v3.toNatClampNeg 0) (ng v3.toNatClampNeg 1) (ng v3.toNatClampNeg 2) (ng v3.toNatClampNeg 3) (ng v3.toNatClampNeg 4) (ng v3.toNatClampNeg 5) (ng v3.toNatClampNeg 6) (ng v3.toNatClampNeg 7) (ng v3.toNatClampNeg 8) (nn v3.toNatClampNeg 1) (nf v3.toNatClampNeg 1) (nf v3.toNatClampNeg 2) ro9 (by (try dsimp only); first | assumption | omega | trivial)) (cwV 3 hts (lg_goodV k972 k974 k18 k120 kc_Maker_identify) rfl rfl rfl (by decide +kernel) ⟨Nat.le_of_ble_eq_true rfl, Nat.le_of_ble_eq_true rfl⟩) ⟨fun a U g mk q => by obtain ⟨q0, q1, qP, qK, qN, qD, qZ0⟩ := q; exact ⟨q0, q1, qP, va_K.moved (u := U) (U := U.calling g mk a) (Vm.Alike.refl U.vm) qK, qN.calling, qD, RO_blind qZ0⟩, va_recv hK hP (ci := 4) (q0 := 0) rfl rfl, fun U hU hW => ⟨rfl, by rw [hU], by rw [hU]; exact hPc, va_K.moved hW.alike hK, NN.warm hW hN, hDc.weaken (fun _ _ _ _ => trivial), (RO_app (w1 := [((na v3.toNatClampNeg 0), .inr (5, [.int (ng v3.toNatClampNeg 0), .ref (na v3.toNatClampNeg 1), .ref (na v3.toNatClampNeg 2), .ref (na v3.toNatClampNeg 3), .int (ng v3.toNatClampNeg 1), .int (ng v3.toNatClampNeg 2), .int (ng v3.toNatClampNeg 3), .int (ng v3.toNatClampNeg 4), .int (ng v3.toNatClampNeg 5), .int (ng v3.toNatClampNeg 6), .int (ng v3.toNatClampNeg 7), .int (ng v3.toNatClampNeg 8)]))]) (w2 := [((na v3.toNatClampNeg 1), .inl (cB, (nn v3.toNatClampNeg 1), .inl (nf v3.toNatClampNeg 1))), ((na v3.toNatClampNeg 2), .inl (cB, 11, .inl (nf v3.toNatClampNeg 2)))]) (RO_pass (RO_one hZr _ (pix (X := [(tr, .inr (10, [.ref ta, .int cn, .int dr])), (ta, .inl (cN, 40, .inr (.inr (.inr (.inr (rowF na cm))))))]) hj5)) hS hFc hU) (RO_app (w1 := [((na v3.toNatClampNeg 1), .inl (cB, (nn v3.toNatClampNeg 1), .inl (nf v3.toNatClampNeg 1)))]) (w2 := [((na v3.toNatClampNeg 2), .inl (cB, 11, .inl (nf v3.toNatClampNeg 2)))]) (RO_pass (RO_one hZr _ (pix (X := [(tr, .inr (10, [.ref ta, .int cn, .int dr])), (ta, .inl (cN, 40, .inr (.inr (.inr (.inr (rowF na cm))))))]) hj6)) hS hFc hU) (RO_pass (RO_one hZr _ (pix (X := [(tr, .inr (10, [.ref ta, .int cn, .int dr])), (ta, .inl (cN, 40, .inr (.inr (.inr (.inr (rowF na cm))))))]) hj7)) hS hFc hU)))⟩⟩ rfl rfl hl.1 rfl (lv_room (Nat.le_of_ble_eq_true rfl)) d_Maker_writePathTables_64 ⟨hkc, hks⟩) hS (fun q _ h => hFc q h) hFc (fun u t H1 locs ht hvm hp_r9 hB hz1 hk1 hS => ?_)
        obtain ⟨il2_10, g_11⟩ := u
        obtain ⟨hP1, hD1⟩ := hB
        rw [ht] at hP1
        obtain ⟨hP, hD⟩ := va_join (wr := [(lp, .inl (cI, 12, .inl fp)), (lt, .inl (cI, 40, .inl ft)), (lb, .inl (cI, 40, .inl fb)), (im, .inr (1, [.ref iq, .int L])), (iq, .inl (cB, n, .inl lf))]) (w1 := [(m0, .inr (4, [.ref tr, .ref im, .ref fi, .ref se, .ref u0, .ref id, .ref ct, .int ra, .int ru, .int wg])), (l0, .inr (3, [.int ln, .int lds, .int ltb, .ref lo, .ref lp, .ref lt, .ref lb, .ref le, .int lc, .int ld])), (id, .inr (1, [.ref jq, .int il2_10])), (jq, .inl (cB, 60, .inl g_11))]) hP hD [0, 1, 5, 6] [2, 3, 4, 7, 8] rfl rfl (by decide +kernel) (by decide +kernel) hk1 hFc hP1 hD1
        clear hPc hDc hFc hP1 hD1 hk1 hz1 hkc hks
        generalize H1 = H at hP hS ⊢
        have hP : va_P D CL [(lp, .inl (cI, 12, .inl fp)), (lt, .inl (cI, 40, .inl ft)), (lb, .inl (cI, 40, .inl fb)), (im, .inr (1, [.ref iq, .int L])), (iq, .inl (cB, n, .inl lf)), (m0, .inr (4, [.ref tr, .ref im, .ref fi, .ref se, .ref u0, .ref id, .ref ct, .int ra, .int ru, .int wg])), (l0, .inr (3, [.int ln, .int lds, .int ltb, .ref lo, .ref lp, .ref lt, .ref lb, .ref le, .int lc, .int ld])), (id, .inr (1, [.ref jq, .int il2_10])), (jq, .inl (cB, 60, .inl g_11))] H := hP
        have hD : va_D A [(lp, .inl (cI, 12, .inl fp)), (lt, .inl (cI, 40, .inl ft)), (lb, .inl (cI, 40, .inl fb)), (im, .inr (1, [.ref iq, .int L])), (iq, .inl (cB, n, .inl lf)), (m0, .inr (4, [.ref tr, .ref im, .ref fi, .ref se, .ref u0, .ref id, .ref ct, .int ra, .int ru, .int wg])), (l0, .inr (3, [.int ln, .int lds, .int ltb, .ref lo, .ref lp, .ref lt, .ref lb, .ref le, .int lc, .int ld])), (id, .inr (1, [.ref jq, .int il2_10])), (jq, .inl (cB, 60, .inl g_11))] := hD
        try dsimp only at hp_r9
        have hil2_12 := hp_r9
        refine lv_aload_n hx hb d_Maker_writePathTables_67 rfl (lv_at hl 0 rfl) ?_
        refine lv_iload_n hx hb d_Maker_writePathTables_68 rfl (lv_at hl 2 rfl) ?_
        refine lv_iload hx hb d_Maker_writePathTables_69 (lv_at hl 4 rfl) ?_
        refine lv_iadd hx hb d_Maker_writePathTables_71 ?_
        refine lv_topi (fun v13 e_v13 => ?_)
        have hPc := hP.sub (ws' := [(m0, .inr (4, [.ref tr, .ref im, .ref fi, .ref se, .ref u0, .ref id, .ref ct, .int ra, .int ru, .int wg])), (id, .inr (1, [.ref jq, .int il2_10])), (jq, .inl (cB, 60, .inl g_11)), (im, .inr (1, [.ref iq, .int L])), (iq, .inl (cB, n, .inl lf))]) [5, 7, 8, 3, 4] rfl
        have hDc := hD.sub (ws' := [(m0, .inr (4, [.ref tr, .ref im, .ref fi, .ref se, .ref u0, .ref id, .ref ct, .int ra, .int ru, .int wg])), (id, .inr (1, [.ref jq, .int il2_10])), (jq, .inl (cB, 60, .inl g_11)), (im, .inr (1, [.ref iq, .int L])), (iq, .inl (cB, n, .inl lf))]) [5, 7, 8, 3, 4] (by decide +kernel) rfl
        have hFc := va_free (wc := [(m0, .inr (4, [.ref tr, .ref im, .ref fi, .ref se, .ref u0, .ref id, .ref ct, .int ra, .int ru, .int wg])), (id, .inr (1, [.ref jq, .int il2_10])), (jq, .inl (cB, 60, .inl g_11)), (im, .inr (1, [.ref iq, .int L])), (iq, .inl (cB, n, .inl lf))]) hD hS hA [5, 7, 8, 3, 4] rfl
        have hkc : 0 ≤ 0 := by decide
        have hks : 0 ≤ 0 := by decide
        refine va_callv (va_runV (C := "DiscMaker$Maker") (As := [.int v13]) (rest := []) ⟨hx, hb, hml, hown, hts⟩ (c3_writePathHead l D cB cI cJ cZ cN cF H.size m0 tr im fi se u0 id ct ra ru wg jq il2_10 g_11 iq n L lf v13 (by (try dsimp only); first | assumption | omega | trivial) (by (try dsimp only); first | assumption | omega | trivial) (by (try dsimp only); first | assumption | omega | trivial)) (cwV 1 hts (lg_goodV k1091 k1093 k26 k120 kc_Maker_writePathHead) rfl rfl rfl (by decide +kernel) ⟨Nat.le_of_ble_eq_true rfl, Nat.le_of_ble_eq_true rfl⟩) ⟨fun a U g mk q => by obtain ⟨q0, q1, qP, qK, qN, qD⟩ := q; exact ⟨q0, q1, qP, va_K.moved (u := U) (U := U.calling g mk a) (Vm.Alike.refl U.vm) qK, qN.calling, qD⟩, va_recv hK hP (ci := 4) (q0 := 5) rfl rfl, fun U hU hW => ⟨rfl, by rw [hU], by rw [hU]; exact hPc, va_K.moved hW.alike hK, NN.warm hW hN, hDc.weaken (fun _ _ _ _ => trivial)⟩⟩ rfl rfl hl.1 rfl (lv_room (Nat.le_of_ble_eq_true rfl)) d_Maker_writePathTables_72 ⟨hkc, hks⟩) hS (fun q _ h => hFc q h) hFc (fun u t H1 locs ht hvm hp_r14 hB hz1 hk1 hS => ?_)
        obtain ⟨g_15, rfl⟩ : ∃ z, z = u := ⟨_, rfl⟩
        obtain ⟨hP1, hD1⟩ := hB
        rw [ht] at hP1
        obtain ⟨hP, hD⟩ := va_join (wr := [(lp, .inl (cI, 12, .inl fp)), (lt, .inl (cI, 40, .inl ft)), (lb, .inl (cI, 40, .inl fb)), (l0, .inr (3, [.int ln, .int lds, .int ltb, .ref lo, .ref lp, .ref lt, .ref lb, .ref le, .int lc, .int ld]))]) (w1 := [(m0, .inr (4, [.ref tr, .ref im, .ref fi, .ref se, .ref u0, .ref id, .ref ct, .int ra, .int ru, .int wg])), (id, .inr (1, [.ref jq, .int il2_10])), (jq, .inl (cB, 60, .inl g_11)), (im, .inr (1, [.ref iq, .int L])), (iq, .inl (cB, n, .inl g_15))]) hP hD [5, 7, 8, 3, 4] [0, 1, 2, 6] rfl rfl (by decide +kernel) (by decide +kernel) hk1 hFc hP1 hD1
        clear hPc hDc hFc hP1 hD1 hk1 hz1 hkc hks
        generalize H1 = H at hP hS ⊢
        have hP : va_P D CL [(lp, .inl (cI, 12, .inl fp)), (lt, .inl (cI, 40, .inl ft)), (lb, .inl (cI, 40, .inl fb)), (l0, .inr (3, [.int ln, .int lds, .int ltb, .ref lo, .ref lp, .ref lt, .ref lb, .ref le, .int lc, .int ld])), (m0, .inr (4, [.ref tr, .ref im, .ref fi, .ref se, .ref u0, .ref id, .ref ct, .int ra, .int ru, .int wg])), (id, .inr (1, [.ref jq, .int il2_10])), (jq, .inl (cB, 60, .inl g_11)), (im, .inr (1, [.ref iq, .int L])), (iq, .inl (cB, n, .inl g_15))] H := hP
        have hD : va_D A [(lp, .inl (cI, 12, .inl fp)), (lt, .inl (cI, 40, .inl ft)), (lb, .inl (cI, 40, .inl fb)), (l0, .inr (3, [.int ln, .int lds, .int ltb, .ref lo, .ref lp, .ref lt, .ref lb, .ref le, .int lc, .int ld])), (m0, .inr (4, [.ref tr, .ref im, .ref fi, .ref se, .ref u0, .ref id, .ref ct, .int ra, .int ru, .int wg])), (id, .inr (1, [.ref jq, .int il2_10])), (jq, .inl (cB, 60, .inl g_11)), (im, .inr (1, [.ref iq, .int L])), (iq, .inl (cB, n, .inl g_15))] := hD
        refine lv_aload_n hx hb d_Maker_writePathTables_75 rfl (lv_at hl 0 rfl) ?_
        refine lv_iload_n hx hb d_Maker_writePathTables_76 rfl (lv_at hl 3 rfl) ?_
        refine lv_iload hx hb d_Maker_writePathTables_77 (lv_at hl 4 rfl) ?_
        refine lv_iadd hx hb d_Maker_writePathTables_79 ?_
        refine lv_topi (fun v16 e_v16 => ?_)
        have hPc := hP.sub (ws' := [(m0, .inr (4, [.ref tr, .ref im, .ref fi, .ref se, .ref u0, .ref id, .ref ct, .int ra, .int ru, .int wg])), (id, .inr (1, [.ref jq, .int il2_10])), (jq, .inl (cB, 60, .inl g_11)), (im, .inr (1, [.ref iq, .int L])), (iq, .inl (cB, n, .inl g_15))]) [4, 5, 6, 7, 8] rfl
        have hDc := hD.sub (ws' := [(m0, .inr (4, [.ref tr, .ref im, .ref fi, .ref se, .ref u0, .ref id, .ref ct, .int ra, .int ru, .int wg])), (id, .inr (1, [.ref jq, .int il2_10])), (jq, .inl (cB, 60, .inl g_11)), (im, .inr (1, [.ref iq, .int L])), (iq, .inl (cB, n, .inl g_15))]) [4, 5, 6, 7, 8] (by decide +kernel) rfl
        have hFc := va_free (wc := [(m0, .inr (4, [.ref tr, .ref im, .ref fi, .ref se, .ref u0, .ref id, .ref ct, .int ra, .int ru, .int wg])), (id, .inr (1, [.ref jq, .int il2_10])), (jq, .inl (cB, 60, .inl g_11)), (im, .inr (1, [.ref iq, .int L])), (iq, .inl (cB, n, .inl g_15))]) hD hS hA [4, 5, 6, 7, 8] rfl
        have hkc : 0 ≤ 0 := by decide
        have hks : 0 ≤ 0 := by decide
        refine va_callv (va_runV (C := "DiscMaker$Maker") (As := [.int v16]) (rest := []) ⟨hx, hb, hml, hown, hts⟩ (c3_writePathHead l D cB cI cJ cZ cN cF H.size m0 tr im fi se u0 id ct ra ru wg jq il2_10 g_11 iq n L g_15 v16 (by (try dsimp only); first | assumption | omega | trivial) (by (try dsimp only); first | assumption | omega | trivial) (by (try dsimp only); first | assumption | omega | trivial)) (cwV 1 hts (lg_goodV k1091 k1093 k26 k120 kc_Maker_writePathHead) rfl rfl rfl (by decide +kernel) ⟨Nat.le_of_ble_eq_true rfl, Nat.le_of_ble_eq_true rfl⟩) ⟨fun a U g mk q => by obtain ⟨q0, q1, qP, qK, qN, qD⟩ := q; exact ⟨q0, q1, qP, va_K.moved (u := U) (U := U.calling g mk a) (Vm.Alike.refl U.vm) qK, qN.calling, qD⟩, va_recv hK hP (ci := 4) (q0 := 4) rfl rfl, fun U hU hW => ⟨rfl, by rw [hU], by rw [hU]; exact hPc, va_K.moved hW.alike hK, NN.warm hW hN, hDc.weaken (fun _ _ _ _ => trivial)⟩⟩ rfl rfl hl.1 rfl (lv_room (Nat.le_of_ble_eq_true rfl)) d_Maker_writePathTables_80 ⟨hkc, hks⟩) hS (fun q _ h => hFc q h) hFc (fun u t H1 locs ht hvm hp_r17 hB hz1 hk1 hS => ?_)
        obtain ⟨g_18, rfl⟩ : ∃ z, z = u := ⟨_, rfl⟩
        obtain ⟨hP1, hD1⟩ := hB
        rw [ht] at hP1
        obtain ⟨hP, hD⟩ := va_join (wr := [(lp, .inl (cI, 12, .inl fp)), (lt, .inl (cI, 40, .inl ft)), (lb, .inl (cI, 40, .inl fb)), (l0, .inr (3, [.int ln, .int lds, .int ltb, .ref lo, .ref lp, .ref lt, .ref lb, .ref le, .int lc, .int ld]))]) (w1 := [(m0, .inr (4, [.ref tr, .ref im, .ref fi, .ref se, .ref u0, .ref id, .ref ct, .int ra, .int ru, .int wg])), (id, .inr (1, [.ref jq, .int il2_10])), (jq, .inl (cB, 60, .inl g_11)), (im, .inr (1, [.ref iq, .int L])), (iq, .inl (cB, n, .inl g_18))]) hP hD [4, 5, 6, 7, 8] [0, 1, 2, 3] rfl rfl (by decide +kernel) (by decide +kernel) hk1 hFc hP1 hD1
        clear hPc hDc hFc hP1 hD1 hk1 hz1 hkc hks
        generalize H1 = H at hP hS ⊢
        have hP : va_P D CL [(lp, .inl (cI, 12, .inl fp)), (lt, .inl (cI, 40, .inl ft)), (lb, .inl (cI, 40, .inl fb)), (l0, .inr (3, [.int ln, .int lds, .int ltb, .ref lo, .ref lp, .ref lt, .ref lb, .ref le, .int lc, .int ld])), (m0, .inr (4, [.ref tr, .ref im, .ref fi, .ref se, .ref u0, .ref id, .ref ct, .int ra, .int ru, .int wg])), (id, .inr (1, [.ref jq, .int il2_10])), (jq, .inl (cB, 60, .inl g_11)), (im, .inr (1, [.ref iq, .int L])), (iq, .inl (cB, n, .inl g_18))] H := hP
        have hD : va_D A [(lp, .inl (cI, 12, .inl fp)), (lt, .inl (cI, 40, .inl ft)), (lb, .inl (cI, 40, .inl fb)), (l0, .inr (3, [.int ln, .int lds, .int ltb, .ref lo, .ref lp, .ref lt, .ref lb, .ref le, .int lc, .int ld])), (m0, .inr (4, [.ref tr, .ref im, .ref fi, .ref se, .ref u0, .ref id, .ref ct, .int ra, .int ru, .int wg])), (id, .inr (1, [.ref jq, .int il2_10])), (jq, .inl (cB, 60, .inl g_11)), (im, .inr (1, [.ref iq, .int L])), (iq, .inl (cB, n, .inl g_18))] := hD
        refine lv_aload_n hx hb d_Maker_writePathTables_83 rfl (lv_at hl 0 rfl) ?_
        refine va_get (D := D) (ci := 4) (v := .ref im) (C := "DiscMaker$Maker") (T := F_Maker) (N := 10) hx hb ht9 in_Maker hown hK hP 4 rfl rfl 1 (by decide) (ht9 _ k348) (fun _ h9 => h9) rfl d_Maker_writePathTables_84 ?_
        refine lv_iload_n hx hb d_Maker_writePathTables_87 rfl (lv_at hl 2 rfl) ?_
        refine lv_iload hx hb d_Maker_writePathTables_88 (lv_at hl 4 rfl) ?_
        refine lv_iadd hx hb d_Maker_writePathTables_90 ?_
        refine lv_topi (fun v19 e_v19 => ?_)
        refine lv_iconst (v := 2) hx hb d_Maker_writePathTables_91 (by decide) ?_
        refine lv_iadd hx hb d_Maker_writePathTables_92 ?_
        refine lv_topi (fun v20 e_v20 => ?_)
        refine lv_aload_n hx hb d_Maker_writePathTables_93 rfl (lv_at hl 1 rfl) ?_
        refine va_getN (D := D) (ci := 3) (v := .ref lb) (C := "DiscMaker$Layout") (T := F_Layout) (N := 10) hx hb ht9 in_Layout hown hK hP 3 rfl rfl 6 (by decide) (va_Nw.use rfl (hN _ k293)) (fun _ h9 => h9) rfl d_Maker_writePathTables_94 ?_
        refine lv_aload hx hb d_Maker_writePathTables_97 (lv_at hl 6 rfl) ?_
        have hPR := RO_at hZr hS
        refine va_getN (D := D) (ci := 5) (v := .int (ng v3.toNatClampNeg 1)) (C := "DiscMaker$Node") (T := F_Node) (N := 12) hx hb ht9 in_Node hown hK hPR _ (pix (X := [(tr, .inr (10, [.ref ta, .int cn, .int dr])), (ta, .inl (cN, 40, .inr (.inr (.inr (.inr (rowF na cm))))))]) hj5) rfl 4 (by decide) (va_Nw.use rfl (hN _ k195)) (fun _ h9 => h9) rfl d_Maker_writePathTables_99 ?_
        refine va_iald hx hb hK hP 2 1 rfl rfl (vp_in_iff.mpr ⟨by omega, by omega⟩) d_Maker_writePathTables_102 ?_
        refine lv_topi (fun v21 e_v21 => ?_)
        refine lv_iconst (v := 4) hx hb d_Maker_writePathTables_103 (by decide) ?_
        have hPc := hP.sub (ws' := [(im, .inr (1, [.ref iq, .int L])), (iq, .inl (cB, n, .inl g_18))]) [7, 8] rfl
        have hDc := hD.sub (ws' := [(im, .inr (1, [.ref iq, .int L])), (iq, .inl (cB, n, .inl g_18))]) [7, 8] (by decide +kernel) rfl
        have hFc := va_free (wc := [(im, .inr (1, [.ref iq, .int L])), (iq, .inl (cB, n, .inl g_18))]) hD hS hA [7, 8] rfl
        have hkc : 0 ≤ 0 := by decide
        have hks : 0 ≤ 0 := by decide
        refine va_callv (va_runV (C := "DiscMaker$Bytes") (As := [.int v20, .int v21, .int 4]) (rest := []) ⟨hx, hb, hml, hown, hts⟩ (c3_putLow l D cB cI cJ cZ cN cF H.size im iq n L g_18 v20 v21 4 (by (try dsimp only); first | assumption | omega | trivial) (by (try dsimp only); first | assumption | omega | trivial) (by (try dsimp only); first | assumption | omega | trivial)) (cwV 3 hts (lg_goodV k1095 k1096 k1097 k119 kc_Bytes_putLow) rfl rfl rfl (by decide +kernel) ⟨Nat.le_of_ble_eq_true rfl, Nat.le_of_ble_eq_true rfl⟩) ⟨fun a U g mk q => by obtain ⟨q0, q1, qP, qK, qN, qD⟩ := q; exact ⟨q0, q1, qP, va_K.moved (u := U) (U := U.calling g mk a) (Vm.Alike.refl U.vm) qK, qN.calling, qD⟩, va_recv hK hP (ci := 1) (q0 := 7) rfl rfl, fun U hU hW => ⟨rfl, by rw [hU], by rw [hU]; exact hPc, va_K.moved hW.alike hK, NN.warm hW hN, hDc.weaken (fun _ _ _ _ => trivial)⟩⟩ rfl rfl hl.1 rfl (lv_room (Nat.le_of_ble_eq_true rfl)) d_Maker_writePathTables_104 ⟨hkc, hks⟩) hS (fun q _ h => hFc q h) hFc (fun u t H1 locs ht hvm hp_r22 hB hz1 hk1 hS => ?_)
        obtain ⟨g_23, rfl⟩ : ∃ z, z = u := ⟨_, rfl⟩
        obtain ⟨hP1, hD1⟩ := hB
        rw [ht] at hP1
        obtain ⟨hP, hD⟩ := va_join (wr := [(lp, .inl (cI, 12, .inl fp)), (lt, .inl (cI, 40, .inl ft)), (lb, .inl (cI, 40, .inl fb)), (l0, .inr (3, [.int ln, .int lds, .int ltb, .ref lo, .ref lp, .ref lt, .ref lb, .ref le, .int lc, .int ld])), (m0, .inr (4, [.ref tr, .ref im, .ref fi, .ref se, .ref u0, .ref id, .ref ct, .int ra, .int ru, .int wg])), (id, .inr (1, [.ref jq, .int il2_10])), (jq, .inl (cB, 60, .inl g_11))]) (w1 := [(im, .inr (1, [.ref iq, .int L])), (iq, .inl (cB, n, .inl g_23))]) hP hD [7, 8] [0, 1, 2, 3, 4, 5, 6] rfl rfl (by decide +kernel) (by decide +kernel) hk1 hFc hP1 hD1
        clear hPc hDc hFc hP1 hD1 hk1 hz1 hkc hks
        generalize H1 = H at hP hS ⊢
        have hP : va_P D CL [(lp, .inl (cI, 12, .inl fp)), (lt, .inl (cI, 40, .inl ft)), (lb, .inl (cI, 40, .inl fb)), (l0, .inr (3, [.int ln, .int lds, .int ltb, .ref lo, .ref lp, .ref lt, .ref lb, .ref le, .int lc, .int ld])), (m0, .inr (4, [.ref tr, .ref im, .ref fi, .ref se, .ref u0, .ref id, .ref ct, .int ra, .int ru, .int wg])), (id, .inr (1, [.ref jq, .int il2_10])), (jq, .inl (cB, 60, .inl g_11)), (im, .inr (1, [.ref iq, .int L])), (iq, .inl (cB, n, .inl g_23))] H := hP
        have hD : va_D A [(lp, .inl (cI, 12, .inl fp)), (lt, .inl (cI, 40, .inl ft)), (lb, .inl (cI, 40, .inl fb)), (l0, .inr (3, [.int ln, .int lds, .int ltb, .ref lo, .ref lp, .ref lt, .ref lb, .ref le, .int lc, .int ld])), (m0, .inr (4, [.ref tr, .ref im, .ref fi, .ref se, .ref u0, .ref id, .ref ct, .int ra, .int ru, .int wg])), (id, .inr (1, [.ref jq, .int il2_10])), (jq, .inl (cB, 60, .inl g_11)), (im, .inr (1, [.ref iq, .int L])), (iq, .inl (cB, n, .inl g_23))] := hD
        refine lv_aload_n hx hb d_Maker_writePathTables_107 rfl (lv_at hl 0 rfl) ?_
        refine va_get (D := D) (ci := 4) (v := .ref im) (C := "DiscMaker$Maker") (T := F_Maker) (N := 10) hx hb ht9 in_Maker hown hK hP 4 rfl rfl 1 (by decide) (ht9 _ k348) (fun _ h9 => h9) rfl d_Maker_writePathTables_108 ?_
        refine lv_iload_n hx hb d_Maker_writePathTables_111 rfl (lv_at hl 3 rfl) ?_
        refine lv_iload hx hb d_Maker_writePathTables_112 (lv_at hl 4 rfl) ?_
        refine lv_iadd hx hb d_Maker_writePathTables_114 ?_
        refine lv_topi (fun v24 e_v24 => ?_)
        refine lv_iconst (v := 2) hx hb d_Maker_writePathTables_115 (by decide) ?_
        refine lv_iadd hx hb d_Maker_writePathTables_116 ?_
        refine lv_topi (fun v25 e_v25 => ?_)
        refine lv_aload_n hx hb d_Maker_writePathTables_117 rfl (lv_at hl 1 rfl) ?_
        refine va_getN (D := D) (ci := 3) (v := .ref lb) (C := "DiscMaker$Layout") (T := F_Layout) (N := 10) hx hb ht9 in_Layout hown hK hP 3 rfl rfl 6 (by decide) (va_Nw.use rfl (hN _ k293)) (fun _ h9 => h9) rfl d_Maker_writePathTables_118 ?_
        refine lv_aload hx hb d_Maker_writePathTables_121 (lv_at hl 6 rfl) ?_
        have hPR := RO_at hZr hS
        refine va_getN (D := D) (ci := 5) (v := .int (ng v3.toNatClampNeg 1)) (C := "DiscMaker$Node") (T := F_Node) (N := 12) hx hb ht9 in_Node hown hK hPR _ (pix (X := [(tr, .inr (10, [.ref ta, .int cn, .int dr])), (ta, .inl (cN, 40, .inr (.inr (.inr (.inr (rowF na cm))))))]) hj5) rfl 4 (by decide) (va_Nw.use rfl (hN _ k195)) (fun _ h9 => h9) rfl d_Maker_writePathTables_123 ?_
        refine va_iald hx hb hK hP 2 1 rfl rfl (vp_in_iff.mpr ⟨by omega, by omega⟩) d_Maker_writePathTables_126 ?_
        refine lv_topi (fun v26 e_v26 => ?_)
        have q_v26 : v26.toInt = v21.toInt := by rw [e_v26, e_v21]
        refine lv_iconst (v := 4) hx hb d_Maker_writePathTables_127 (by decide) ?_
        have hPc := hP.sub (ws' := [(im, .inr (1, [.ref iq, .int L])), (iq, .inl (cB, n, .inl g_23))]) [7, 8] rfl
        have hDc := hD.sub (ws' := [(im, .inr (1, [.ref iq, .int L])), (iq, .inl (cB, n, .inl g_23))]) [7, 8] (by decide +kernel) rfl
        have hFc := va_free (wc := [(im, .inr (1, [.ref iq, .int L])), (iq, .inl (cB, n, .inl g_23))]) hD hS hA [7, 8] rfl
        have hkc : 0 ≤ 0 := by decide
        have hks : 0 ≤ 0 := by decide
        refine va_callv (va_runV (C := "DiscMaker$Bytes") (As := [.int v25, .int v26, .int 4]) (rest := []) ⟨hx, hb, hml, hown, hts⟩ (c3_putHigh l D cB cI cJ cZ cN cF H.size im iq n L g_23 v25 v26 4 (by (try dsimp only); first | assumption | omega | trivial) (by (try dsimp only); first | assumption | omega | trivial) (by (try dsimp only); first | assumption | omega | trivial)) (cwV 3 hts (lg_goodV k1072 k985 k986 k119 kc_Bytes_putHigh) rfl rfl rfl (by decide +kernel) ⟨Nat.le_of_ble_eq_true rfl, Nat.le_of_ble_eq_true rfl⟩) ⟨fun a U g mk q => by obtain ⟨q0, q1, qP, qK, qN, qD⟩ := q; exact ⟨q0, q1, qP, va_K.moved (u := U) (U := U.calling g mk a) (Vm.Alike.refl U.vm) qK, qN.calling, qD⟩, va_recv hK hP (ci := 1) (q0 := 7) rfl rfl, fun U hU hW => ⟨rfl, by rw [hU], by rw [hU]; exact hPc, va_K.moved hW.alike hK, NN.warm hW hN, hDc.weaken (fun _ _ _ _ => trivial)⟩⟩ rfl rfl hl.1 rfl (lv_room (Nat.le_of_ble_eq_true rfl)) d_Maker_writePathTables_128 ⟨hkc, hks⟩) hS (fun q _ h => hFc q h) hFc (fun u t H1 locs ht hvm hp_r27 hB hz1 hk1 hS => ?_)
        obtain ⟨g_28, rfl⟩ : ∃ z, z = u := ⟨_, rfl⟩
        obtain ⟨hP1, hD1⟩ := hB
        rw [ht] at hP1
        obtain ⟨hP, hD⟩ := va_join (wr := [(lp, .inl (cI, 12, .inl fp)), (lt, .inl (cI, 40, .inl ft)), (lb, .inl (cI, 40, .inl fb)), (l0, .inr (3, [.int ln, .int lds, .int ltb, .ref lo, .ref lp, .ref lt, .ref lb, .ref le, .int lc, .int ld])), (m0, .inr (4, [.ref tr, .ref im, .ref fi, .ref se, .ref u0, .ref id, .ref ct, .int ra, .int ru, .int wg])), (id, .inr (1, [.ref jq, .int il2_10])), (jq, .inl (cB, 60, .inl g_11))]) (w1 := [(im, .inr (1, [.ref iq, .int L])), (iq, .inl (cB, n, .inl g_28))]) hP hD [7, 8] [0, 1, 2, 3, 4, 5, 6] rfl rfl (by decide +kernel) (by decide +kernel) hk1 hFc hP1 hD1
        clear hPc hDc hFc hP1 hD1 hk1 hz1 hkc hks
        generalize H1 = H at hP hS ⊢
        have hP : va_P D CL [(lp, .inl (cI, 12, .inl fp)), (lt, .inl (cI, 40, .inl ft)), (lb, .inl (cI, 40, .inl fb)), (l0, .inr (3, [.int ln, .int lds, .int ltb, .ref lo, .ref lp, .ref lt, .ref lb, .ref le, .int lc, .int ld])), (m0, .inr (4, [.ref tr, .ref im, .ref fi, .ref se, .ref u0, .ref id, .ref ct, .int ra, .int ru, .int wg])), (id, .inr (1, [.ref jq, .int il2_10])), (jq, .inl (cB, 60, .inl g_11)), (im, .inr (1, [.ref iq, .int L])), (iq, .inl (cB, n, .inl g_28))] H := hP
        have hD : va_D A [(lp, .inl (cI, 12, .inl fp)), (lt, .inl (cI, 40, .inl ft)), (lb, .inl (cI, 40, .inl fb)), (l0, .inr (3, [.int ln, .int lds, .int ltb, .ref lo, .ref lp, .ref lt, .ref lb, .ref le, .int lc, .int ld])), (m0, .inr (4, [.ref tr, .ref im, .ref fi, .ref se, .ref u0, .ref id, .ref ct, .int ra, .int ru, .int wg])), (id, .inr (1, [.ref jq, .int il2_10])), (jq, .inl (cB, 60, .inl g_11)), (im, .inr (1, [.ref iq, .int L])), (iq, .inl (cB, n, .inl g_28))] := hD
        refine lv_aload_n hx hb d_Maker_writePathTables_131 rfl (lv_at hl 0 rfl) ?_
        refine va_get (D := D) (ci := 4) (v := .ref im) (C := "DiscMaker$Maker") (T := F_Maker) (N := 10) hx hb ht9 in_Maker hown hK hP 4 rfl rfl 1 (by decide) (ht9 _ k348) (fun _ h9 => h9) rfl d_Maker_writePathTables_132 ?_
        refine lv_iload_n hx hb d_Maker_writePathTables_135 rfl (lv_at hl 2 rfl) ?_
        refine lv_iload hx hb d_Maker_writePathTables_136 (lv_at hl 4 rfl) ?_
        refine lv_iadd hx hb d_Maker_writePathTables_138 ?_
        refine lv_topi (fun v29 e_v29 => ?_)
        refine lv_bipush (v := 6) hx hb d_Maker_writePathTables_139 (by decide) ?_
        refine lv_iadd hx hb d_Maker_writePathTables_141 ?_
        refine lv_topi (fun v30 e_v30 => ?_)
        refine lv_aload_n hx hb d_Maker_writePathTables_142 rfl (lv_at hl 1 rfl) ?_
        refine va_getN (D := D) (ci := 3) (v := .ref lt) (C := "DiscMaker$Layout") (T := F_Layout) (N := 10) hx hb ht9 in_Layout hown hK hP 3 rfl rfl 5 (by decide) (va_Nw.use rfl (hN _ k291)) (fun _ h9 => h9) rfl d_Maker_writePathTables_143 ?_
        refine lv_aload hx hb d_Maker_writePathTables_146 (lv_at hl 6 rfl) ?_
        have hPR := RO_at hZr hS
        refine va_getN (D := D) (ci := 5) (v := .int (ng v3.toNatClampNeg 2)) (C := "DiscMaker$Node") (T := F_Node) (N := 12) hx hb ht9 in_Node hown hK hPR _ (pix (X := [(tr, .inr (10, [.ref ta, .int cn, .int dr])), (ta, .inl (cN, 40, .inr (.inr (.inr (.inr (rowF na cm))))))]) hj5) rfl 5 (by decide) (va_Nw.use rfl (hN _ k197)) (fun _ h9 => h9) rfl d_Maker_writePathTables_148 ?_
        refine va_iald hx hb hK hP 1 1 rfl rfl (vp_in_iff.mpr ⟨by omega, by omega⟩) d_Maker_writePathTables_151 ?_
        refine lv_topi (fun v31 e_v31 => ?_)
        refine lv_iconst (v := 2) hx hb d_Maker_writePathTables_152 (by decide) ?_
        have hPc := hP.sub (ws' := [(im, .inr (1, [.ref iq, .int L])), (iq, .inl (cB, n, .inl g_28))]) [7, 8] rfl
        have hDc := hD.sub (ws' := [(im, .inr (1, [.ref iq, .int L])), (iq, .inl (cB, n, .inl g_28))]) [7, 8] (by decide +kernel) rfl
        have hFc := va_free (wc := [(im, .inr (1, [.ref iq, .int L])), (iq, .inl (cB, n, .inl g_28))]) hD hS hA [7, 8] rfl
        have hkc : 0 ≤ 0 := by decide
        have hks : 0 ≤ 0 := by decide
        refine va_callv (va_runV (C := "DiscMaker$Bytes") (As := [.int v30, .int v31, .int 2]) (rest := []) ⟨hx, hb, hml, hown, hts⟩ (c3_putLow l D cB cI cJ cZ cN cF H.size im iq n L g_28 v30 v31 2 (by (try dsimp only); first | assumption | omega | trivial) (by (try dsimp only); first | assumption | omega | trivial) (by (try dsimp only); first | assumption | omega | trivial)) (cwV 3 hts (lg_goodV k1095 k1096 k1097 k119 kc_Bytes_putLow) rfl rfl rfl (by decide +kernel) ⟨Nat.le_of_ble_eq_true rfl, Nat.le_of_ble_eq_true rfl⟩) ⟨fun a U g mk q => by obtain ⟨q0, q1, qP, qK, qN, qD⟩ := q; exact ⟨q0, q1, qP, va_K.moved (u := U) (U := U.calling g mk a) (Vm.Alike.refl U.vm) qK, qN.calling, qD⟩, va_recv hK hP (ci := 1) (q0 := 7) rfl rfl, fun U hU hW => ⟨rfl, by rw [hU], by rw [hU]; exact hPc, va_K.moved hW.alike hK, NN.warm hW hN, hDc.weaken (fun _ _ _ _ => trivial)⟩⟩ rfl rfl hl.1 rfl (lv_room (Nat.le_of_ble_eq_true rfl)) d_Maker_writePathTables_153 ⟨hkc, hks⟩) hS (fun q _ h => hFc q h) hFc (fun u t H1 locs ht hvm hp_r32 hB hz1 hk1 hS => ?_)
        obtain ⟨g_33, rfl⟩ : ∃ z, z = u := ⟨_, rfl⟩
        obtain ⟨hP1, hD1⟩ := hB
        rw [ht] at hP1
        obtain ⟨hP, hD⟩ := va_join (wr := [(lp, .inl (cI, 12, .inl fp)), (lt, .inl (cI, 40, .inl ft)), (lb, .inl (cI, 40, .inl fb)), (l0, .inr (3, [.int ln, .int lds, .int ltb, .ref lo, .ref lp, .ref lt, .ref lb, .ref le, .int lc, .int ld])), (m0, .inr (4, [.ref tr, .ref im, .ref fi, .ref se, .ref u0, .ref id, .ref ct, .int ra, .int ru, .int wg])), (id, .inr (1, [.ref jq, .int il2_10])), (jq, .inl (cB, 60, .inl g_11))]) (w1 := [(im, .inr (1, [.ref iq, .int L])), (iq, .inl (cB, n, .inl g_33))]) hP hD [7, 8] [0, 1, 2, 3, 4, 5, 6] rfl rfl (by decide +kernel) (by decide +kernel) hk1 hFc hP1 hD1
        clear hPc hDc hFc hP1 hD1 hk1 hz1 hkc hks
        generalize H1 = H at hP hS ⊢
        have hP : va_P D CL [(lp, .inl (cI, 12, .inl fp)), (lt, .inl (cI, 40, .inl ft)), (lb, .inl (cI, 40, .inl fb)), (l0, .inr (3, [.int ln, .int lds, .int ltb, .ref lo, .ref lp, .ref lt, .ref lb, .ref le, .int lc, .int ld])), (m0, .inr (4, [.ref tr, .ref im, .ref fi, .ref se, .ref u0, .ref id, .ref ct, .int ra, .int ru, .int wg])), (id, .inr (1, [.ref jq, .int il2_10])), (jq, .inl (cB, 60, .inl g_11)), (im, .inr (1, [.ref iq, .int L])), (iq, .inl (cB, n, .inl g_33))] H := hP
        have hD : va_D A [(lp, .inl (cI, 12, .inl fp)), (lt, .inl (cI, 40, .inl ft)), (lb, .inl (cI, 40, .inl fb)), (l0, .inr (3, [.int ln, .int lds, .int ltb, .ref lo, .ref lp, .ref lt, .ref lb, .ref le, .int lc, .int ld])), (m0, .inr (4, [.ref tr, .ref im, .ref fi, .ref se, .ref u0, .ref id, .ref ct, .int ra, .int ru, .int wg])), (id, .inr (1, [.ref jq, .int il2_10])), (jq, .inl (cB, 60, .inl g_11)), (im, .inr (1, [.ref iq, .int L])), (iq, .inl (cB, n, .inl g_33))] := hD
        refine lv_aload_n hx hb d_Maker_writePathTables_156 rfl (lv_at hl 0 rfl) ?_
        refine va_get (D := D) (ci := 4) (v := .ref im) (C := "DiscMaker$Maker") (T := F_Maker) (N := 10) hx hb ht9 in_Maker hown hK hP 4 rfl rfl 1 (by decide) (ht9 _ k348) (fun _ h9 => h9) rfl d_Maker_writePathTables_157 ?_
        refine lv_iload_n hx hb d_Maker_writePathTables_160 rfl (lv_at hl 3 rfl) ?_
        refine lv_iload hx hb d_Maker_writePathTables_161 (lv_at hl 4 rfl) ?_
        refine lv_iadd hx hb d_Maker_writePathTables_163 ?_
        refine lv_topi (fun v34 e_v34 => ?_)
        refine lv_bipush (v := 6) hx hb d_Maker_writePathTables_164 (by decide) ?_
        refine lv_iadd hx hb d_Maker_writePathTables_166 ?_
        refine lv_topi (fun v35 e_v35 => ?_)
        refine lv_aload_n hx hb d_Maker_writePathTables_167 rfl (lv_at hl 1 rfl) ?_
        refine va_getN (D := D) (ci := 3) (v := .ref lt) (C := "DiscMaker$Layout") (T := F_Layout) (N := 10) hx hb ht9 in_Layout hown hK hP 3 rfl rfl 5 (by decide) (va_Nw.use rfl (hN _ k291)) (fun _ h9 => h9) rfl d_Maker_writePathTables_168 ?_
        refine lv_aload hx hb d_Maker_writePathTables_171 (lv_at hl 6 rfl) ?_
        have hPR := RO_at hZr hS
        refine va_getN (D := D) (ci := 5) (v := .int (ng v3.toNatClampNeg 2)) (C := "DiscMaker$Node") (T := F_Node) (N := 12) hx hb ht9 in_Node hown hK hPR _ (pix (X := [(tr, .inr (10, [.ref ta, .int cn, .int dr])), (ta, .inl (cN, 40, .inr (.inr (.inr (.inr (rowF na cm))))))]) hj5) rfl 5 (by decide) (va_Nw.use rfl (hN _ k197)) (fun _ h9 => h9) rfl d_Maker_writePathTables_173 ?_
        refine va_iald hx hb hK hP 1 1 rfl rfl (vp_in_iff.mpr ⟨by omega, by omega⟩) d_Maker_writePathTables_176 ?_
        refine lv_topi (fun v36 e_v36 => ?_)
        have q_v36 : v36.toInt = v31.toInt := by rw [e_v36, e_v31]
        refine lv_iconst (v := 2) hx hb d_Maker_writePathTables_177 (by decide) ?_
        have hPc := hP.sub (ws' := [(im, .inr (1, [.ref iq, .int L])), (iq, .inl (cB, n, .inl g_33))]) [7, 8] rfl
        have hDc := hD.sub (ws' := [(im, .inr (1, [.ref iq, .int L])), (iq, .inl (cB, n, .inl g_33))]) [7, 8] (by decide +kernel) rfl
        have hFc := va_free (wc := [(im, .inr (1, [.ref iq, .int L])), (iq, .inl (cB, n, .inl g_33))]) hD hS hA [7, 8] rfl
        have hkc : 0 ≤ 0 := by decide
        have hks : 0 ≤ 0 := by decide
        refine va_callv (va_runV (C := "DiscMaker$Bytes") (As := [.int v35, .int v36, .int 2]) (rest := []) ⟨hx, hb, hml, hown, hts⟩ (c3_putHigh l D cB cI cJ cZ cN cF H.size im iq n L g_33 v35 v36 2 (by (try dsimp only); first | assumption | omega | trivial) (by (try dsimp only); first | assumption | omega | trivial) (by (try dsimp only); first | assumption | omega | trivial)) (cwV 3 hts (lg_goodV k1072 k985 k986 k119 kc_Bytes_putHigh) rfl rfl rfl (by decide +kernel) ⟨Nat.le_of_ble_eq_true rfl, Nat.le_of_ble_eq_true rfl⟩) ⟨fun a U g mk q => by obtain ⟨q0, q1, qP, qK, qN, qD⟩ := q; exact ⟨q0, q1, qP, va_K.moved (u := U) (U := U.calling g mk a) (Vm.Alike.refl U.vm) qK, qN.calling, qD⟩, va_recv hK hP (ci := 1) (q0 := 7) rfl rfl, fun U hU hW => ⟨rfl, by rw [hU], by rw [hU]; exact hPc, va_K.moved hW.alike hK, NN.warm hW hN, hDc.weaken (fun _ _ _ _ => trivial)⟩⟩ rfl rfl hl.1 rfl (lv_room (Nat.le_of_ble_eq_true rfl)) d_Maker_writePathTables_178 ⟨hkc, hks⟩) hS (fun q _ h => hFc q h) hFc (fun u t H1 locs ht hvm hp_r37 hB hz1 hk1 hS => ?_)
        obtain ⟨g_38, rfl⟩ : ∃ z, z = u := ⟨_, rfl⟩
        obtain ⟨hP1, hD1⟩ := hB
        rw [ht] at hP1
        obtain ⟨hP, hD⟩ := va_join (wr := [(lp, .inl (cI, 12, .inl fp)), (lt, .inl (cI, 40, .inl ft)), (lb, .inl (cI, 40, .inl fb)), (l0, .inr (3, [.int ln, .int lds, .int ltb, .ref lo, .ref lp, .ref lt, .ref lb, .ref le, .int lc, .int ld])), (m0, .inr (4, [.ref tr, .ref im, .ref fi, .ref se, .ref u0, .ref id, .ref ct, .int ra, .int ru, .int wg])), (id, .inr (1, [.ref jq, .int il2_10])), (jq, .inl (cB, 60, .inl g_11))]) (w1 := [(im, .inr (1, [.ref iq, .int L])), (iq, .inl (cB, n, .inl g_38))]) hP hD [7, 8] [0, 1, 2, 3, 4, 5, 6] rfl rfl (by decide +kernel) (by decide +kernel) hk1 hFc hP1 hD1
        clear hPc hDc hFc hP1 hD1 hk1 hz1 hkc hks
        generalize H1 = H at hP hS ⊢
        have hP : va_P D CL [(lp, .inl (cI, 12, .inl fp)), (lt, .inl (cI, 40, .inl ft)), (lb, .inl (cI, 40, .inl fb)), (l0, .inr (3, [.int ln, .int lds, .int ltb, .ref lo, .ref lp, .ref lt, .ref lb, .ref le, .int lc, .int ld])), (m0, .inr (4, [.ref tr, .ref im, .ref fi, .ref se, .ref u0, .ref id, .ref ct, .int ra, .int ru, .int wg])), (id, .inr (1, [.ref jq, .int il2_10])), (jq, .inl (cB, 60, .inl g_11)), (im, .inr (1, [.ref iq, .int L])), (iq, .inl (cB, n, .inl g_38))] H := hP
        have hD : va_D A [(lp, .inl (cI, 12, .inl fp)), (lt, .inl (cI, 40, .inl ft)), (lb, .inl (cI, 40, .inl fb)), (l0, .inr (3, [.int ln, .int lds, .int ltb, .ref lo, .ref lp, .ref lt, .ref lb, .ref le, .int lc, .int ld])), (m0, .inr (4, [.ref tr, .ref im, .ref fi, .ref se, .ref u0, .ref id, .ref ct, .int ra, .int ru, .int wg])), (id, .inr (1, [.ref jq, .int il2_10])), (jq, .inl (cB, 60, .inl g_11)), (im, .inr (1, [.ref iq, .int L])), (iq, .inl (cB, n, .inl g_38))] := hD
        refine lv_iload hx hb d_Maker_writePathTables_181 (lv_at hl 4 rfl) ?_
        refine lv_bipush (v := 8) hx hb d_Maker_writePathTables_183 (by decide) ?_
        refine lv_aload_n hx hb d_Maker_writePathTables_185 rfl (lv_at hl 0 rfl) ?_
        refine va_get (D := D) (ci := 4) (v := .ref id) (C := "DiscMaker$Maker") (T := F_Maker) (N := 10) hx hb ht9 in_Maker hown hK hP 4 rfl rfl 5 (by decide) (ht9 _ k352) (fun _ h9 => h9) rfl d_Maker_writePathTables_186 ?_
        refine va_getN (D := D) (ci := 1) (v := .int il2_10) (C := "DiscMaker$Bytes") (T := F_Bytes) (N := 2) hx hb ht9 in_Bytes hown hK hP 5 rfl rfl 1 (by decide) (va_Nw.use rfl (hN _ k257)) (fun _ h9 => h9) rfl d_Maker_writePathTables_189 ?_
        have hPc := hP.sub (ws' := []) [] rfl
        have hDc := hD.sub (ws' := []) [] (by decide +kernel) rfl
        have hFc := va_free (wc := []) hD hS hA [] rfl
        have hkc : 0 ≤ 0 := by decide
        have hks : 0 ≤ 0 := by decide
        refine va_calli (va_runSN (As := [.int il2_10]) (rest := [.int 8, .int la]) ⟨hx, hb, hml, hown, hts⟩ (c3_even l D cB cI cJ cZ cN cF H.size il2_10 (by (try dsimp only); first | assumption | omega | trivial)) ⟨va_cnB 1 hts (lg_good kc_DiscMaker_even) rfl rfl rfl (hN _ k998) (ht9 _ k115) (by decide +kernel) ⟨Nat.le_of_ble_eq_true rfl, Nat.le_of_ble_eq_true rfl⟩, ht9 _ k999, trivial⟩ ⟨fun a U g mk q => by obtain ⟨q0, q1, qP, qK, qN, qD⟩ := q; exact ⟨q0, q1, qP, va_K.moved (u := U) (U := U.calling g mk a) (Vm.Alike.refl U.vm) qK, qN.calling, qD⟩, fun U hU hW => ⟨rfl, by rw [hU], by rw [hU]; exact hPc, va_K.moved hW.alike hK, NN.warm hW hN, hDc.weaken (fun _ _ _ _ => trivial)⟩⟩ rfl rfl hl.1 rfl (lv_room (Nat.le_of_ble_eq_true rfl)) d_Maker_writePathTables_192 ⟨hkc, hks⟩) hS (fun q _ h => hFc q h) hFc (fun r39 u t H1 locs ht hvm hp_r39 hB hz1 hk1 hS => ?_)
        obtain ⟨hP1, hD1⟩ := hB
        rw [ht] at hP1
        obtain ⟨hP, hD⟩ := va_join (wr := [(lp, .inl (cI, 12, .inl fp)), (lt, .inl (cI, 40, .inl ft)), (lb, .inl (cI, 40, .inl fb)), (l0, .inr (3, [.int ln, .int lds, .int ltb, .ref lo, .ref lp, .ref lt, .ref lb, .ref le, .int lc, .int ld])), (m0, .inr (4, [.ref tr, .ref im, .ref fi, .ref se, .ref u0, .ref id, .ref ct, .int ra, .int ru, .int wg])), (id, .inr (1, [.ref jq, .int il2_10])), (jq, .inl (cB, 60, .inl g_11)), (im, .inr (1, [.ref iq, .int L])), (iq, .inl (cB, n, .inl g_38))]) (w1 := []) hP hD [] [0, 1, 2, 3, 4, 5, 6, 7, 8] rfl rfl (by decide +kernel) (by decide +kernel) hk1 hFc hP1 hD1
        clear hPc hDc hFc hP1 hD1 hk1 hz1 hkc hks
        generalize H1 = H at hP hS ⊢
        have hP : va_P D CL [(lp, .inl (cI, 12, .inl fp)), (lt, .inl (cI, 40, .inl ft)), (lb, .inl (cI, 40, .inl fb)), (l0, .inr (3, [.int ln, .int lds, .int ltb, .ref lo, .ref lp, .ref lt, .ref lb, .ref le, .int lc, .int ld])), (m0, .inr (4, [.ref tr, .ref im, .ref fi, .ref se, .ref u0, .ref id, .ref ct, .int ra, .int ru, .int wg])), (id, .inr (1, [.ref jq, .int il2_10])), (jq, .inl (cB, 60, .inl g_11)), (im, .inr (1, [.ref iq, .int L])), (iq, .inl (cB, n, .inl g_38))] H := hP
        have hD : va_D A [(lp, .inl (cI, 12, .inl fp)), (lt, .inl (cI, 40, .inl ft)), (lb, .inl (cI, 40, .inl fb)), (l0, .inr (3, [.int ln, .int lds, .int ltb, .ref lo, .ref lp, .ref lt, .ref lb, .ref le, .int lc, .int ld])), (m0, .inr (4, [.ref tr, .ref im, .ref fi, .ref se, .ref u0, .ref id, .ref ct, .int ra, .int ru, .int wg])), (id, .inr (1, [.ref jq, .int il2_10])), (jq, .inl (cB, 60, .inl g_11)), (im, .inr (1, [.ref iq, .int L])), (iq, .inl (cB, n, .inl g_38))] := hD
        try dsimp only at hp_r39
        have hv_40 := hp_r39
        refine lv_iadd hx hb d_Maker_writePathTables_195 ?_
        refine lv_topi (fun v41 e_v41 => ?_)
        have t_v41 : v41.toInt = 8 + r39.toInt := by rw [e_v41]; exact i_add (by decide) rfl (by omega) (by omega)
        refine lv_iadd hx hb d_Maker_writePathTables_196 ?_
        refine lv_topi (fun v42 e_v42 => ?_)
        have t_v42 : v42.toInt = la.toInt + v41.toInt := by rw [e_v42]; exact i_add rfl rfl (by omega) (by omega)
        refine lv_istore hx hb d_Maker_writePathTables_197 hl (by decide) rfl (fun ls hl => ?_)
        have hl : lv_has ls 7 [(4, .int v42), (0, .ref m0), (1, .ref l0), (2, .int bl), (3, .int bh9), (5, .int kx), (6, .ref (na v3.toNatClampNeg 0))] := hl
        obtain ⟨v43, e_v43⟩ : ∃ z : Int32, z = kx + 1 := ⟨_, rfl⟩
        refine lv_iinc (v := v43) hx hb d_Maker_writePathTables_199 hl (k := 5) rfl e_v43.symm (by decide +kernel) rfl (fun ls hl => ?_)
        have t_v43 : v43.toInt = kx.toInt + 1 := by rw [e_v43]; exact i_add rfl (by decide) (by omega) (by omega)
        have hl : lv_has ls 7 [(5, .int v43), (4, .int v42), (0, .ref m0), (1, .ref l0), (2, .int bl), (3, .int bh9), (6, .ref (na v3.toNatClampNeg 0))] := hl
        refine lv_goto (tgt := 21) hx hb d_Maker_writePathTables_202 (by decide) ?_
        have hP := hP.sub (ws' := [(m0, .inr (4, [.ref tr, .ref im, .ref fi, .ref se, .ref u0, .ref id, .ref ct, .int ra, .int ru, .int wg])), (l0, .inr (3, [.int ln, .int lds, .int ltb, .ref lo, .ref lp, .ref lt, .ref lb, .ref le, .int lc, .int ld])), (lp, .inl (cI, 12, .inl fp)), (lt, .inl (cI, 40, .inl ft)), (lb, .inl (cI, 40, .inl fb)), (id, .inr (1, [.ref jq, .int il2_10])), (jq, .inl (cB, 60, .inl g_11)), (im, .inr (1, [.ref iq, .int L])), (iq, .inl (cB, n, .inl g_38))]) [4, 3, 0, 1, 2, 5, 6, 7, 8] rfl
        have hD := hD.sub (ws' := [(m0, .inr (4, [.ref tr, .ref im, .ref fi, .ref se, .ref u0, .ref id, .ref ct, .int ra, .int ru, .int wg])), (l0, .inr (3, [.int ln, .int lds, .int ltb, .ref lo, .ref lp, .ref lt, .ref lb, .ref le, .int lc, .int ld])), (lp, .inl (cI, 12, .inl fp)), (lt, .inl (cI, 40, .inl ft)), (lb, .inl (cI, 40, .inl fb)), (id, .inr (1, [.ref jq, .int il2_10])), (jq, .inl (cB, 60, .inl g_11)), (im, .inr (1, [.ref iq, .int L])), (iq, .inl (cB, n, .inl g_38))]) [4, 3, 0, 1, 2, 5, 6, 7, 8] (by decide +kernel) rfl
        have hl := lv_sub hl [2, 3, 4, 5, 1, 0] rfl
        exact ih21 _ (by first | omega | (dsimp only; omega)) bl bh9 v42 v43 il2_10 g_11 g_38 _ _ _ rfl ((by (try dsimp only); first | assumption | omega | trivial)) ((by (try dsimp only); first | assumption | omega | trivial)) hP hD hS hl
      · skip
        intro kk64
        refine lv_aload hx hb d_Maker_writePathTables_51 (lv_at hl 0 rfl) ?_
        have hPR := RO_at hZr hS
        refine va_getN (D := D) (ci := 5) (v := .int (ng v3.toNatClampNeg 1)) (C := "DiscMaker$Node") (T := F_Node) (N := 12) hx hb ht9 in_Node hown hK hPR _ (pix (X := [(tr, .inr (10, [.ref ta, .int cn, .int dr])), (ta, .inl (cN, 40, .inr (.inr (.inr (.inr (rowF na cm))))))]) hj5) rfl 4 (by decide) (va_Nw.use rfl (hN _ k195)) (fun _ h9 => h9) rfl d_Maker_writePathTables_53 ?_
        refine lv_if_ne (tgt := 63) hx hb d_Maker_writePathTables_56 (by decide) (fun h_9 => ?_) (fun h_9 => ?_)
        · skip
          have g56_113 : ¬ (ng v3.toNatClampNeg 1).toInt = 0 := fun h8 => h_9 ((i_eq rfl (by decide)).mpr h8)
          refine lv_iconst (v := 2) hx hb d_Maker_writePathTables_63 (by decide) ?_
          have hP := hP.sub (ws' := [(m0, .inr (4, [.ref tr, .ref im, .ref fi, .ref se, .ref u0, .ref id, .ref ct, .int ra, .int ru, .int wg])), (l0, .inr (3, [.int ln, .int lds, .int ltb, .ref lo, .ref lp, .ref lt, .ref lb, .ref le, .int lc, .int ld])), (lp, .inl (cI, 12, .inl fp)), (lt, .inl (cI, 40, .inl ft)), (lb, .inl (cI, 40, .inl fb)), (id, .inr (1, [.ref jq, .int lil])), (jq, .inl (cB, 60, .inl ljf)), (im, .inr (1, [.ref iq, .int L])), (iq, .inl (cB, n, .inl lf))]) [0, 1, 2, 3, 4, 5, 6, 7, 8] rfl
          have hD := hD.sub (ws' := [(m0, .inr (4, [.ref tr, .ref im, .ref fi, .ref se, .ref u0, .ref id, .ref ct, .int ra, .int ru, .int wg])), (l0, .inr (3, [.int ln, .int lds, .int ltb, .ref lo, .ref lp, .ref lt, .ref lb, .ref le, .int lc, .int ld])), (lp, .inl (cI, 12, .inl fp)), (lt, .inl (cI, 40, .inl ft)), (lb, .inl (cI, 40, .inl fb)), (id, .inr (1, [.ref jq, .int lil])), (jq, .inl (cB, 60, .inl ljf)), (im, .inr (1, [.ref iq, .int L])), (iq, .inl (cB, n, .inl lf))]) [0, 1, 2, 3, 4, 5, 6, 7, 8] (by decide +kernel) rfl
          have hl := lv_sub hl [1, 2, 3, 4, 5, 6, 0] rfl
          exact kk64 _ 2 _ _ _ rfl  hP hD hS hl
        · skip
          have g56_113 : (ng v3.toNatClampNeg 1).toInt = 0 := (i_eq rfl (by decide)).mp h_9
          refine lv_iconst (v := 0) hx hb d_Maker_writePathTables_59 (by decide) ?_
          refine lv_goto (tgt := 64) hx hb d_Maker_writePathTables_60 (by decide) ?_
          have hP := hP.sub (ws' := [(m0, .inr (4, [.ref tr, .ref im, .ref fi, .ref se, .ref u0, .ref id, .ref ct, .int ra, .int ru, .int wg])), (l0, .inr (3, [.int ln, .int lds, .int ltb, .ref lo, .ref lp, .ref lt, .ref lb, .ref le, .int lc, .int ld])), (lp, .inl (cI, 12, .inl fp)), (lt, .inl (cI, 40, .inl ft)), (lb, .inl (cI, 40, .inl fb)), (id, .inr (1, [.ref jq, .int lil])), (jq, .inl (cB, 60, .inl ljf)), (im, .inr (1, [.ref iq, .int L])), (iq, .inl (cB, n, .inl lf))]) [0, 1, 2, 3, 4, 5, 6, 7, 8] rfl
          have hD := hD.sub (ws' := [(m0, .inr (4, [.ref tr, .ref im, .ref fi, .ref se, .ref u0, .ref id, .ref ct, .int ra, .int ru, .int wg])), (l0, .inr (3, [.int ln, .int lds, .int ltb, .ref lo, .ref lp, .ref lt, .ref lb, .ref le, .int lc, .int ld])), (lp, .inl (cI, 12, .inl fp)), (lt, .inl (cI, 40, .inl ft)), (lb, .inl (cI, 40, .inl fb)), (id, .inr (1, [.ref jq, .int lil])), (jq, .inl (cB, 60, .inl ljf)), (im, .inr (1, [.ref iq, .int L])), (iq, .inl (cB, n, .inl lf))]) [0, 1, 2, 3, 4, 5, 6, 7, 8] (by decide +kernel) rfl
          have hl := lv_sub hl [1, 2, 3, 4, 5, 6, 0] rfl
          exact kk64 _ 0 _ _ _ rfl  hP hD hS hl
  · skip
    intro kk21
    have hP := hP.sub (ws' := [(m0, .inr (4, [.ref tr, .ref im, .ref fi, .ref se, .ref u0, .ref id, .ref ct, .int ra, .int ru, .int wg])), (l0, .inr (3, [.int ln, .int lds, .int ltb, .ref lo, .ref lp, .ref lt, .ref lb, .ref le, .int lc, .int ld])), (lp, .inl (cI, 12, .inl fp)), (lt, .inl (cI, 40, .inl ft)), (lb, .inl (cI, 40, .inl fb)), (id, .inr (1, [.ref jq, .int il])), (jq, .inl (cB, 60, .inl jf)), (im, .inr (1, [.ref iq, .int L])), (iq, .inl (cB, n, .inl f))]) [0, 1, 2, 3, 4, 5, 6, 7, 8] rfl
    have hD := hD.sub (ws' := [(m0, .inr (4, [.ref tr, .ref im, .ref fi, .ref se, .ref u0, .ref id, .ref ct, .int ra, .int ru, .int wg])), (l0, .inr (3, [.int ln, .int lds, .int ltb, .ref lo, .ref lp, .ref lt, .ref lb, .ref le, .int lc, .int ld])), (lp, .inl (cI, 12, .inl fp)), (lt, .inl (cI, 40, .inl ft)), (lb, .inl (cI, 40, .inl fb)), (id, .inr (1, [.ref jq, .int il])), (jq, .inl (cB, 60, .inl jf)), (im, .inr (1, [.ref iq, .int L])), (iq, .inl (cB, n, .inl f))]) [0, 1, 2, 3, 4, 5, 6, 7, 8] (by decide +kernel) rfl
    have hl := lv_sub hl [4, 5, 3, 2, 1, 0] rfl
    exact kk21 _ v1 v2 0 0 il jf f _ _ _ rfl ((by (try dsimp only); first | assumption | omega | trivial)) ((by (try dsimp only); first | assumption | omega | trivial)) hP hD hS hl

theorem d_Maker_writeDescriptor_0 : decode b_Maker_writeDescriptor 0 = .ok (.aload_n 1, 1) := by decide +kernel
theorem d_Maker_writeDescriptor_1 : decode b_Maker_writeDescriptor 1 = .ok (.getfield 261, 3) := by decide +kernel
theorem d_Maker_writeDescriptor_4 : decode b_Maker_writeDescriptor 4 = .ok (.sipush 2048, 3) := by decide +kernel
theorem d_Maker_writeDescriptor_7 : decode b_Maker_writeDescriptor 7 = .ok (.imul, 1) := by decide +kernel
theorem d_Maker_writeDescriptor_8 : decode b_Maker_writeDescriptor 8 = .ok (.istore_n 3, 1) := by decide +kernel
theorem d_Maker_writeDescriptor_9 : decode b_Maker_writeDescriptor 9 = .ok (.aload_n 0, 1) := by decide +kernel
theorem d_Maker_writeDescriptor_10 : decode b_Maker_writeDescriptor 10 = .ok (.aload_n 1, 1) := by decide +kernel
theorem d_Maker_writeDescriptor_11 : decode b_Maker_writeDescriptor 11 = .ok (.getfield 261, 3) := by decide +kernel
theorem d_Maker_writeDescriptor_14 : decode b_Maker_writeDescriptor 14 = .ok (.aload_n 1, 1) := by decide +kernel
theorem d_Maker_writeDescriptor_15 : decode b_Maker_writeDescriptor 15 = .ok (.getfield 162, 3) := by decide +kernel
theorem d_Maker_writeDescriptor_18 : decode b_Maker_writeDescriptor 18 = .ok (.ifCond .eq 7, 3) := by decide +kernel
theorem d_Maker_writeDescriptor_21 : decode b_Maker_writeDescriptor 21 = .ok (.iconst 2, 1) := by decide +kernel
theorem d_Maker_writeDescriptor_22 : decode b_Maker_writeDescriptor 22 = .ok (.goto 4, 3) := by decide +kernel
theorem d_Maker_writeDescriptor_25 : decode b_Maker_writeDescriptor 25 = .ok (.iconst 1, 1) := by decide +kernel
theorem d_Maker_writeDescriptor_26 : decode b_Maker_writeDescriptor 26 = .ok (.invokevirtual 97, 3) := by decide +kernel
theorem d_Maker_writeDescriptor_29 : decode b_Maker_writeDescriptor 29 = .ok (.aload_n 0, 1) := by decide +kernel
theorem d_Maker_writeDescriptor_30 : decode b_Maker_writeDescriptor 30 = .ok (.getfield 47, 3) := by decide +kernel
theorem d_Maker_writeDescriptor_33 : decode b_Maker_writeDescriptor 33 = .ok (.iload_n 3, 1) := by decide +kernel
theorem d_Maker_writeDescriptor_34 : decode b_Maker_writeDescriptor 34 = .ok (.bipush 8, 2) := by decide +kernel
theorem d_Maker_writeDescriptor_36 : decode b_Maker_writeDescriptor 36 = .ok (.iadd, 1) := by decide +kernel
theorem d_Maker_writeDescriptor_37 : decode b_Maker_writeDescriptor 37 = .ok (.iload_n 3, 1) := by decide +kernel
theorem d_Maker_writeDescriptor_38 : decode b_Maker_writeDescriptor 38 = .ok (.bipush 72, 2) := by decide +kernel
theorem d_Maker_writeDescriptor_40 : decode b_Maker_writeDescriptor 40 = .ok (.iadd, 1) := by decide +kernel
theorem d_Maker_writeDescriptor_41 : decode b_Maker_writeDescriptor 41 = .ok (.bipush 32, 2) := by decide +kernel
theorem d_Maker_writeDescriptor_43 : decode b_Maker_writeDescriptor 43 = .ok (.invokevirtual 264, 3) := by decide +kernel
theorem d_Maker_writeDescriptor_46 : decode b_Maker_writeDescriptor 46 = .ok (.aload_n 0, 1) := by decide +kernel
theorem d_Maker_writeDescriptor_47 : decode b_Maker_writeDescriptor 47 = .ok (.getfield 47, 3) := by decide +kernel
theorem d_Maker_writeDescriptor_50 : decode b_Maker_writeDescriptor 50 = .ok (.iload_n 3, 1) := by decide +kernel
theorem d_Maker_writeDescriptor_51 : decode b_Maker_writeDescriptor 51 = .ok (.bipush 80, 2) := by decide +kernel
theorem d_Maker_writeDescriptor_53 : decode b_Maker_writeDescriptor 53 = .ok (.iadd, 1) := by decide +kernel
theorem d_Maker_writeDescriptor_54 : decode b_Maker_writeDescriptor 54 = .ok (.aload_n 0, 1) := by decide +kernel
theorem d_Maker_writeDescriptor_55 : decode b_Maker_writeDescriptor 55 = .ok (.getfield 47, 3) := by decide +kernel
theorem d_Maker_writeDescriptor_58 : decode b_Maker_writeDescriptor 58 = .ok (.getfield 60, 3) := by decide +kernel
theorem d_Maker_writeDescriptor_61 : decode b_Maker_writeDescriptor 61 = .ok (.sipush 2048, 3) := by decide +kernel
theorem d_Maker_writeDescriptor_64 : decode b_Maker_writeDescriptor 64 = .ok (.idiv, 1) := by decide +kernel
theorem d_Maker_writeDescriptor_65 : decode b_Maker_writeDescriptor 65 = .ok (.iconst 4, 1) := by decide +kernel
theorem d_Maker_writeDescriptor_66 : decode b_Maker_writeDescriptor 66 = .ok (.invokevirtual 225, 3) := by decide +kernel
theorem d_Maker_writeDescriptor_69 : decode b_Maker_writeDescriptor 69 = .ok (.aload_n 1, 1) := by decide +kernel
theorem d_Maker_writeDescriptor_70 : decode b_Maker_writeDescriptor 70 = .ok (.getfield 162, 3) := by decide +kernel
theorem d_Maker_writeDescriptor_73 : decode b_Maker_writeDescriptor 73 = .ok (.ifCond .eq 17, 3) := by decide +kernel
theorem d_Maker_writeDescriptor_76 : decode b_Maker_writeDescriptor 76 = .ok (.aload_n 0, 1) := by decide +kernel
theorem d_Maker_writeDescriptor_77 : decode b_Maker_writeDescriptor 77 = .ok (.getfield 47, 3) := by decide +kernel
theorem d_Maker_writeDescriptor_80 : decode b_Maker_writeDescriptor 80 = .ok (.iload_n 3, 1) := by decide +kernel
theorem d_Maker_writeDescriptor_81 : decode b_Maker_writeDescriptor 81 = .ok (.bipush 88, 2) := by decide +kernel
theorem d_Maker_writeDescriptor_83 : decode b_Maker_writeDescriptor 83 = .ok (.iadd, 1) := by decide +kernel
theorem d_Maker_writeDescriptor_84 : decode b_Maker_writeDescriptor 84 = .ok (.getstatic 267, 3) := by decide +kernel
theorem d_Maker_writeDescriptor_87 : decode b_Maker_writeDescriptor 87 = .ok (.invokevirtual 232, 3) := by decide +kernel
theorem d_Maker_writeDescriptor_90 : decode b_Maker_writeDescriptor 90 = .ok (.aload_n 0, 1) := by decide +kernel
theorem d_Maker_writeDescriptor_91 : decode b_Maker_writeDescriptor 91 = .ok (.getfield 47, 3) := by decide +kernel
theorem d_Maker_writeDescriptor_94 : decode b_Maker_writeDescriptor 94 = .ok (.iload_n 3, 1) := by decide +kernel
theorem d_Maker_writeDescriptor_95 : decode b_Maker_writeDescriptor 95 = .ok (.bipush 120, 2) := by decide +kernel
theorem d_Maker_writeDescriptor_97 : decode b_Maker_writeDescriptor 97 = .ok (.iadd, 1) := by decide +kernel
theorem d_Maker_writeDescriptor_98 : decode b_Maker_writeDescriptor 98 = .ok (.iconst 1, 1) := by decide +kernel
theorem d_Maker_writeDescriptor_99 : decode b_Maker_writeDescriptor 99 = .ok (.iconst 2, 1) := by decide +kernel
theorem d_Maker_writeDescriptor_100 : decode b_Maker_writeDescriptor 100 = .ok (.invokevirtual 225, 3) := by decide +kernel
theorem d_Maker_writeDescriptor_103 : decode b_Maker_writeDescriptor 103 = .ok (.aload_n 0, 1) := by decide +kernel
theorem d_Maker_writeDescriptor_104 : decode b_Maker_writeDescriptor 104 = .ok (.getfield 47, 3) := by decide +kernel
theorem d_Maker_writeDescriptor_107 : decode b_Maker_writeDescriptor 107 = .ok (.iload_n 3, 1) := by decide +kernel
theorem d_Maker_writeDescriptor_108 : decode b_Maker_writeDescriptor 108 = .ok (.bipush 124, 2) := by decide +kernel
theorem d_Maker_writeDescriptor_110 : decode b_Maker_writeDescriptor 110 = .ok (.iadd, 1) := by decide +kernel
theorem d_Maker_writeDescriptor_111 : decode b_Maker_writeDescriptor 111 = .ok (.iconst 1, 1) := by decide +kernel
theorem d_Maker_writeDescriptor_112 : decode b_Maker_writeDescriptor 112 = .ok (.iconst 2, 1) := by decide +kernel
theorem d_Maker_writeDescriptor_113 : decode b_Maker_writeDescriptor 113 = .ok (.invokevirtual 225, 3) := by decide +kernel
theorem d_Maker_writeDescriptor_116 : decode b_Maker_writeDescriptor 116 = .ok (.aload_n 0, 1) := by decide +kernel
theorem d_Maker_writeDescriptor_117 : decode b_Maker_writeDescriptor 117 = .ok (.getfield 47, 3) := by decide +kernel
theorem d_Maker_writeDescriptor_120 : decode b_Maker_writeDescriptor 120 = .ok (.iload_n 3, 1) := by decide +kernel
theorem d_Maker_writeDescriptor_121 : decode b_Maker_writeDescriptor 121 = .ok (.sipush 128, 3) := by decide +kernel
theorem d_Maker_writeDescriptor_124 : decode b_Maker_writeDescriptor 124 = .ok (.iadd, 1) := by decide +kernel
theorem d_Maker_writeDescriptor_125 : decode b_Maker_writeDescriptor 125 = .ok (.sipush 2048, 3) := by decide +kernel
theorem d_Maker_writeDescriptor_128 : decode b_Maker_writeDescriptor 128 = .ok (.iconst 2, 1) := by decide +kernel
theorem d_Maker_writeDescriptor_129 : decode b_Maker_writeDescriptor 129 = .ok (.invokevirtual 225, 3) := by decide +kernel
theorem d_Maker_writeDescriptor_132 : decode b_Maker_writeDescriptor 132 = .ok (.aload_n 0, 1) := by decide +kernel
theorem d_Maker_writeDescriptor_133 : decode b_Maker_writeDescriptor 133 = .ok (.getfield 47, 3) := by decide +kernel
theorem d_Maker_writeDescriptor_136 : decode b_Maker_writeDescriptor 136 = .ok (.iload_n 3, 1) := by decide +kernel
theorem d_Maker_writeDescriptor_137 : decode b_Maker_writeDescriptor 137 = .ok (.sipush 132, 3) := by decide +kernel
theorem d_Maker_writeDescriptor_140 : decode b_Maker_writeDescriptor 140 = .ok (.iadd, 1) := by decide +kernel
theorem d_Maker_writeDescriptor_141 : decode b_Maker_writeDescriptor 141 = .ok (.iload_n 2, 1) := by decide +kernel
theorem d_Maker_writeDescriptor_142 : decode b_Maker_writeDescriptor 142 = .ok (.iconst 4, 1) := by decide +kernel
theorem d_Maker_writeDescriptor_143 : decode b_Maker_writeDescriptor 143 = .ok (.invokevirtual 225, 3) := by decide +kernel
theorem d_Maker_writeDescriptor_146 : decode b_Maker_writeDescriptor 146 = .ok (.aload_n 0, 1) := by decide +kernel
theorem d_Maker_writeDescriptor_147 : decode b_Maker_writeDescriptor 147 = .ok (.getfield 47, 3) := by decide +kernel
theorem d_Maker_writeDescriptor_150 : decode b_Maker_writeDescriptor 150 = .ok (.iload_n 3, 1) := by decide +kernel
theorem d_Maker_writeDescriptor_151 : decode b_Maker_writeDescriptor 151 = .ok (.sipush 140, 3) := by decide +kernel
theorem d_Maker_writeDescriptor_154 : decode b_Maker_writeDescriptor 154 = .ok (.iadd, 1) := by decide +kernel
theorem d_Maker_writeDescriptor_155 : decode b_Maker_writeDescriptor 155 = .ok (.aload_n 1, 1) := by decide +kernel
theorem d_Maker_writeDescriptor_156 : decode b_Maker_writeDescriptor 156 = .ok (.getfield 246, 3) := by decide +kernel
theorem d_Maker_writeDescriptor_159 : decode b_Maker_writeDescriptor 159 = .ok (.iconst 4, 1) := by decide +kernel
theorem d_Maker_writeDescriptor_160 : decode b_Maker_writeDescriptor 160 = .ok (.invokevirtual 252, 3) := by decide +kernel
theorem d_Maker_writeDescriptor_163 : decode b_Maker_writeDescriptor 163 = .ok (.aload_n 0, 1) := by decide +kernel
theorem d_Maker_writeDescriptor_164 : decode b_Maker_writeDescriptor 164 = .ok (.getfield 47, 3) := by decide +kernel
theorem d_Maker_writeDescriptor_167 : decode b_Maker_writeDescriptor 167 = .ok (.iload_n 3, 1) := by decide +kernel
theorem d_Maker_writeDescriptor_168 : decode b_Maker_writeDescriptor 168 = .ok (.sipush 148, 3) := by decide +kernel
theorem d_Maker_writeDescriptor_171 : decode b_Maker_writeDescriptor 171 = .ok (.iadd, 1) := by decide +kernel
theorem d_Maker_writeDescriptor_172 : decode b_Maker_writeDescriptor 172 = .ok (.aload_n 1, 1) := by decide +kernel
theorem d_Maker_writeDescriptor_173 : decode b_Maker_writeDescriptor 173 = .ok (.getfield 246, 3) := by decide +kernel
theorem d_Maker_writeDescriptor_176 : decode b_Maker_writeDescriptor 176 = .ok (.iconst 1, 1) := by decide +kernel
theorem d_Maker_writeDescriptor_177 : decode b_Maker_writeDescriptor 177 = .ok (.iadd, 1) := by decide +kernel
theorem d_Maker_writeDescriptor_178 : decode b_Maker_writeDescriptor 178 = .ok (.iconst 4, 1) := by decide +kernel
theorem d_Maker_writeDescriptor_179 : decode b_Maker_writeDescriptor 179 = .ok (.invokevirtual 243, 3) := by decide +kernel
theorem d_Maker_writeDescriptor_182 : decode b_Maker_writeDescriptor 182 = .ok (.aload_n 0, 1) := by decide +kernel
theorem d_Maker_writeDescriptor_183 : decode b_Maker_writeDescriptor 183 = .ok (.aload_n 1, 1) := by decide +kernel
theorem d_Maker_writeDescriptor_184 : decode b_Maker_writeDescriptor 184 = .ok (.aload_n 0, 1) := by decide +kernel
theorem d_Maker_writeDescriptor_185 : decode b_Maker_writeDescriptor 185 = .ok (.getfield 43, 3) := by decide +kernel
theorem d_Maker_writeDescriptor_188 : decode b_Maker_writeDescriptor 188 = .ok (.getfield 107, 3) := by decide +kernel
theorem d_Maker_writeDescriptor_191 : decode b_Maker_writeDescriptor 191 = .ok (.iconst 0, 1) := by decide +kernel
theorem d_Maker_writeDescriptor_192 : decode b_Maker_writeDescriptor 192 = .ok (.aaload, 1) := by decide +kernel
theorem d_Maker_writeDescriptor_193 : decode b_Maker_writeDescriptor 193 = .ok (.iconst 0, 1) := by decide +kernel
theorem d_Maker_writeDescriptor_194 : decode b_Maker_writeDescriptor 194 = .ok (.invokevirtual 156, 3) := by decide +kernel
theorem d_Maker_writeDescriptor_197 : decode b_Maker_writeDescriptor 197 = .ok (.aload_n 0, 1) := by decide +kernel
theorem d_Maker_writeDescriptor_198 : decode b_Maker_writeDescriptor 198 = .ok (.aload_n 1, 1) := by decide +kernel
theorem d_Maker_writeDescriptor_199 : decode b_Maker_writeDescriptor 199 = .ok (.aload_n 0, 1) := by decide +kernel
theorem d_Maker_writeDescriptor_200 : decode b_Maker_writeDescriptor 200 = .ok (.getfield 43, 3) := by decide +kernel
theorem d_Maker_writeDescriptor_203 : decode b_Maker_writeDescriptor 203 = .ok (.getfield 107, 3) := by decide +kernel
theorem d_Maker_writeDescriptor_206 : decode b_Maker_writeDescriptor 206 = .ok (.iconst 0, 1) := by decide +kernel
theorem d_Maker_writeDescriptor_207 : decode b_Maker_writeDescriptor 207 = .ok (.aaload, 1) := by decide +kernel
theorem d_Maker_writeDescriptor_208 : decode b_Maker_writeDescriptor 208 = .ok (.iload_n 3, 1) := by decide +kernel
theorem d_Maker_writeDescriptor_209 : decode b_Maker_writeDescriptor 209 = .ok (.sipush 156, 3) := by decide +kernel
theorem d_Maker_writeDescriptor_212 : decode b_Maker_writeDescriptor 212 = .ok (.iadd, 1) := by decide +kernel
theorem d_Maker_writeDescriptor_213 : decode b_Maker_writeDescriptor 213 = .ok (.bipush 34, 2) := by decide +kernel
theorem d_Maker_writeDescriptor_215 : decode b_Maker_writeDescriptor 215 = .ok (.invokevirtual 183, 3) := by decide +kernel
theorem d_Maker_writeDescriptor_218 : decode b_Maker_writeDescriptor 218 = .ok (.aload_n 0, 1) := by decide +kernel
theorem d_Maker_writeDescriptor_219 : decode b_Maker_writeDescriptor 219 = .ok (.getfield 47, 3) := by decide +kernel
theorem d_Maker_writeDescriptor_222 : decode b_Maker_writeDescriptor 222 = .ok (.iload_n 3, 1) := by decide +kernel
theorem d_Maker_writeDescriptor_223 : decode b_Maker_writeDescriptor 223 = .ok (.sipush 190, 3) := by decide +kernel
theorem d_Maker_writeDescriptor_226 : decode b_Maker_writeDescriptor 226 = .ok (.iadd, 1) := by decide +kernel
theorem d_Maker_writeDescriptor_227 : decode b_Maker_writeDescriptor 227 = .ok (.iload_n 3, 1) := by decide +kernel
theorem d_Maker_writeDescriptor_228 : decode b_Maker_writeDescriptor 228 = .ok (.sipush 813, 3) := by decide +kernel
theorem d_Maker_writeDescriptor_231 : decode b_Maker_writeDescriptor 231 = .ok (.iadd, 1) := by decide +kernel
theorem d_Maker_writeDescriptor_232 : decode b_Maker_writeDescriptor 232 = .ok (.bipush 32, 2) := by decide +kernel
theorem d_Maker_writeDescriptor_234 : decode b_Maker_writeDescriptor 234 = .ok (.invokevirtual 264, 3) := by decide +kernel
theorem d_Maker_writeDescriptor_237 : decode b_Maker_writeDescriptor 237 = .ok (.iconst 0, 1) := by decide +kernel
theorem d_Maker_writeDescriptor_238 : decode b_Maker_writeDescriptor 238 = .ok (.istore 4, 2) := by decide +kernel
theorem d_Maker_writeDescriptor_240 : decode b_Maker_writeDescriptor 240 = .ok (.iload 4, 2) := by decide +kernel
theorem d_Maker_writeDescriptor_242 : decode b_Maker_writeDescriptor 242 = .ok (.iconst 4, 1) := by decide +kernel
theorem d_Maker_writeDescriptor_243 : decode b_Maker_writeDescriptor 243 = .ok (.if_icmp .ge 40, 3) := by decide +kernel
theorem d_Maker_writeDescriptor_246 : decode b_Maker_writeDescriptor 246 = .ok (.aload_n 0, 1) := by decide +kernel
theorem d_Maker_writeDescriptor_247 : decode b_Maker_writeDescriptor 247 = .ok (.getfield 47, 3) := by decide +kernel
theorem d_Maker_writeDescriptor_250 : decode b_Maker_writeDescriptor 250 = .ok (.iload_n 3, 1) := by decide +kernel
theorem d_Maker_writeDescriptor_251 : decode b_Maker_writeDescriptor 251 = .ok (.sipush 813, 3) := by decide +kernel
theorem d_Maker_writeDescriptor_254 : decode b_Maker_writeDescriptor 254 = .ok (.iadd, 1) := by decide +kernel
theorem d_Maker_writeDescriptor_255 : decode b_Maker_writeDescriptor 255 = .ok (.bipush 17, 2) := by decide +kernel
theorem d_Maker_writeDescriptor_257 : decode b_Maker_writeDescriptor 257 = .ok (.iload 4, 2) := by decide +kernel
theorem d_Maker_writeDescriptor_259 : decode b_Maker_writeDescriptor 259 = .ok (.imul, 1) := by decide +kernel
theorem d_Maker_writeDescriptor_260 : decode b_Maker_writeDescriptor 260 = .ok (.iadd, 1) := by decide +kernel
theorem d_Maker_writeDescriptor_261 : decode b_Maker_writeDescriptor 261 = .ok (.iload_n 3, 1) := by decide +kernel
theorem d_Maker_writeDescriptor_262 : decode b_Maker_writeDescriptor 262 = .ok (.sipush 829, 3) := by decide +kernel
theorem d_Maker_writeDescriptor_265 : decode b_Maker_writeDescriptor 265 = .ok (.iadd, 1) := by decide +kernel
theorem d_Maker_writeDescriptor_266 : decode b_Maker_writeDescriptor 266 = .ok (.bipush 17, 2) := by decide +kernel
theorem d_Maker_writeDescriptor_268 : decode b_Maker_writeDescriptor 268 = .ok (.iload 4, 2) := by decide +kernel
theorem d_Maker_writeDescriptor_270 : decode b_Maker_writeDescriptor 270 = .ok (.imul, 1) := by decide +kernel
theorem d_Maker_writeDescriptor_271 : decode b_Maker_writeDescriptor 271 = .ok (.iadd, 1) := by decide +kernel
theorem d_Maker_writeDescriptor_272 : decode b_Maker_writeDescriptor 272 = .ok (.bipush 48, 2) := by decide +kernel
theorem d_Maker_writeDescriptor_274 : decode b_Maker_writeDescriptor 274 = .ok (.invokevirtual 264, 3) := by decide +kernel
theorem d_Maker_writeDescriptor_277 : decode b_Maker_writeDescriptor 277 = .ok (.iinc 4 1, 3) := by decide +kernel
theorem d_Maker_writeDescriptor_280 : decode b_Maker_writeDescriptor 280 = .ok (.goto (-40), 3) := by decide +kernel
theorem d_Maker_writeDescriptor_283 : decode b_Maker_writeDescriptor 283 = .ok (.aload_n 0, 1) := by decide +kernel
theorem d_Maker_writeDescriptor_284 : decode b_Maker_writeDescriptor 284 = .ok (.getfield 47, 3) := by decide +kernel
theorem d_Maker_writeDescriptor_287 : decode b_Maker_writeDescriptor 287 = .ok (.iload_n 3, 1) := by decide +kernel
theorem d_Maker_writeDescriptor_288 : decode b_Maker_writeDescriptor 288 = .ok (.sipush 881, 3) := by decide +kernel
theorem d_Maker_writeDescriptor_291 : decode b_Maker_writeDescriptor 291 = .ok (.iadd, 1) := by decide +kernel
theorem d_Maker_writeDescriptor_292 : decode b_Maker_writeDescriptor 292 = .ok (.iconst 1, 1) := by decide +kernel
theorem d_Maker_writeDescriptor_293 : decode b_Maker_writeDescriptor 293 = .ok (.invokevirtual 196, 3) := by decide +kernel
theorem d_Maker_writeDescriptor_296 : decode b_Maker_writeDescriptor 296 = .ok (.return_, 1) := by decide +kernel
set_option maxHeartbeats 4000000 in
set_option maxRecDepth 100000 in
theorem c3_writeDescriptor (l : Launch) (D : va_G) (cB cI cJ cZ cN cF : ClassId) (sz : Nat) (m0 : Nat) (tr : Nat) (im : Nat) (fi : Nat) (se : Nat) (u0 : Nat) (id : Nat) (ct : Nat) (ra : Int32) (ru : Int32) (wg : Int32) (l0 : Nat) (lo : Nat) (lp : Nat) (lt : Nat) (lb : Nat) (le : Nat) (ln : Int32) (lds : Int32) (ltb : Int32) (lc : Int32) (ld : Int32) (fb : Nat → Int32) (fe : Nat → Int32) (cc : Nat → Int32) (jq : Nat) (il : Int32) (jf : Nat → Int32) (iq : Nat) (n : Nat) (L : Int32) (f : Nat → Int32) (ta : Nat) (cn : Int32) (dr : Int32) (na : Nat → Nat → Nat) (ng : Nat → Nat → Int32) (nn : Nat → Nat → Nat) (nf : Nat → Nat → Nat → Int32) (cm : Nat) (td : Nat) (ts : Nat) (tl : Nat) (gd : Nat → Int32) (gs : Nat → Int32) (gl : Nat → Int32) (x : Int32) (hL : 0 ≤ L.toInt ∧ L.toInt ≤ n) (hn : n ≤ 3000000) (hcn : cn.toInt = cm) (hcm : cm ≤ 40) (htok : TOK cm ng nn) (hc1 : 1 ≤ cm) : Met l y_Maker_writeDescriptor w_Maker_writeDescriptor ({ frames := 4, cells := 0, slots := 0, locals := 116 }) (va_Pc [.ref m0, .ref l0, .int x] (fun U => U.heap.size = sz ∧ va_P D CL [(m0, .inr (4, [.ref tr, .ref im, .ref fi, .ref se, .ref u0, .ref id, .ref ct, .int ra, .int ru, .int wg])), (l0, .inr (3, [.int ln, .int lds, .int ltb, .ref lo, .ref lp, .ref lt, .ref lb, .ref le, .int lc, .int ld])), (lb, .inl (cI, 40, .inl fb)), (le, .inl (cI, 40, .inl fe)), (ct, .inl (cI, 40, .inl cc)), (id, .inr (1, [.ref jq, .int il])), (jq, .inl (cB, 60, .inl jf)), (im, .inr (1, [.ref iq, .int L])), (iq, .inl (cB, n, .inl f))] U.heap ∧ va_K D CL (TY cB cI cJ cZ cN cF) U ∧ NN U ∧ va_D (fun _ => True) [(m0, .inr (4, [.ref tr, .ref im, .ref fi, .ref se, .ref u0, .ref id, .ref ct, .int ra, .int ru, .int wg])), (l0, .inr (3, [.int ln, .int lds, .int ltb, .ref lo, .ref lp, .ref lt, .ref lb, .ref le, .int lc, .int ld])), (lb, .inl (cI, 40, .inl fb)), (le, .inl (cI, 40, .inl fe)), (ct, .inl (cI, 40, .inl cc)), (id, .inr (1, [.ref jq, .int il])), (jq, .inl (cB, 60, .inl jf)), (im, .inr (1, [.ref iq, .int L])), (iq, .inl (cB, n, .inl f))] ∧ SZ td ts tl gd gs gl (va_A [(m0, .inr (4, [.ref tr, .ref im, .ref fi, .ref se, .ref u0, .ref id, .ref ct, .int ra, .int ru, .int wg])), (l0, .inr (3, [.int ln, .int lds, .int ltb, .ref lo, .ref lp, .ref lt, .ref lb, .ref le, .int lc, .int ld])), (lb, .inl (cI, 40, .inl fb)), (le, .inl (cI, 40, .inl fe)), (ct, .inl (cI, 40, .inl cc)), (id, .inr (1, [.ref jq, .int il])), (jq, .inl (cB, 60, .inl jf)), (im, .inr (1, [.ref iq, .int L])), (iq, .inl (cB, n, .inl f))] sz) U U.heap ∧ RO D (([(tr, .inr (10, [.ref ta, .int cn, .int dr])), (ta, .inl (cN, 40, .inr (.inr (.inr (.inr (rowF na cm))))))] : va_W) ++ (PL (NC cB na ng nn nf) cm)) (va_A [(m0, .inr (4, [.ref tr, .ref im, .ref fi, .ref se, .ref u0, .ref id, .ref ct, .int ra, .int ru, .int wg])), (l0, .inr (3, [.int ln, .int lds, .int ltb, .ref lo, .ref lp, .ref lt, .ref lb, .ref le, .int lc, .int ld])), (lb, .inl (cI, 40, .inl fb)), (le, .inl (cI, 40, .inl fe)), (ct, .inl (cI, 40, .inl cc)), (id, .inr (1, [.ref jq, .int il])), (jq, .inl (cB, 60, .inl jf)), (im, .inr (1, [.ref iq, .int L])), (iq, .inl (cB, n, .inl f))] sz) U U.heap)) (va_Qv (fun (u : Int32 × (Nat → Int32) × (Nat → Int32)) => True) (fun (u : Int32 × (Nat → Int32) × (Nat → Int32)) (t : State) => match u with | (il2, jg, g) => va_P D CL [(m0, .inr (4, [.ref tr, .ref im, .ref fi, .ref se, .ref u0, .ref id, .ref ct, .int ra, .int ru, .int wg])), (l0, .inr (3, [.int ln, .int lds, .int ltb, .ref lo, .ref lp, .ref lt, .ref lb, .ref le, .int lc, .int ld])), (lb, .inl (cI, 40, .inl fb)), (le, .inl (cI, 40, .inl fe)), (ct, .inl (cI, 40, .inl cc)), (id, .inr (1, [.ref jq, .int il2])), (jq, .inl (cB, 60, .inl jg)), (im, .inr (1, [.ref iq, .int L])), (iq, .inl (cB, n, .inl g))] t.heap ∧ va_D (va_A [(m0, .inr (4, [.ref tr, .ref im, .ref fi, .ref se, .ref u0, .ref id, .ref ct, .int ra, .int ru, .int wg])), (l0, .inr (3, [.int ln, .int lds, .int ltb, .ref lo, .ref lp, .ref lt, .ref lb, .ref le, .int lc, .int ld])), (lb, .inl (cI, 40, .inl fb)), (le, .inl (cI, 40, .inl fe)), (ct, .inl (cI, 40, .inl cc)), (id, .inr (1, [.ref jq, .int il])), (jq, .inl (cB, 60, .inl jf)), (im, .inr (1, [.ref iq, .int L])), (iq, .inl (cB, n, .inl f))] sz) [(m0, .inr (4, [.ref tr, .ref im, .ref fi, .ref se, .ref u0, .ref id, .ref ct, .int ra, .int ru, .int wg])), (l0, .inr (3, [.int ln, .int lds, .int ltb, .ref lo, .ref lp, .ref lt, .ref lb, .ref le, .int lc, .int ld])), (lb, .inl (cI, 40, .inl fb)), (le, .inl (cI, 40, .inl fe)), (ct, .inl (cI, 40, .inl cc)), (id, .inr (1, [.ref jq, .int il2])), (jq, .inl (cB, 60, .inl jg)), (im, .inr (1, [.ref iq, .int L])), (iq, .inl (cB, n, .inl g))]) (va_A [(m0, .inr (4, [.ref tr, .ref im, .ref fi, .ref se, .ref u0, .ref id, .ref ct, .int ra, .int ru, .int wg])), (l0, .inr (3, [.int ln, .int lds, .int ltb, .ref lo, .ref lp, .ref lt, .ref lb, .ref le, .int lc, .int ld])), (lb, .inl (cI, 40, .inl fb)), (le, .inl (cI, 40, .inl fe)), (ct, .inl (cI, 40, .inl cc)), (id, .inr (1, [.ref jq, .int il])), (jq, .inl (cB, 60, .inl jf)), (im, .inr (1, [.ref iq, .int L])), (iq, .inl (cB, n, .inl f))] sz)) 0 0 (va_A [(m0, .inr (4, [.ref tr, .ref im, .ref fi, .ref se, .ref u0, .ref id, .ref ct, .int ra, .int ru, .int wg])), (l0, .inr (3, [.int ln, .int lds, .int ltb, .ref lo, .ref lp, .ref lt, .ref lb, .ref le, .int lc, .int ld])), (lb, .inl (cI, 40, .inl fb)), (le, .inl (cI, 40, .inl fe)), (ct, .inl (cI, 40, .inl cc)), (id, .inr (1, [.ref jq, .int il])), (jq, .inl (cB, 60, .inl jf)), (im, .inr (1, [.ref iq, .int L])), (iq, .inl (cB, n, .inl f))] sz) := by
  refine Met.ofW (cc := b_Maker_writeDescriptor) (maxL := 5) (ret := none) (by decide +kernel) rfl ?_
  intro p e s m args below meth c s₁ B hml hv
  obtain ⟨rfl, hsz, hP, hK, hN, hD0, hZs, hZr⟩ := hv
  have hx := B.exec
  have hb := B.bytes
  have hr := B.returns
  have hts := atoms_spec (ws := w_Maker_writeDescriptor) B.pre
  have ht9 := fun (w : Cond) (h : w ∈ lw_g) => hts w (List.mem_cons_of_mem _ h)
  have hown : s.vm.findClass "DiscMaker$Maker" = some m.cls := findClass_of_methodNamed B.named
  have hlocks := B.notSynchronized
  subst hsz
  have hD := hD0.self (sz := s.heap.size)
  generalize hAe : va_A [(m0, .inr (4, [.ref tr, .ref im, .ref fi, .ref se, .ref u0, .ref id, .ref ct, .int ra, .int ru, .int wg])), (l0, .inr (3, [.int ln, .int lds, .int ltb, .ref lo, .ref lp, .ref lt, .ref lb, .ref le, .int lc, .int ld])), (lb, .inl (cI, 40, .inl fb)), (le, .inl (cI, 40, .inl fe)), (ct, .inl (cI, 40, .inl cc)), (id, .inr (1, [.ref jq, .int il])), (jq, .inl (cB, 60, .inl jf)), (im, .inr (1, [.ref iq, .int L])), (iq, .inl (cB, n, .inl f))] s.heap.size = A at hD hZs hZr ⊢
  have hA : ∀ q : Nat, s.heap.size ≤ q → A q := fun q h => by rw [← hAe]; exact Or.inr h
  have hS : va_S A s.heap s.heap [] := va_S.rf
  have hP : va_P D CL [(m0, .inr (4, [.ref tr, .ref im, .ref fi, .ref se, .ref u0, .ref id, .ref ct, .int ra, .int ru, .int wg])), (l0, .inr (3, [.int ln, .int lds, .int ltb, .ref lo, .ref lp, .ref lt, .ref lb, .ref le, .int lc, .int ld])), (lb, .inl (cI, 40, .inl fb)), (le, .inl (cI, 40, .inl fe)), (ct, .inl (cI, 40, .inl cc)), (id, .inr (1, [.ref jq, .int il])), (jq, .inl (cB, 60, .inl jf)), (im, .inr (1, [.ref iq, .int L])), (iq, .inl (cB, n, .inl f))] s.heap := hP
  have hl := lv_entry [.ref m0, .ref l0, .int x] (n := 5) (Nat.le_of_ble_eq_true rfl)
  rw [lg_entry_eq]
  generalize (lg_sl [.ref m0, .ref l0, .int x] ++ List.replicate (5 - (lg_sl [.ref m0, .ref l0, .int x]).length) Slot.unset).toArray = ls at hl ⊢
  have hl : lv_has ls 5 [(0, .ref m0), (1, .ref l0), (2, .int x)] := hl
  have L_m1 : ((-1) : Int32).toInt = (-1) := by decide
  have L_0 : (0 : Int32).toInt = 0 := by decide
  have L_1 : (1 : Int32).toInt = 1 := by decide
  have L_2 : (2 : Int32).toInt = 2 := by decide
  have L_4 : (4 : Int32).toInt = 4 := by decide
  have L_8 : (8 : Int32).toInt = 8 := by decide
  have L_17 : (17 : Int32).toInt = 17 := by decide
  have L_32 : (32 : Int32).toInt = 32 := by decide
  have L_34 : (34 : Int32).toInt = 34 := by decide
  have L_48 : (48 : Int32).toInt = 48 := by decide
  have L_72 : (72 : Int32).toInt = 72 := by decide
  have L_80 : (80 : Int32).toInt = 80 := by decide
  have L_88 : (88 : Int32).toInt = 88 := by decide
  have L_120 : (120 : Int32).toInt = 120 := by decide
  have L_124 : (124 : Int32).toInt = 124 := by decide
  have L_128 : (128 : Int32).toInt = 128 := by decide
  have L_132 : (132 : Int32).toInt = 132 := by decide
  have L_140 : (140 : Int32).toInt = 140 := by decide
  have L_148 : (148 : Int32).toInt = 148 := by decide
  have L_156 : (156 : Int32).toInt = 156 := by decide
  have L_190 : (190 : Int32).toInt = 190 := by decide
  have L_813 : (813 : Int32).toInt = 813 := by decide
  have L_829 : (829 : Int32).toInt = 829 := by decide
  have L_881 : (881 : Int32).toInt = 881 := by decide
  have L_2048 : (2048 : Int32).toInt = 2048 := by decide
  refine lv_aload_n hx hb d_Maker_writeDescriptor_0 rfl (lv_at hl 1 rfl) ?_
  refine va_getN (D := D) (ci := 3) (v := .int lds) (C := "DiscMaker$Layout") (T := F_Layout) (N := 10) hx hb ht9 in_Layout hown hK hP 1 rfl rfl 1 (by decide) (va_Nw.use rfl (hN _ k283)) (fun _ h9 => h9) rfl d_Maker_writeDescriptor_1 ?_
  refine lv_sipush (v := 2048) hx hb d_Maker_writeDescriptor_4 (by decide) ?_
  refine lv_imul hx hb d_Maker_writeDescriptor_7 ?_
  refine lv_topi (fun v1 e_v1 => ?_)
  refine lv_istore_n hx hb d_Maker_writeDescriptor_8 rfl hl (by decide) rfl (fun ls hl => ?_)
  have hl : lv_has ls 5 [(3, .int v1), (0, .ref m0), (1, .ref l0), (2, .int x)] := hl
  refine lv_aload_n hx hb d_Maker_writeDescriptor_9 rfl (lv_at hl 1 rfl) ?_
  refine lv_aload_n hx hb d_Maker_writeDescriptor_10 rfl (lv_at hl 2 rfl) ?_
  refine va_getN (D := D) (ci := 3) (v := .int lds) (C := "DiscMaker$Layout") (T := F_Layout) (N := 10) hx hb ht9 in_Layout hown hK hP 1 rfl rfl 1 (by decide) (va_Nw.use rfl (hN _ k283)) (fun _ h9 => h9) rfl d_Maker_writeDescriptor_11 ?_
  refine lv_aload_n hx hb d_Maker_writeDescriptor_14 rfl (lv_at hl 2 rfl) ?_
  refine zz_labM (B := fun (lk : Nat) (K : Heap → List Loc → Array Slot → List Value → Prop) => ∀ (so9 : Int32) (H : Heap) (locs : List Loc) (ls : Array Slot), lk = 0 → va_P D CL [(m0, .inr (4, [.ref tr, .ref im, .ref fi, .ref se, .ref u0, .ref id, .ref ct, .int ra, .int ru, .int wg])), (l0, .inr (3, [.int ln, .int lds, .int ltb, .ref lo, .ref lp, .ref lt, .ref lb, .ref le, .int lc, .int ld])), (lb, .inl (cI, 40, .inl fb)), (le, .inl (cI, 40, .inl fe)), (ct, .inl (cI, 40, .inl cc)), (id, .inr (1, [.ref jq, .int il])), (jq, .inl (cB, 60, .inl jf)), (im, .inr (1, [.ref iq, .int L])), (iq, .inl (cB, n, .inl f))] H → va_D A [(m0, .inr (4, [.ref tr, .ref im, .ref fi, .ref se, .ref u0, .ref id, .ref ct, .int ra, .int ru, .int wg])), (l0, .inr (3, [.int ln, .int lds, .int ltb, .ref lo, .ref lp, .ref lt, .ref lb, .ref le, .int lc, .int ld])), (lb, .inl (cI, 40, .inl fb)), (le, .inl (cI, 40, .inl fe)), (ct, .inl (cI, 40, .inl cc)), (id, .inr (1, [.ref jq, .int il])), (jq, .inl (cB, 60, .inl jf)), (im, .inr (1, [.ref iq, .int L])), (iq, .inl (cB, n, .inl f))] → va_S A s.heap H locs → lv_has ls 5 [(0, .ref m0), (1, .ref l0), (2, .int x), (3, .int v1)] → K H locs ls [.int so9, .int lds, .ref m0]) 26 ?_ ?_
  · skip
    intro lk ih26 so9 H locs ls hm26 hP hD hS hl
    have hPc := hP.sub (ws' := [(m0, .inr (4, [.ref tr, .ref im, .ref fi, .ref se, .ref u0, .ref id, .ref ct, .int ra, .int ru, .int wg])), (im, .inr (1, [.ref iq, .int L])), (iq, .inl (cB, n, .inl f))]) [0, 7, 8] rfl
    have hDc := hD.sub (ws' := [(m0, .inr (4, [.ref tr, .ref im, .ref fi, .ref se, .ref u0, .ref id, .ref ct, .int ra, .int ru, .int wg])), (im, .inr (1, [.ref iq, .int L])), (iq, .inl (cB, n, .inl f))]) [0, 7, 8] (by decide +kernel) rfl
    have hFc := va_free (wc := [(m0, .inr (4, [.ref tr, .ref im, .ref fi, .ref se, .ref u0, .ref id, .ref ct, .int ra, .int ru, .int wg])), (im, .inr (1, [.ref iq, .int L])), (iq, .inl (cB, n, .inl f))]) hD hS hA [0, 7, 8] rfl
    have hkc : 0 ≤ 0 := by decide
    have hks : 0 ≤ 0 := by decide
    refine va_callv (va_runV (C := "DiscMaker$Maker") (As := [.int lds, .int so9]) (rest := []) ⟨hx, hb, hml, hown, hts⟩ (c3_writeDescriptorHead l D cB cI cJ cZ cN cF H.size m0 tr im fi se u0 id ct ra ru wg iq n L f td ts tl gd gs gl lds so9 (by (try dsimp only); first | assumption | omega | trivial) (by (try dsimp only); first | assumption | omega | trivial)) (cwV 2 hts (lg_goodV k1103 k1105 k28 k120 kc_Maker_writeDescriptorHead) rfl rfl rfl (by decide +kernel) ⟨Nat.le_of_ble_eq_true rfl, Nat.le_of_ble_eq_true rfl⟩) ⟨fun a U g mk q => by obtain ⟨q0, q1, qP, qK, qN, qD, qZ0⟩ := q; exact ⟨q0, q1, qP, va_K.moved (u := U) (U := U.calling g mk a) (Vm.Alike.refl U.vm) qK, qN.calling, qD, SZ_blind qZ0⟩, va_recv hK hP (ci := 4) (q0 := 0) rfl rfl, fun U hU hW => ⟨rfl, by rw [hU], by rw [hU]; exact hPc, va_K.moved hW.alike hK, NN.warm hW hN, hDc.weaken (fun _ _ _ _ => trivial), SZ_pass hZs hS hFc hW.alike hU⟩⟩ rfl rfl hl.1 rfl (lv_room (Nat.le_of_ble_eq_true rfl)) d_Maker_writeDescriptor_26 ⟨hkc, hks⟩) hS (fun q _ h => hFc q h) hFc (fun u t H1 locs ht hvm hp_r2 hB hz1 hk1 hS => ?_)
    obtain ⟨g_3, rfl⟩ : ∃ z, z = u := ⟨_, rfl⟩
    obtain ⟨hP1, hD1⟩ := hB
    rw [ht] at hP1
    obtain ⟨hP, hD⟩ := va_join (wr := [(l0, .inr (3, [.int ln, .int lds, .int ltb, .ref lo, .ref lp, .ref lt, .ref lb, .ref le, .int lc, .int ld])), (lb, .inl (cI, 40, .inl fb)), (le, .inl (cI, 40, .inl fe)), (ct, .inl (cI, 40, .inl cc)), (id, .inr (1, [.ref jq, .int il])), (jq, .inl (cB, 60, .inl jf))]) (w1 := [(m0, .inr (4, [.ref tr, .ref im, .ref fi, .ref se, .ref u0, .ref id, .ref ct, .int ra, .int ru, .int wg])), (im, .inr (1, [.ref iq, .int L])), (iq, .inl (cB, n, .inl g_3))]) hP hD [0, 7, 8] [1, 2, 3, 4, 5, 6] rfl rfl (by decide +kernel) (by decide +kernel) hk1 hFc hP1 hD1
    clear hPc hDc hFc hP1 hD1 hk1 hz1 hkc hks
    generalize H1 = H at hP hS ⊢
    have hP : va_P D CL [(l0, .inr (3, [.int ln, .int lds, .int ltb, .ref lo, .ref lp, .ref lt, .ref lb, .ref le, .int lc, .int ld])), (lb, .inl (cI, 40, .inl fb)), (le, .inl (cI, 40, .inl fe)), (ct, .inl (cI, 40, .inl cc)), (id, .inr (1, [.ref jq, .int il])), (jq, .inl (cB, 60, .inl jf)), (m0, .inr (4, [.ref tr, .ref im, .ref fi, .ref se, .ref u0, .ref id, .ref ct, .int ra, .int ru, .int wg])), (im, .inr (1, [.ref iq, .int L])), (iq, .inl (cB, n, .inl g_3))] H := hP
    have hD : va_D A [(l0, .inr (3, [.int ln, .int lds, .int ltb, .ref lo, .ref lp, .ref lt, .ref lb, .ref le, .int lc, .int ld])), (lb, .inl (cI, 40, .inl fb)), (le, .inl (cI, 40, .inl fe)), (ct, .inl (cI, 40, .inl cc)), (id, .inr (1, [.ref jq, .int il])), (jq, .inl (cB, 60, .inl jf)), (m0, .inr (4, [.ref tr, .ref im, .ref fi, .ref se, .ref u0, .ref id, .ref ct, .int ra, .int ru, .int wg])), (im, .inr (1, [.ref iq, .int L])), (iq, .inl (cB, n, .inl g_3))] := hD
    refine lv_aload_n hx hb d_Maker_writeDescriptor_29 rfl (lv_at hl 0 rfl) ?_
    refine va_get (D := D) (ci := 4) (v := .ref im) (C := "DiscMaker$Maker") (T := F_Maker) (N := 10) hx hb ht9 in_Maker hown hK hP 6 rfl rfl 1 (by decide) (ht9 _ k348) (fun _ h9 => h9) rfl d_Maker_writeDescriptor_30 ?_
    refine lv_iload_n hx hb d_Maker_writeDescriptor_33 rfl (lv_at hl 3 rfl) ?_
    refine lv_bipush (v := 8) hx hb d_Maker_writeDescriptor_34 (by decide) ?_
    refine lv_iadd hx hb d_Maker_writeDescriptor_36 ?_
    refine lv_topi (fun v4 e_v4 => ?_)
    refine lv_iload_n hx hb d_Maker_writeDescriptor_37 rfl (lv_at hl 3 rfl) ?_
    refine lv_bipush (v := 72) hx hb d_Maker_writeDescriptor_38 (by decide) ?_
    refine lv_iadd hx hb d_Maker_writeDescriptor_40 ?_
    refine lv_topi (fun v5 e_v5 => ?_)
    refine lv_bipush (v := 32) hx hb d_Maker_writeDescriptor_41 (by decide) ?_
    have hPc := hP.sub (ws' := [(im, .inr (1, [.ref iq, .int L])), (iq, .inl (cB, n, .inl g_3))]) [7, 8] rfl
    have hDc := hD.sub (ws' := [(im, .inr (1, [.ref iq, .int L])), (iq, .inl (cB, n, .inl g_3))]) [7, 8] (by decide +kernel) rfl
    have hFc := va_free (wc := [(im, .inr (1, [.ref iq, .int L])), (iq, .inl (cB, n, .inl g_3))]) hD hS hA [7, 8] rfl
    have hkc : 0 ≤ 0 := by decide
    have hks : 0 ≤ 0 := by decide
    refine va_callv (va_runV (C := "DiscMaker$Bytes") (As := [.int v4, .int v5, .int 32]) (rest := []) ⟨hx, hb, hml, hown, hts⟩ (c3_fill l D cB cI cJ cZ cN cF H.size im iq n L g_3 v4 v5 32 (by (try dsimp only); first | assumption | omega | trivial) (by (try dsimp only); first | assumption | omega | trivial)) (cwV 3 hts (lg_goodV k1109 k1110 k1111 k119 kc_Bytes_fill) rfl rfl rfl (by decide +kernel) ⟨Nat.le_of_ble_eq_true rfl, Nat.le_of_ble_eq_true rfl⟩) ⟨fun a U g mk q => by obtain ⟨q0, q1, qP, qK, qN, qD⟩ := q; exact ⟨q0, q1, qP, va_K.moved (u := U) (U := U.calling g mk a) (Vm.Alike.refl U.vm) qK, qN.calling, qD⟩, va_recv hK hP (ci := 1) (q0 := 7) rfl rfl, fun U hU hW => ⟨rfl, by rw [hU], by rw [hU]; exact hPc, va_K.moved hW.alike hK, NN.warm hW hN, hDc.weaken (fun _ _ _ _ => trivial)⟩⟩ rfl rfl hl.1 rfl (lv_room (Nat.le_of_ble_eq_true rfl)) d_Maker_writeDescriptor_43 ⟨hkc, hks⟩) hS (fun q _ h => hFc q h) hFc (fun u t H1 locs ht hvm hp_r6 hB hz1 hk1 hS => ?_)
    obtain ⟨g_7, rfl⟩ : ∃ z, z = u := ⟨_, rfl⟩
    obtain ⟨hP1, hD1⟩ := hB
    rw [ht] at hP1
    obtain ⟨hP, hD⟩ := va_join (wr := [(l0, .inr (3, [.int ln, .int lds, .int ltb, .ref lo, .ref lp, .ref lt, .ref lb, .ref le, .int lc, .int ld])), (lb, .inl (cI, 40, .inl fb)), (le, .inl (cI, 40, .inl fe)), (ct, .inl (cI, 40, .inl cc)), (id, .inr (1, [.ref jq, .int il])), (jq, .inl (cB, 60, .inl jf)), (m0, .inr (4, [.ref tr, .ref im, .ref fi, .ref se, .ref u0, .ref id, .ref ct, .int ra, .int ru, .int wg]))]) (w1 := [(im, .inr (1, [.ref iq, .int L])), (iq, .inl (cB, n, .inl g_7))]) hP hD [7, 8] [0, 1, 2, 3, 4, 5, 6] rfl rfl (by decide +kernel) (by decide +kernel) hk1 hFc hP1 hD1
    clear hPc hDc hFc hP1 hD1 hk1 hz1 hkc hks
    generalize H1 = H at hP hS ⊢
    have hP : va_P D CL [(l0, .inr (3, [.int ln, .int lds, .int ltb, .ref lo, .ref lp, .ref lt, .ref lb, .ref le, .int lc, .int ld])), (lb, .inl (cI, 40, .inl fb)), (le, .inl (cI, 40, .inl fe)), (ct, .inl (cI, 40, .inl cc)), (id, .inr (1, [.ref jq, .int il])), (jq, .inl (cB, 60, .inl jf)), (m0, .inr (4, [.ref tr, .ref im, .ref fi, .ref se, .ref u0, .ref id, .ref ct, .int ra, .int ru, .int wg])), (im, .inr (1, [.ref iq, .int L])), (iq, .inl (cB, n, .inl g_7))] H := hP
    have hD : va_D A [(l0, .inr (3, [.int ln, .int lds, .int ltb, .ref lo, .ref lp, .ref lt, .ref lb, .ref le, .int lc, .int ld])), (lb, .inl (cI, 40, .inl fb)), (le, .inl (cI, 40, .inl fe)), (ct, .inl (cI, 40, .inl cc)), (id, .inr (1, [.ref jq, .int il])), (jq, .inl (cB, 60, .inl jf)), (m0, .inr (4, [.ref tr, .ref im, .ref fi, .ref se, .ref u0, .ref id, .ref ct, .int ra, .int ru, .int wg])), (im, .inr (1, [.ref iq, .int L])), (iq, .inl (cB, n, .inl g_7))] := hD
    refine lv_aload_n hx hb d_Maker_writeDescriptor_46 rfl (lv_at hl 0 rfl) ?_
    refine va_get (D := D) (ci := 4) (v := .ref im) (C := "DiscMaker$Maker") (T := F_Maker) (N := 10) hx hb ht9 in_Maker hown hK hP 6 rfl rfl 1 (by decide) (ht9 _ k348) (fun _ h9 => h9) rfl d_Maker_writeDescriptor_47 ?_
    refine lv_iload_n hx hb d_Maker_writeDescriptor_50 rfl (lv_at hl 3 rfl) ?_
    refine lv_bipush (v := 80) hx hb d_Maker_writeDescriptor_51 (by decide) ?_
    refine lv_iadd hx hb d_Maker_writeDescriptor_53 ?_
    refine lv_topi (fun v8 e_v8 => ?_)
    refine lv_aload_n hx hb d_Maker_writeDescriptor_54 rfl (lv_at hl 0 rfl) ?_
    refine va_get (D := D) (ci := 4) (v := .ref im) (C := "DiscMaker$Maker") (T := F_Maker) (N := 10) hx hb ht9 in_Maker hown hK hP 6 rfl rfl 1 (by decide) (ht9 _ k348) (fun _ h9 => h9) rfl d_Maker_writeDescriptor_55 ?_
    refine va_getN (D := D) (ci := 1) (v := .int L) (C := "DiscMaker$Bytes") (T := F_Bytes) (N := 2) hx hb ht9 in_Bytes hown hK hP 7 rfl rfl 1 (by decide) (va_Nw.use rfl (hN _ k257)) (fun _ h9 => h9) rfl d_Maker_writeDescriptor_58 ?_
    refine lv_sipush (v := 2048) hx hb d_Maker_writeDescriptor_61 (by decide) ?_
    refine lv_idiv hx hb d_Maker_writeDescriptor_64 (by decide) ?_
    refine lv_topi (fun v9 e_v9 => ?_)
    refine lv_iconst (v := 4) hx hb d_Maker_writeDescriptor_65 (by decide) ?_
    have hPc := hP.sub (ws' := [(im, .inr (1, [.ref iq, .int L])), (iq, .inl (cB, n, .inl g_7))]) [7, 8] rfl
    have hDc := hD.sub (ws' := [(im, .inr (1, [.ref iq, .int L])), (iq, .inl (cB, n, .inl g_7))]) [7, 8] (by decide +kernel) rfl
    have hFc := va_free (wc := [(im, .inr (1, [.ref iq, .int L])), (iq, .inl (cB, n, .inl g_7))]) hD hS hA [7, 8] rfl
    have hkc : 0 ≤ 0 := by decide
    have hks : 0 ≤ 0 := by decide
    refine va_callv (va_runV (C := "DiscMaker$Bytes") (As := [.int v8, .int v9, .int 4]) (rest := []) ⟨hx, hb, hml, hown, hts⟩ (c3_putBoth l D cB cI cJ cZ cN cF H.size im iq n L g_7 v8 v9 4 (by (try dsimp only); first | assumption | omega | trivial) (by (try dsimp only); first | assumption | omega | trivial) (by (try dsimp only); first | assumption | omega | trivial)) (cwV 3 hts (lg_goodV k1056 k1023 k1024 k119 kc_Bytes_putBoth) rfl rfl rfl (by decide +kernel) ⟨Nat.le_of_ble_eq_true rfl, Nat.le_of_ble_eq_true rfl⟩) ⟨fun a U g mk q => by obtain ⟨q0, q1, qP, qK, qN, qD⟩ := q; exact ⟨q0, q1, qP, va_K.moved (u := U) (U := U.calling g mk a) (Vm.Alike.refl U.vm) qK, qN.calling, qD⟩, va_recv hK hP (ci := 1) (q0 := 7) rfl rfl, fun U hU hW => ⟨rfl, by rw [hU], by rw [hU]; exact hPc, va_K.moved hW.alike hK, NN.warm hW hN, hDc.weaken (fun _ _ _ _ => trivial)⟩⟩ rfl rfl hl.1 rfl (lv_room (Nat.le_of_ble_eq_true rfl)) d_Maker_writeDescriptor_66 ⟨hkc, hks⟩) hS (fun q _ h => hFc q h) hFc (fun u t H1 locs ht hvm hp_r10 hB hz1 hk1 hS => ?_)
    obtain ⟨g_11, rfl⟩ : ∃ z, z = u := ⟨_, rfl⟩
    obtain ⟨hP1, hD1⟩ := hB
    rw [ht] at hP1
    obtain ⟨hP, hD⟩ := va_join (wr := [(l0, .inr (3, [.int ln, .int lds, .int ltb, .ref lo, .ref lp, .ref lt, .ref lb, .ref le, .int lc, .int ld])), (lb, .inl (cI, 40, .inl fb)), (le, .inl (cI, 40, .inl fe)), (ct, .inl (cI, 40, .inl cc)), (id, .inr (1, [.ref jq, .int il])), (jq, .inl (cB, 60, .inl jf)), (m0, .inr (4, [.ref tr, .ref im, .ref fi, .ref se, .ref u0, .ref id, .ref ct, .int ra, .int ru, .int wg]))]) (w1 := [(im, .inr (1, [.ref iq, .int L])), (iq, .inl (cB, n, .inl g_11))]) hP hD [7, 8] [0, 1, 2, 3, 4, 5, 6] rfl rfl (by decide +kernel) (by decide +kernel) hk1 hFc hP1 hD1
    clear hPc hDc hFc hP1 hD1 hk1 hz1 hkc hks
    generalize H1 = H at hP hS ⊢
    have hP : va_P D CL [(l0, .inr (3, [.int ln, .int lds, .int ltb, .ref lo, .ref lp, .ref lt, .ref lb, .ref le, .int lc, .int ld])), (lb, .inl (cI, 40, .inl fb)), (le, .inl (cI, 40, .inl fe)), (ct, .inl (cI, 40, .inl cc)), (id, .inr (1, [.ref jq, .int il])), (jq, .inl (cB, 60, .inl jf)), (m0, .inr (4, [.ref tr, .ref im, .ref fi, .ref se, .ref u0, .ref id, .ref ct, .int ra, .int ru, .int wg])), (im, .inr (1, [.ref iq, .int L])), (iq, .inl (cB, n, .inl g_11))] H := hP
    have hD : va_D A [(l0, .inr (3, [.int ln, .int lds, .int ltb, .ref lo, .ref lp, .ref lt, .ref lb, .ref le, .int lc, .int ld])), (lb, .inl (cI, 40, .inl fb)), (le, .inl (cI, 40, .inl fe)), (ct, .inl (cI, 40, .inl cc)), (id, .inr (1, [.ref jq, .int il])), (jq, .inl (cB, 60, .inl jf)), (m0, .inr (4, [.ref tr, .ref im, .ref fi, .ref se, .ref u0, .ref id, .ref ct, .int ra, .int ru, .int wg])), (im, .inr (1, [.ref iq, .int L])), (iq, .inl (cB, n, .inl g_11))] := hD
    refine zz_labM (B := fun (lk : Nat) (K : Heap → List Loc → Array Slot → List Value → Prop) => ∀ (jm : Nat → Int32) (H : Heap) (locs : List Loc) (ls : Array Slot), lk = 0 → va_P D CL [(l0, .inr (3, [.int ln, .int lds, .int ltb, .ref lo, .ref lp, .ref lt, .ref lb, .ref le, .int lc, .int ld])), (lb, .inl (cI, 40, .inl fb)), (le, .inl (cI, 40, .inl fe)), (ct, .inl (cI, 40, .inl cc)), (id, .inr (1, [.ref jq, .int il])), (jq, .inl (cB, 60, .inl jf)), (m0, .inr (4, [.ref tr, .ref im, .ref fi, .ref se, .ref u0, .ref id, .ref ct, .int ra, .int ru, .int wg])), (im, .inr (1, [.ref iq, .int L])), (iq, .inl (cB, n, .inl jm))] H → va_D A [(l0, .inr (3, [.int ln, .int lds, .int ltb, .ref lo, .ref lp, .ref lt, .ref lb, .ref le, .int lc, .int ld])), (lb, .inl (cI, 40, .inl fb)), (le, .inl (cI, 40, .inl fe)), (ct, .inl (cI, 40, .inl cc)), (id, .inr (1, [.ref jq, .int il])), (jq, .inl (cB, 60, .inl jf)), (m0, .inr (4, [.ref tr, .ref im, .ref fi, .ref se, .ref u0, .ref id, .ref ct, .int ra, .int ru, .int wg])), (im, .inr (1, [.ref iq, .int L])), (iq, .inl (cB, n, .inl jm))] → va_S A s.heap H locs → lv_has ls 5 [(0, .ref m0), (1, .ref l0), (2, .int x), (3, .int v1)] → K H locs ls []) 90 ?_ ?_
    · skip
      intro lk ih90 jm H locs ls hm90 hP hD hS hl
      refine lv_aload_n hx hb d_Maker_writeDescriptor_90 rfl (lv_at hl 0 rfl) ?_
      refine va_get (D := D) (ci := 4) (v := .ref im) (C := "DiscMaker$Maker") (T := F_Maker) (N := 10) hx hb ht9 in_Maker hown hK hP 6 rfl rfl 1 (by decide) (ht9 _ k348) (fun _ h9 => h9) rfl d_Maker_writeDescriptor_91 ?_
      refine lv_iload_n hx hb d_Maker_writeDescriptor_94 rfl (lv_at hl 3 rfl) ?_
      refine lv_bipush (v := 120) hx hb d_Maker_writeDescriptor_95 (by decide) ?_
      refine lv_iadd hx hb d_Maker_writeDescriptor_97 ?_
      refine lv_topi (fun v12 e_v12 => ?_)
      refine lv_iconst (v := 1) hx hb d_Maker_writeDescriptor_98 (by decide) ?_
      refine lv_iconst (v := 2) hx hb d_Maker_writeDescriptor_99 (by decide) ?_
      have hPc := hP.sub (ws' := [(im, .inr (1, [.ref iq, .int L])), (iq, .inl (cB, n, .inl jm))]) [7, 8] rfl
      have hDc := hD.sub (ws' := [(im, .inr (1, [.ref iq, .int L])), (iq, .inl (cB, n, .inl jm))]) [7, 8] (by decide +kernel) rfl
      have hFc := va_free (wc := [(im, .inr (1, [.ref iq, .int L])), (iq, .inl (cB, n, .inl jm))]) hD hS hA [7, 8] rfl
      have hkc : 0 ≤ 0 := by decide
      have hks : 0 ≤ 0 := by decide
      refine va_callv (va_runV (C := "DiscMaker$Bytes") (As := [.int v12, .int 1, .int 2]) (rest := []) ⟨hx, hb, hml, hown, hts⟩ (c3_putBoth l D cB cI cJ cZ cN cF H.size im iq n L jm v12 1 2 (by (try dsimp only); first | assumption | omega | trivial) (by (try dsimp only); first | assumption | omega | trivial) (by (try dsimp only); first | assumption | omega | trivial)) (cwV 3 hts (lg_goodV k1056 k1023 k1024 k119 kc_Bytes_putBoth) rfl rfl rfl (by decide +kernel) ⟨Nat.le_of_ble_eq_true rfl, Nat.le_of_ble_eq_true rfl⟩) ⟨fun a U g mk q => by obtain ⟨q0, q1, qP, qK, qN, qD⟩ := q; exact ⟨q0, q1, qP, va_K.moved (u := U) (U := U.calling g mk a) (Vm.Alike.refl U.vm) qK, qN.calling, qD⟩, va_recv hK hP (ci := 1) (q0 := 7) rfl rfl, fun U hU hW => ⟨rfl, by rw [hU], by rw [hU]; exact hPc, va_K.moved hW.alike hK, NN.warm hW hN, hDc.weaken (fun _ _ _ _ => trivial)⟩⟩ rfl rfl hl.1 rfl (lv_room (Nat.le_of_ble_eq_true rfl)) d_Maker_writeDescriptor_100 ⟨hkc, hks⟩) hS (fun q _ h => hFc q h) hFc (fun u t H1 locs ht hvm hp_r13 hB hz1 hk1 hS => ?_)
      obtain ⟨g_14, rfl⟩ : ∃ z, z = u := ⟨_, rfl⟩
      obtain ⟨hP1, hD1⟩ := hB
      rw [ht] at hP1
      obtain ⟨hP, hD⟩ := va_join (wr := [(l0, .inr (3, [.int ln, .int lds, .int ltb, .ref lo, .ref lp, .ref lt, .ref lb, .ref le, .int lc, .int ld])), (lb, .inl (cI, 40, .inl fb)), (le, .inl (cI, 40, .inl fe)), (ct, .inl (cI, 40, .inl cc)), (id, .inr (1, [.ref jq, .int il])), (jq, .inl (cB, 60, .inl jf)), (m0, .inr (4, [.ref tr, .ref im, .ref fi, .ref se, .ref u0, .ref id, .ref ct, .int ra, .int ru, .int wg]))]) (w1 := [(im, .inr (1, [.ref iq, .int L])), (iq, .inl (cB, n, .inl g_14))]) hP hD [7, 8] [0, 1, 2, 3, 4, 5, 6] rfl rfl (by decide +kernel) (by decide +kernel) hk1 hFc hP1 hD1
      clear hPc hDc hFc hP1 hD1 hk1 hz1 hkc hks
      generalize H1 = H at hP hS ⊢
      have hP : va_P D CL [(l0, .inr (3, [.int ln, .int lds, .int ltb, .ref lo, .ref lp, .ref lt, .ref lb, .ref le, .int lc, .int ld])), (lb, .inl (cI, 40, .inl fb)), (le, .inl (cI, 40, .inl fe)), (ct, .inl (cI, 40, .inl cc)), (id, .inr (1, [.ref jq, .int il])), (jq, .inl (cB, 60, .inl jf)), (m0, .inr (4, [.ref tr, .ref im, .ref fi, .ref se, .ref u0, .ref id, .ref ct, .int ra, .int ru, .int wg])), (im, .inr (1, [.ref iq, .int L])), (iq, .inl (cB, n, .inl g_14))] H := hP
      have hD : va_D A [(l0, .inr (3, [.int ln, .int lds, .int ltb, .ref lo, .ref lp, .ref lt, .ref lb, .ref le, .int lc, .int ld])), (lb, .inl (cI, 40, .inl fb)), (le, .inl (cI, 40, .inl fe)), (ct, .inl (cI, 40, .inl cc)), (id, .inr (1, [.ref jq, .int il])), (jq, .inl (cB, 60, .inl jf)), (m0, .inr (4, [.ref tr, .ref im, .ref fi, .ref se, .ref u0, .ref id, .ref ct, .int ra, .int ru, .int wg])), (im, .inr (1, [.ref iq, .int L])), (iq, .inl (cB, n, .inl g_14))] := hD
      refine lv_aload_n hx hb d_Maker_writeDescriptor_103 rfl (lv_at hl 0 rfl) ?_
      refine va_get (D := D) (ci := 4) (v := .ref im) (C := "DiscMaker$Maker") (T := F_Maker) (N := 10) hx hb ht9 in_Maker hown hK hP 6 rfl rfl 1 (by decide) (ht9 _ k348) (fun _ h9 => h9) rfl d_Maker_writeDescriptor_104 ?_
      refine lv_iload_n hx hb d_Maker_writeDescriptor_107 rfl (lv_at hl 3 rfl) ?_
      refine lv_bipush (v := 124) hx hb d_Maker_writeDescriptor_108 (by decide) ?_
      refine lv_iadd hx hb d_Maker_writeDescriptor_110 ?_
      refine lv_topi (fun v15 e_v15 => ?_)
      refine lv_iconst (v := 1) hx hb d_Maker_writeDescriptor_111 (by decide) ?_
      refine lv_iconst (v := 2) hx hb d_Maker_writeDescriptor_112 (by decide) ?_
      have hPc := hP.sub (ws' := [(im, .inr (1, [.ref iq, .int L])), (iq, .inl (cB, n, .inl g_14))]) [7, 8] rfl
      have hDc := hD.sub (ws' := [(im, .inr (1, [.ref iq, .int L])), (iq, .inl (cB, n, .inl g_14))]) [7, 8] (by decide +kernel) rfl
      have hFc := va_free (wc := [(im, .inr (1, [.ref iq, .int L])), (iq, .inl (cB, n, .inl g_14))]) hD hS hA [7, 8] rfl
      have hkc : 0 ≤ 0 := by decide
      have hks : 0 ≤ 0 := by decide
      refine va_callv (va_runV (C := "DiscMaker$Bytes") (As := [.int v15, .int 1, .int 2]) (rest := []) ⟨hx, hb, hml, hown, hts⟩ (c3_putBoth l D cB cI cJ cZ cN cF H.size im iq n L g_14 v15 1 2 (by (try dsimp only); first | assumption | omega | trivial) (by (try dsimp only); first | assumption | omega | trivial) (by (try dsimp only); first | assumption | omega | trivial)) (cwV 3 hts (lg_goodV k1056 k1023 k1024 k119 kc_Bytes_putBoth) rfl rfl rfl (by decide +kernel) ⟨Nat.le_of_ble_eq_true rfl, Nat.le_of_ble_eq_true rfl⟩) ⟨fun a U g mk q => by obtain ⟨q0, q1, qP, qK, qN, qD⟩ := q; exact ⟨q0, q1, qP, va_K.moved (u := U) (U := U.calling g mk a) (Vm.Alike.refl U.vm) qK, qN.calling, qD⟩, va_recv hK hP (ci := 1) (q0 := 7) rfl rfl, fun U hU hW => ⟨rfl, by rw [hU], by rw [hU]; exact hPc, va_K.moved hW.alike hK, NN.warm hW hN, hDc.weaken (fun _ _ _ _ => trivial)⟩⟩ rfl rfl hl.1 rfl (lv_room (Nat.le_of_ble_eq_true rfl)) d_Maker_writeDescriptor_113 ⟨hkc, hks⟩) hS (fun q _ h => hFc q h) hFc (fun u t H1 locs ht hvm hp_r16 hB hz1 hk1 hS => ?_)
      obtain ⟨g_17, rfl⟩ : ∃ z, z = u := ⟨_, rfl⟩
      obtain ⟨hP1, hD1⟩ := hB
      rw [ht] at hP1
      obtain ⟨hP, hD⟩ := va_join (wr := [(l0, .inr (3, [.int ln, .int lds, .int ltb, .ref lo, .ref lp, .ref lt, .ref lb, .ref le, .int lc, .int ld])), (lb, .inl (cI, 40, .inl fb)), (le, .inl (cI, 40, .inl fe)), (ct, .inl (cI, 40, .inl cc)), (id, .inr (1, [.ref jq, .int il])), (jq, .inl (cB, 60, .inl jf)), (m0, .inr (4, [.ref tr, .ref im, .ref fi, .ref se, .ref u0, .ref id, .ref ct, .int ra, .int ru, .int wg]))]) (w1 := [(im, .inr (1, [.ref iq, .int L])), (iq, .inl (cB, n, .inl g_17))]) hP hD [7, 8] [0, 1, 2, 3, 4, 5, 6] rfl rfl (by decide +kernel) (by decide +kernel) hk1 hFc hP1 hD1
      clear hPc hDc hFc hP1 hD1 hk1 hz1 hkc hks
      generalize H1 = H at hP hS ⊢
      have hP : va_P D CL [(l0, .inr (3, [.int ln, .int lds, .int ltb, .ref lo, .ref lp, .ref lt, .ref lb, .ref le, .int lc, .int ld])), (lb, .inl (cI, 40, .inl fb)), (le, .inl (cI, 40, .inl fe)), (ct, .inl (cI, 40, .inl cc)), (id, .inr (1, [.ref jq, .int il])), (jq, .inl (cB, 60, .inl jf)), (m0, .inr (4, [.ref tr, .ref im, .ref fi, .ref se, .ref u0, .ref id, .ref ct, .int ra, .int ru, .int wg])), (im, .inr (1, [.ref iq, .int L])), (iq, .inl (cB, n, .inl g_17))] H := hP
      have hD : va_D A [(l0, .inr (3, [.int ln, .int lds, .int ltb, .ref lo, .ref lp, .ref lt, .ref lb, .ref le, .int lc, .int ld])), (lb, .inl (cI, 40, .inl fb)), (le, .inl (cI, 40, .inl fe)), (ct, .inl (cI, 40, .inl cc)), (id, .inr (1, [.ref jq, .int il])), (jq, .inl (cB, 60, .inl jf)), (m0, .inr (4, [.ref tr, .ref im, .ref fi, .ref se, .ref u0, .ref id, .ref ct, .int ra, .int ru, .int wg])), (im, .inr (1, [.ref iq, .int L])), (iq, .inl (cB, n, .inl g_17))] := hD
      refine lv_aload_n hx hb d_Maker_writeDescriptor_116 rfl (lv_at hl 0 rfl) ?_
      refine va_get (D := D) (ci := 4) (v := .ref im) (C := "DiscMaker$Maker") (T := F_Maker) (N := 10) hx hb ht9 in_Maker hown hK hP 6 rfl rfl 1 (by decide) (ht9 _ k348) (fun _ h9 => h9) rfl d_Maker_writeDescriptor_117 ?_
      refine lv_iload_n hx hb d_Maker_writeDescriptor_120 rfl (lv_at hl 3 rfl) ?_
      refine lv_sipush (v := 128) hx hb d_Maker_writeDescriptor_121 (by decide) ?_
      refine lv_iadd hx hb d_Maker_writeDescriptor_124 ?_
      refine lv_topi (fun v18 e_v18 => ?_)
      refine lv_sipush (v := 2048) hx hb d_Maker_writeDescriptor_125 (by decide) ?_
      refine lv_iconst (v := 2) hx hb d_Maker_writeDescriptor_128 (by decide) ?_
      have hPc := hP.sub (ws' := [(im, .inr (1, [.ref iq, .int L])), (iq, .inl (cB, n, .inl g_17))]) [7, 8] rfl
      have hDc := hD.sub (ws' := [(im, .inr (1, [.ref iq, .int L])), (iq, .inl (cB, n, .inl g_17))]) [7, 8] (by decide +kernel) rfl
      have hFc := va_free (wc := [(im, .inr (1, [.ref iq, .int L])), (iq, .inl (cB, n, .inl g_17))]) hD hS hA [7, 8] rfl
      have hkc : 0 ≤ 0 := by decide
      have hks : 0 ≤ 0 := by decide
      refine va_callv (va_runV (C := "DiscMaker$Bytes") (As := [.int v18, .int 2048, .int 2]) (rest := []) ⟨hx, hb, hml, hown, hts⟩ (c3_putBoth l D cB cI cJ cZ cN cF H.size im iq n L g_17 v18 2048 2 (by (try dsimp only); first | assumption | omega | trivial) (by (try dsimp only); first | assumption | omega | trivial) (by (try dsimp only); first | assumption | omega | trivial)) (cwV 3 hts (lg_goodV k1056 k1023 k1024 k119 kc_Bytes_putBoth) rfl rfl rfl (by decide +kernel) ⟨Nat.le_of_ble_eq_true rfl, Nat.le_of_ble_eq_true rfl⟩) ⟨fun a U g mk q => by obtain ⟨q0, q1, qP, qK, qN, qD⟩ := q; exact ⟨q0, q1, qP, va_K.moved (u := U) (U := U.calling g mk a) (Vm.Alike.refl U.vm) qK, qN.calling, qD⟩, va_recv hK hP (ci := 1) (q0 := 7) rfl rfl, fun U hU hW => ⟨rfl, by rw [hU], by rw [hU]; exact hPc, va_K.moved hW.alike hK, NN.warm hW hN, hDc.weaken (fun _ _ _ _ => trivial)⟩⟩ rfl rfl hl.1 rfl (lv_room (Nat.le_of_ble_eq_true rfl)) d_Maker_writeDescriptor_129 ⟨hkc, hks⟩) hS (fun q _ h => hFc q h) hFc (fun u t H1 locs ht hvm hp_r19 hB hz1 hk1 hS => ?_)
      obtain ⟨g_20, rfl⟩ : ∃ z, z = u := ⟨_, rfl⟩
      obtain ⟨hP1, hD1⟩ := hB
      rw [ht] at hP1
      obtain ⟨hP, hD⟩ := va_join (wr := [(l0, .inr (3, [.int ln, .int lds, .int ltb, .ref lo, .ref lp, .ref lt, .ref lb, .ref le, .int lc, .int ld])), (lb, .inl (cI, 40, .inl fb)), (le, .inl (cI, 40, .inl fe)), (ct, .inl (cI, 40, .inl cc)), (id, .inr (1, [.ref jq, .int il])), (jq, .inl (cB, 60, .inl jf)), (m0, .inr (4, [.ref tr, .ref im, .ref fi, .ref se, .ref u0, .ref id, .ref ct, .int ra, .int ru, .int wg]))]) (w1 := [(im, .inr (1, [.ref iq, .int L])), (iq, .inl (cB, n, .inl g_20))]) hP hD [7, 8] [0, 1, 2, 3, 4, 5, 6] rfl rfl (by decide +kernel) (by decide +kernel) hk1 hFc hP1 hD1
      clear hPc hDc hFc hP1 hD1 hk1 hz1 hkc hks
      generalize H1 = H at hP hS ⊢
      have hP : va_P D CL [(l0, .inr (3, [.int ln, .int lds, .int ltb, .ref lo, .ref lp, .ref lt, .ref lb, .ref le, .int lc, .int ld])), (lb, .inl (cI, 40, .inl fb)), (le, .inl (cI, 40, .inl fe)), (ct, .inl (cI, 40, .inl cc)), (id, .inr (1, [.ref jq, .int il])), (jq, .inl (cB, 60, .inl jf)), (m0, .inr (4, [.ref tr, .ref im, .ref fi, .ref se, .ref u0, .ref id, .ref ct, .int ra, .int ru, .int wg])), (im, .inr (1, [.ref iq, .int L])), (iq, .inl (cB, n, .inl g_20))] H := hP
      have hD : va_D A [(l0, .inr (3, [.int ln, .int lds, .int ltb, .ref lo, .ref lp, .ref lt, .ref lb, .ref le, .int lc, .int ld])), (lb, .inl (cI, 40, .inl fb)), (le, .inl (cI, 40, .inl fe)), (ct, .inl (cI, 40, .inl cc)), (id, .inr (1, [.ref jq, .int il])), (jq, .inl (cB, 60, .inl jf)), (m0, .inr (4, [.ref tr, .ref im, .ref fi, .ref se, .ref u0, .ref id, .ref ct, .int ra, .int ru, .int wg])), (im, .inr (1, [.ref iq, .int L])), (iq, .inl (cB, n, .inl g_20))] := hD
      refine lv_aload_n hx hb d_Maker_writeDescriptor_132 rfl (lv_at hl 0 rfl) ?_
      refine va_get (D := D) (ci := 4) (v := .ref im) (C := "DiscMaker$Maker") (T := F_Maker) (N := 10) hx hb ht9 in_Maker hown hK hP 6 rfl rfl 1 (by decide) (ht9 _ k348) (fun _ h9 => h9) rfl d_Maker_writeDescriptor_133 ?_
      refine lv_iload_n hx hb d_Maker_writeDescriptor_136 rfl (lv_at hl 3 rfl) ?_
      refine lv_sipush (v := 132) hx hb d_Maker_writeDescriptor_137 (by decide) ?_
      refine lv_iadd hx hb d_Maker_writeDescriptor_140 ?_
      refine lv_topi (fun v21 e_v21 => ?_)
      refine lv_iload_n hx hb d_Maker_writeDescriptor_141 rfl (lv_at hl 2 rfl) ?_
      refine lv_iconst (v := 4) hx hb d_Maker_writeDescriptor_142 (by decide) ?_
      have hPc := hP.sub (ws' := [(im, .inr (1, [.ref iq, .int L])), (iq, .inl (cB, n, .inl g_20))]) [7, 8] rfl
      have hDc := hD.sub (ws' := [(im, .inr (1, [.ref iq, .int L])), (iq, .inl (cB, n, .inl g_20))]) [7, 8] (by decide +kernel) rfl
      have hFc := va_free (wc := [(im, .inr (1, [.ref iq, .int L])), (iq, .inl (cB, n, .inl g_20))]) hD hS hA [7, 8] rfl
      have hkc : 0 ≤ 0 := by decide
      have hks : 0 ≤ 0 := by decide
      refine va_callv (va_runV (C := "DiscMaker$Bytes") (As := [.int v21, .int x, .int 4]) (rest := []) ⟨hx, hb, hml, hown, hts⟩ (c3_putBoth l D cB cI cJ cZ cN cF H.size im iq n L g_20 v21 x 4 (by (try dsimp only); first | assumption | omega | trivial) (by (try dsimp only); first | assumption | omega | trivial) (by (try dsimp only); first | assumption | omega | trivial)) (cwV 3 hts (lg_goodV k1056 k1023 k1024 k119 kc_Bytes_putBoth) rfl rfl rfl (by decide +kernel) ⟨Nat.le_of_ble_eq_true rfl, Nat.le_of_ble_eq_true rfl⟩) ⟨fun a U g mk q => by obtain ⟨q0, q1, qP, qK, qN, qD⟩ := q; exact ⟨q0, q1, qP, va_K.moved (u := U) (U := U.calling g mk a) (Vm.Alike.refl U.vm) qK, qN.calling, qD⟩, va_recv hK hP (ci := 1) (q0 := 7) rfl rfl, fun U hU hW => ⟨rfl, by rw [hU], by rw [hU]; exact hPc, va_K.moved hW.alike hK, NN.warm hW hN, hDc.weaken (fun _ _ _ _ => trivial)⟩⟩ rfl rfl hl.1 rfl (lv_room (Nat.le_of_ble_eq_true rfl)) d_Maker_writeDescriptor_143 ⟨hkc, hks⟩) hS (fun q _ h => hFc q h) hFc (fun u t H1 locs ht hvm hp_r22 hB hz1 hk1 hS => ?_)
      obtain ⟨g_23, rfl⟩ : ∃ z, z = u := ⟨_, rfl⟩
      obtain ⟨hP1, hD1⟩ := hB
      rw [ht] at hP1
      obtain ⟨hP, hD⟩ := va_join (wr := [(l0, .inr (3, [.int ln, .int lds, .int ltb, .ref lo, .ref lp, .ref lt, .ref lb, .ref le, .int lc, .int ld])), (lb, .inl (cI, 40, .inl fb)), (le, .inl (cI, 40, .inl fe)), (ct, .inl (cI, 40, .inl cc)), (id, .inr (1, [.ref jq, .int il])), (jq, .inl (cB, 60, .inl jf)), (m0, .inr (4, [.ref tr, .ref im, .ref fi, .ref se, .ref u0, .ref id, .ref ct, .int ra, .int ru, .int wg]))]) (w1 := [(im, .inr (1, [.ref iq, .int L])), (iq, .inl (cB, n, .inl g_23))]) hP hD [7, 8] [0, 1, 2, 3, 4, 5, 6] rfl rfl (by decide +kernel) (by decide +kernel) hk1 hFc hP1 hD1
      clear hPc hDc hFc hP1 hD1 hk1 hz1 hkc hks
      generalize H1 = H at hP hS ⊢
      have hP : va_P D CL [(l0, .inr (3, [.int ln, .int lds, .int ltb, .ref lo, .ref lp, .ref lt, .ref lb, .ref le, .int lc, .int ld])), (lb, .inl (cI, 40, .inl fb)), (le, .inl (cI, 40, .inl fe)), (ct, .inl (cI, 40, .inl cc)), (id, .inr (1, [.ref jq, .int il])), (jq, .inl (cB, 60, .inl jf)), (m0, .inr (4, [.ref tr, .ref im, .ref fi, .ref se, .ref u0, .ref id, .ref ct, .int ra, .int ru, .int wg])), (im, .inr (1, [.ref iq, .int L])), (iq, .inl (cB, n, .inl g_23))] H := hP
      have hD : va_D A [(l0, .inr (3, [.int ln, .int lds, .int ltb, .ref lo, .ref lp, .ref lt, .ref lb, .ref le, .int lc, .int ld])), (lb, .inl (cI, 40, .inl fb)), (le, .inl (cI, 40, .inl fe)), (ct, .inl (cI, 40, .inl cc)), (id, .inr (1, [.ref jq, .int il])), (jq, .inl (cB, 60, .inl jf)), (m0, .inr (4, [.ref tr, .ref im, .ref fi, .ref se, .ref u0, .ref id, .ref ct, .int ra, .int ru, .int wg])), (im, .inr (1, [.ref iq, .int L])), (iq, .inl (cB, n, .inl g_23))] := hD
      refine lv_aload_n hx hb d_Maker_writeDescriptor_146 rfl (lv_at hl 0 rfl) ?_
      refine va_get (D := D) (ci := 4) (v := .ref im) (C := "DiscMaker$Maker") (T := F_Maker) (N := 10) hx hb ht9 in_Maker hown hK hP 6 rfl rfl 1 (by decide) (ht9 _ k348) (fun _ h9 => h9) rfl d_Maker_writeDescriptor_147 ?_
      refine lv_iload_n hx hb d_Maker_writeDescriptor_150 rfl (lv_at hl 3 rfl) ?_
      refine lv_sipush (v := 140) hx hb d_Maker_writeDescriptor_151 (by decide) ?_
      refine lv_iadd hx hb d_Maker_writeDescriptor_154 ?_
      refine lv_topi (fun v24 e_v24 => ?_)
      refine lv_aload_n hx hb d_Maker_writeDescriptor_155 rfl (lv_at hl 1 rfl) ?_
      refine va_getN (D := D) (ci := 3) (v := .int ltb) (C := "DiscMaker$Layout") (T := F_Layout) (N := 10) hx hb ht9 in_Layout hown hK hP 0 rfl rfl 2 (by decide) (va_Nw.use rfl (hN _ k285)) (fun _ h9 => h9) rfl d_Maker_writeDescriptor_156 ?_
      refine lv_iconst (v := 4) hx hb d_Maker_writeDescriptor_159 (by decide) ?_
      have hPc := hP.sub (ws' := [(im, .inr (1, [.ref iq, .int L])), (iq, .inl (cB, n, .inl g_23))]) [7, 8] rfl
      have hDc := hD.sub (ws' := [(im, .inr (1, [.ref iq, .int L])), (iq, .inl (cB, n, .inl g_23))]) [7, 8] (by decide +kernel) rfl
      have hFc := va_free (wc := [(im, .inr (1, [.ref iq, .int L])), (iq, .inl (cB, n, .inl g_23))]) hD hS hA [7, 8] rfl
      have hkc : 0 ≤ 0 := by decide
      have hks : 0 ≤ 0 := by decide
      refine va_callv (va_runV (C := "DiscMaker$Bytes") (As := [.int v24, .int ltb, .int 4]) (rest := []) ⟨hx, hb, hml, hown, hts⟩ (c3_putLow l D cB cI cJ cZ cN cF H.size im iq n L g_23 v24 ltb 4 (by (try dsimp only); first | assumption | omega | trivial) (by (try dsimp only); first | assumption | omega | trivial) (by (try dsimp only); first | assumption | omega | trivial)) (cwV 3 hts (lg_goodV k1095 k1096 k1097 k119 kc_Bytes_putLow) rfl rfl rfl (by decide +kernel) ⟨Nat.le_of_ble_eq_true rfl, Nat.le_of_ble_eq_true rfl⟩) ⟨fun a U g mk q => by obtain ⟨q0, q1, qP, qK, qN, qD⟩ := q; exact ⟨q0, q1, qP, va_K.moved (u := U) (U := U.calling g mk a) (Vm.Alike.refl U.vm) qK, qN.calling, qD⟩, va_recv hK hP (ci := 1) (q0 := 7) rfl rfl, fun U hU hW => ⟨rfl, by rw [hU], by rw [hU]; exact hPc, va_K.moved hW.alike hK, NN.warm hW hN, hDc.weaken (fun _ _ _ _ => trivial)⟩⟩ rfl rfl hl.1 rfl (lv_room (Nat.le_of_ble_eq_true rfl)) d_Maker_writeDescriptor_160 ⟨hkc, hks⟩) hS (fun q _ h => hFc q h) hFc (fun u t H1 locs ht hvm hp_r25 hB hz1 hk1 hS => ?_)
      obtain ⟨g_26, rfl⟩ : ∃ z, z = u := ⟨_, rfl⟩
      obtain ⟨hP1, hD1⟩ := hB
      rw [ht] at hP1
      obtain ⟨hP, hD⟩ := va_join (wr := [(l0, .inr (3, [.int ln, .int lds, .int ltb, .ref lo, .ref lp, .ref lt, .ref lb, .ref le, .int lc, .int ld])), (lb, .inl (cI, 40, .inl fb)), (le, .inl (cI, 40, .inl fe)), (ct, .inl (cI, 40, .inl cc)), (id, .inr (1, [.ref jq, .int il])), (jq, .inl (cB, 60, .inl jf)), (m0, .inr (4, [.ref tr, .ref im, .ref fi, .ref se, .ref u0, .ref id, .ref ct, .int ra, .int ru, .int wg]))]) (w1 := [(im, .inr (1, [.ref iq, .int L])), (iq, .inl (cB, n, .inl g_26))]) hP hD [7, 8] [0, 1, 2, 3, 4, 5, 6] rfl rfl (by decide +kernel) (by decide +kernel) hk1 hFc hP1 hD1
      clear hPc hDc hFc hP1 hD1 hk1 hz1 hkc hks
      generalize H1 = H at hP hS ⊢
      have hP : va_P D CL [(l0, .inr (3, [.int ln, .int lds, .int ltb, .ref lo, .ref lp, .ref lt, .ref lb, .ref le, .int lc, .int ld])), (lb, .inl (cI, 40, .inl fb)), (le, .inl (cI, 40, .inl fe)), (ct, .inl (cI, 40, .inl cc)), (id, .inr (1, [.ref jq, .int il])), (jq, .inl (cB, 60, .inl jf)), (m0, .inr (4, [.ref tr, .ref im, .ref fi, .ref se, .ref u0, .ref id, .ref ct, .int ra, .int ru, .int wg])), (im, .inr (1, [.ref iq, .int L])), (iq, .inl (cB, n, .inl g_26))] H := hP
      have hD : va_D A [(l0, .inr (3, [.int ln, .int lds, .int ltb, .ref lo, .ref lp, .ref lt, .ref lb, .ref le, .int lc, .int ld])), (lb, .inl (cI, 40, .inl fb)), (le, .inl (cI, 40, .inl fe)), (ct, .inl (cI, 40, .inl cc)), (id, .inr (1, [.ref jq, .int il])), (jq, .inl (cB, 60, .inl jf)), (m0, .inr (4, [.ref tr, .ref im, .ref fi, .ref se, .ref u0, .ref id, .ref ct, .int ra, .int ru, .int wg])), (im, .inr (1, [.ref iq, .int L])), (iq, .inl (cB, n, .inl g_26))] := hD
      refine lv_aload_n hx hb d_Maker_writeDescriptor_163 rfl (lv_at hl 0 rfl) ?_
      refine va_get (D := D) (ci := 4) (v := .ref im) (C := "DiscMaker$Maker") (T := F_Maker) (N := 10) hx hb ht9 in_Maker hown hK hP 6 rfl rfl 1 (by decide) (ht9 _ k348) (fun _ h9 => h9) rfl d_Maker_writeDescriptor_164 ?_
      refine lv_iload_n hx hb d_Maker_writeDescriptor_167 rfl (lv_at hl 3 rfl) ?_
      refine lv_sipush (v := 148) hx hb d_Maker_writeDescriptor_168 (by decide) ?_
      refine lv_iadd hx hb d_Maker_writeDescriptor_171 ?_
      refine lv_topi (fun v27 e_v27 => ?_)
      refine lv_aload_n hx hb d_Maker_writeDescriptor_172 rfl (lv_at hl 1 rfl) ?_
      refine va_getN (D := D) (ci := 3) (v := .int ltb) (C := "DiscMaker$Layout") (T := F_Layout) (N := 10) hx hb ht9 in_Layout hown hK hP 0 rfl rfl 2 (by decide) (va_Nw.use rfl (hN _ k285)) (fun _ h9 => h9) rfl d_Maker_writeDescriptor_173 ?_
      refine lv_iconst (v := 1) hx hb d_Maker_writeDescriptor_176 (by decide) ?_
      refine lv_iadd hx hb d_Maker_writeDescriptor_177 ?_
      refine lv_topi (fun v28 e_v28 => ?_)
      refine lv_iconst (v := 4) hx hb d_Maker_writeDescriptor_178 (by decide) ?_
      have hPc := hP.sub (ws' := [(im, .inr (1, [.ref iq, .int L])), (iq, .inl (cB, n, .inl g_26))]) [7, 8] rfl
      have hDc := hD.sub (ws' := [(im, .inr (1, [.ref iq, .int L])), (iq, .inl (cB, n, .inl g_26))]) [7, 8] (by decide +kernel) rfl
      have hFc := va_free (wc := [(im, .inr (1, [.ref iq, .int L])), (iq, .inl (cB, n, .inl g_26))]) hD hS hA [7, 8] rfl
      have hkc : 0 ≤ 0 := by decide
      have hks : 0 ≤ 0 := by decide
      refine va_callv (va_runV (C := "DiscMaker$Bytes") (As := [.int v27, .int v28, .int 4]) (rest := []) ⟨hx, hb, hml, hown, hts⟩ (c3_putHigh l D cB cI cJ cZ cN cF H.size im iq n L g_26 v27 v28 4 (by (try dsimp only); first | assumption | omega | trivial) (by (try dsimp only); first | assumption | omega | trivial) (by (try dsimp only); first | assumption | omega | trivial)) (cwV 3 hts (lg_goodV k1072 k985 k986 k119 kc_Bytes_putHigh) rfl rfl rfl (by decide +kernel) ⟨Nat.le_of_ble_eq_true rfl, Nat.le_of_ble_eq_true rfl⟩) ⟨fun a U g mk q => by obtain ⟨q0, q1, qP, qK, qN, qD⟩ := q; exact ⟨q0, q1, qP, va_K.moved (u := U) (U := U.calling g mk a) (Vm.Alike.refl U.vm) qK, qN.calling, qD⟩, va_recv hK hP (ci := 1) (q0 := 7) rfl rfl, fun U hU hW => ⟨rfl, by rw [hU], by rw [hU]; exact hPc, va_K.moved hW.alike hK, NN.warm hW hN, hDc.weaken (fun _ _ _ _ => trivial)⟩⟩ rfl rfl hl.1 rfl (lv_room (Nat.le_of_ble_eq_true rfl)) d_Maker_writeDescriptor_179 ⟨hkc, hks⟩) hS (fun q _ h => hFc q h) hFc (fun u t H1 locs ht hvm hp_r29 hB hz1 hk1 hS => ?_)
      obtain ⟨g_30, rfl⟩ : ∃ z, z = u := ⟨_, rfl⟩
      obtain ⟨hP1, hD1⟩ := hB
      rw [ht] at hP1
      obtain ⟨hP, hD⟩ := va_join (wr := [(l0, .inr (3, [.int ln, .int lds, .int ltb, .ref lo, .ref lp, .ref lt, .ref lb, .ref le, .int lc, .int ld])), (lb, .inl (cI, 40, .inl fb)), (le, .inl (cI, 40, .inl fe)), (ct, .inl (cI, 40, .inl cc)), (id, .inr (1, [.ref jq, .int il])), (jq, .inl (cB, 60, .inl jf)), (m0, .inr (4, [.ref tr, .ref im, .ref fi, .ref se, .ref u0, .ref id, .ref ct, .int ra, .int ru, .int wg]))]) (w1 := [(im, .inr (1, [.ref iq, .int L])), (iq, .inl (cB, n, .inl g_30))]) hP hD [7, 8] [0, 1, 2, 3, 4, 5, 6] rfl rfl (by decide +kernel) (by decide +kernel) hk1 hFc hP1 hD1
      clear hPc hDc hFc hP1 hD1 hk1 hz1 hkc hks
      generalize H1 = H at hP hS ⊢
      have hP : va_P D CL [(l0, .inr (3, [.int ln, .int lds, .int ltb, .ref lo, .ref lp, .ref lt, .ref lb, .ref le, .int lc, .int ld])), (lb, .inl (cI, 40, .inl fb)), (le, .inl (cI, 40, .inl fe)), (ct, .inl (cI, 40, .inl cc)), (id, .inr (1, [.ref jq, .int il])), (jq, .inl (cB, 60, .inl jf)), (m0, .inr (4, [.ref tr, .ref im, .ref fi, .ref se, .ref u0, .ref id, .ref ct, .int ra, .int ru, .int wg])), (im, .inr (1, [.ref iq, .int L])), (iq, .inl (cB, n, .inl g_30))] H := hP
      have hD : va_D A [(l0, .inr (3, [.int ln, .int lds, .int ltb, .ref lo, .ref lp, .ref lt, .ref lb, .ref le, .int lc, .int ld])), (lb, .inl (cI, 40, .inl fb)), (le, .inl (cI, 40, .inl fe)), (ct, .inl (cI, 40, .inl cc)), (id, .inr (1, [.ref jq, .int il])), (jq, .inl (cB, 60, .inl jf)), (m0, .inr (4, [.ref tr, .ref im, .ref fi, .ref se, .ref u0, .ref id, .ref ct, .int ra, .int ru, .int wg])), (im, .inr (1, [.ref iq, .int L])), (iq, .inl (cB, n, .inl g_30))] := hD
      refine lv_aload_n hx hb d_Maker_writeDescriptor_182 rfl (lv_at hl 0 rfl) ?_
      refine lv_aload_n hx hb d_Maker_writeDescriptor_183 rfl (lv_at hl 1 rfl) ?_
      refine lv_aload_n hx hb d_Maker_writeDescriptor_184 rfl (lv_at hl 0 rfl) ?_
      refine va_get (D := D) (ci := 4) (v := .ref tr) (C := "DiscMaker$Maker") (T := F_Maker) (N := 10) hx hb ht9 in_Maker hown hK hP 6 rfl rfl 0 (by decide) (ht9 _ k347) (fun _ h9 => h9) rfl d_Maker_writeDescriptor_185 ?_
      have hPR := RO_at hZr hS
      refine va_getN (D := D) (ci := 10) (v := .ref ta) (C := "DiscMaker$Tree") (T := F_Tree) (N := 3) hx hb ht9 in_Tree hown hK hPR 0 rfl rfl 0 (by decide) (va_Nw.use rfl (hN _ k237)) (fun _ h9 => h9) rfl d_Maker_writeDescriptor_188 ?_
      refine lv_iconst (v := 0) hx hb d_Maker_writeDescriptor_191 (by decide) ?_
      have hPR := RO_at hZr hS
      refine va_aldq hx hb hK hPR 1 4 rfl rfl (by unfold vp_in; decide) d_Maker_writeDescriptor_192 ?_
      have hk31 : 0 < cm := by omega
      have o_hk31 := htok 0 hk31
      obtain ⟨i_hj32, hj32⟩ : ∃ j : Nat, (PL (NC cB na ng nn nf) cm)[j]? = some ((na 0 0), .inr (5, [.int (ng 0 0), .ref (na 0 1), .ref (na 0 2), .ref (na 0 3), .int (ng 0 1), .int (ng 0 2), .int (ng 0 3), .int (ng 0 4), .int (ng 0 5), .int (ng 0 6), .int (ng 0 7), .int (ng 0 8)])) := PL_get (i := 0) hk31 rfl
      obtain ⟨i_hj33, hj33⟩ : ∃ j : Nat, (PL (NC cB na ng nn nf) cm)[j]? = some ((na 0 1), .inl (cB, (nn 0 1), .inl (nf 0 1))) := PL_get (i := 1) hk31 rfl
      obtain ⟨i_hj34, hj34⟩ : ∃ j : Nat, (PL (NC cB na ng nn nf) cm)[j]? = some ((na 0 2), .inl (cB, 11, .inl (nf 0 2))) := PL_get (i := 2) hk31 rfl
      obtain ⟨i_hj35, hj35⟩ : ∃ j : Nat, (PL (NC cB na ng nn nf) cm)[j]? = some ((na 0 3), .inl (cB, (nn 0 3), .inl (nf 0 3))) := PL_get (i := 3) hk31 rfl
      refine W.eq (g2 := F0 m 193 ls [.ref (na 0 0), .ref l0, .ref m0]) (by rw [show rowF na cm (0 : Int32).toNatClampNeg = some (na 0 0) from rowF_some hk31]; rfl) ?_
      refine lv_iconst (v := 0) hx hb d_Maker_writeDescriptor_193 (by decide) ?_
      have hPc := hP.sub (ws' := [(m0, .inr (4, [.ref tr, .ref im, .ref fi, .ref se, .ref u0, .ref id, .ref ct, .int ra, .int ru, .int wg])), (l0, .inr (3, [.int ln, .int lds, .int ltb, .ref lo, .ref lp, .ref lt, .ref lb, .ref le, .int lc, .int ld])), (id, .inr (1, [.ref jq, .int il])), (jq, .inl (cB, 60, .inl jf))]) [6, 0, 4, 5] rfl
      have hDc := hD.sub (ws' := [(m0, .inr (4, [.ref tr, .ref im, .ref fi, .ref se, .ref u0, .ref id, .ref ct, .int ra, .int ru, .int wg])), (l0, .inr (3, [.int ln, .int lds, .int ltb, .ref lo, .ref lp, .ref lt, .ref lb, .ref le, .int lc, .int ld])), (id, .inr (1, [.ref jq, .int il])), (jq, .inl (cB, 60, .inl jf))]) [6, 0, 4, 5] (by decide +kernel) rfl
      have hFc := va_free (wc := [(m0, .inr (4, [.ref tr, .ref im, .ref fi, .ref se, .ref u0, .ref id, .ref ct, .int ra, .int ru, .int wg])), (l0, .inr (3, [.int ln, .int lds, .int ltb, .ref lo, .ref lp, .ref lt, .ref lb, .ref le, .int lc, .int ld])), (id, .inr (1, [.ref jq, .int il])), (jq, .inl (cB, 60, .inl jf))]) hD hS hA [6, 0, 4, 5] rfl
      have hkc : 0 ≤ 0 := by decide
      have hks : 0 ≤ 0 := by decide
      refine va_callv (va_runV (C := "DiscMaker$Maker") (As := [.ref l0, .ref (na 0 0), .int 0]) (rest := []) ⟨hx, hb, hml, hown, hts⟩ (c3_Maker_identify l D cB cI cJ cZ cN cF H.size m0 tr im fi se u0 id ct ra ru wg l0 lo lp lt lb le ln lds ltb lc ld jq il jf (na 0 0) (na 0 1) (na 0 2) (na 0 3) (ng 0 0) (ng 0 1) (ng 0 2) (ng 0 3) (ng 0 4) (ng 0 5) (ng 0 6) (ng 0 7) (ng 0 8) (nn 0 1) (nf 0 1) (nf 0 2) 0 (by (try dsimp only); first | assumption | omega | trivial)) (cwV 3 hts (lg_goodV k972 k974 k18 k120 kc_Maker_identify) rfl rfl rfl (by decide +kernel) ⟨Nat.le_of_ble_eq_true rfl, Nat.le_of_ble_eq_true rfl⟩) ⟨fun a U g mk q => by obtain ⟨q0, q1, qP, qK, qN, qD, qZ0⟩ := q; exact ⟨q0, q1, qP, va_K.moved (u := U) (U := U.calling g mk a) (Vm.Alike.refl U.vm) qK, qN.calling, qD, RO_blind qZ0⟩, va_recv hK hP (ci := 4) (q0 := 6) rfl rfl, fun U hU hW => ⟨rfl, by rw [hU], by rw [hU]; exact hPc, va_K.moved hW.alike hK, NN.warm hW hN, hDc.weaken (fun _ _ _ _ => trivial), (RO_app (w1 := [((na 0 0), .inr (5, [.int (ng 0 0), .ref (na 0 1), .ref (na 0 2), .ref (na 0 3), .int (ng 0 1), .int (ng 0 2), .int (ng 0 3), .int (ng 0 4), .int (ng 0 5), .int (ng 0 6), .int (ng 0 7), .int (ng 0 8)]))]) (w2 := [((na 0 1), .inl (cB, (nn 0 1), .inl (nf 0 1))), ((na 0 2), .inl (cB, 11, .inl (nf 0 2)))]) (RO_pass (RO_one hZr _ (pix (X := [(tr, .inr (10, [.ref ta, .int cn, .int dr])), (ta, .inl (cN, 40, .inr (.inr (.inr (.inr (rowF na cm))))))]) hj32)) hS hFc hU) (RO_app (w1 := [((na 0 1), .inl (cB, (nn 0 1), .inl (nf 0 1)))]) (w2 := [((na 0 2), .inl (cB, 11, .inl (nf 0 2)))]) (RO_pass (RO_one hZr _ (pix (X := [(tr, .inr (10, [.ref ta, .int cn, .int dr])), (ta, .inl (cN, 40, .inr (.inr (.inr (.inr (rowF na cm))))))]) hj33)) hS hFc hU) (RO_pass (RO_one hZr _ (pix (X := [(tr, .inr (10, [.ref ta, .int cn, .int dr])), (ta, .inl (cN, 40, .inr (.inr (.inr (.inr (rowF na cm))))))]) hj34)) hS hFc hU)))⟩⟩ rfl rfl hl.1 rfl (lv_room (Nat.le_of_ble_eq_true rfl)) d_Maker_writeDescriptor_194 ⟨hkc, hks⟩) hS (fun q _ h => hFc q h) hFc (fun u t H1 locs ht hvm hp_r36 hB hz1 hk1 hS => ?_)
      obtain ⟨il2_37, g_38⟩ := u
      obtain ⟨hP1, hD1⟩ := hB
      rw [ht] at hP1
      obtain ⟨hP, hD⟩ := va_join (wr := [(lb, .inl (cI, 40, .inl fb)), (le, .inl (cI, 40, .inl fe)), (ct, .inl (cI, 40, .inl cc)), (im, .inr (1, [.ref iq, .int L])), (iq, .inl (cB, n, .inl g_30))]) (w1 := [(m0, .inr (4, [.ref tr, .ref im, .ref fi, .ref se, .ref u0, .ref id, .ref ct, .int ra, .int ru, .int wg])), (l0, .inr (3, [.int ln, .int lds, .int ltb, .ref lo, .ref lp, .ref lt, .ref lb, .ref le, .int lc, .int ld])), (id, .inr (1, [.ref jq, .int il2_37])), (jq, .inl (cB, 60, .inl g_38))]) hP hD [6, 0, 4, 5] [1, 2, 3, 7, 8] rfl rfl (by decide +kernel) (by decide +kernel) hk1 hFc hP1 hD1
      clear hPc hDc hFc hP1 hD1 hk1 hz1 hkc hks
      generalize H1 = H at hP hS ⊢
      have hP : va_P D CL [(lb, .inl (cI, 40, .inl fb)), (le, .inl (cI, 40, .inl fe)), (ct, .inl (cI, 40, .inl cc)), (im, .inr (1, [.ref iq, .int L])), (iq, .inl (cB, n, .inl g_30)), (m0, .inr (4, [.ref tr, .ref im, .ref fi, .ref se, .ref u0, .ref id, .ref ct, .int ra, .int ru, .int wg])), (l0, .inr (3, [.int ln, .int lds, .int ltb, .ref lo, .ref lp, .ref lt, .ref lb, .ref le, .int lc, .int ld])), (id, .inr (1, [.ref jq, .int il2_37])), (jq, .inl (cB, 60, .inl g_38))] H := hP
      have hD : va_D A [(lb, .inl (cI, 40, .inl fb)), (le, .inl (cI, 40, .inl fe)), (ct, .inl (cI, 40, .inl cc)), (im, .inr (1, [.ref iq, .int L])), (iq, .inl (cB, n, .inl g_30)), (m0, .inr (4, [.ref tr, .ref im, .ref fi, .ref se, .ref u0, .ref id, .ref ct, .int ra, .int ru, .int wg])), (l0, .inr (3, [.int ln, .int lds, .int ltb, .ref lo, .ref lp, .ref lt, .ref lb, .ref le, .int lc, .int ld])), (id, .inr (1, [.ref jq, .int il2_37])), (jq, .inl (cB, 60, .inl g_38))] := hD
      try dsimp only at hp_r36
      have hil2_39 := hp_r36
      refine lv_aload_n hx hb d_Maker_writeDescriptor_197 rfl (lv_at hl 0 rfl) ?_
      refine lv_aload_n hx hb d_Maker_writeDescriptor_198 rfl (lv_at hl 1 rfl) ?_
      refine lv_aload_n hx hb d_Maker_writeDescriptor_199 rfl (lv_at hl 0 rfl) ?_
      refine va_get (D := D) (ci := 4) (v := .ref tr) (C := "DiscMaker$Maker") (T := F_Maker) (N := 10) hx hb ht9 in_Maker hown hK hP 5 rfl rfl 0 (by decide) (ht9 _ k347) (fun _ h9 => h9) rfl d_Maker_writeDescriptor_200 ?_
      have hPR := RO_at hZr hS
      refine va_getN (D := D) (ci := 10) (v := .ref ta) (C := "DiscMaker$Tree") (T := F_Tree) (N := 3) hx hb ht9 in_Tree hown hK hPR 0 rfl rfl 0 (by decide) (va_Nw.use rfl (hN _ k237)) (fun _ h9 => h9) rfl d_Maker_writeDescriptor_203 ?_
      refine lv_iconst (v := 0) hx hb d_Maker_writeDescriptor_206 (by decide) ?_
      have hPR := RO_at hZr hS
      refine va_aldq hx hb hK hPR 1 4 rfl rfl (by unfold vp_in; decide) d_Maker_writeDescriptor_207 ?_
      have hk40 : 0 < cm := by omega
      have o_hk40 := htok 0 hk40
      obtain ⟨i_hj41, hj41⟩ : ∃ j : Nat, (PL (NC cB na ng nn nf) cm)[j]? = some ((na 0 0), .inr (5, [.int (ng 0 0), .ref (na 0 1), .ref (na 0 2), .ref (na 0 3), .int (ng 0 1), .int (ng 0 2), .int (ng 0 3), .int (ng 0 4), .int (ng 0 5), .int (ng 0 6), .int (ng 0 7), .int (ng 0 8)])) := PL_get (i := 0) hk40 rfl
      obtain ⟨i_hj42, hj42⟩ : ∃ j : Nat, (PL (NC cB na ng nn nf) cm)[j]? = some ((na 0 1), .inl (cB, (nn 0 1), .inl (nf 0 1))) := PL_get (i := 1) hk40 rfl
      obtain ⟨i_hj43, hj43⟩ : ∃ j : Nat, (PL (NC cB na ng nn nf) cm)[j]? = some ((na 0 2), .inl (cB, 11, .inl (nf 0 2))) := PL_get (i := 2) hk40 rfl
      obtain ⟨i_hj44, hj44⟩ : ∃ j : Nat, (PL (NC cB na ng nn nf) cm)[j]? = some ((na 0 3), .inl (cB, (nn 0 3), .inl (nf 0 3))) := PL_get (i := 3) hk40 rfl
      refine W.eq (g2 := F0 m 208 ls [.ref (na 0 0), .ref l0, .ref m0]) (by rw [show rowF na cm (0 : Int32).toNatClampNeg = some (na 0 0) from rowF_some hk40]; rfl) ?_
      refine lv_iload_n hx hb d_Maker_writeDescriptor_208 rfl (lv_at hl 3 rfl) ?_
      refine lv_sipush (v := 156) hx hb d_Maker_writeDescriptor_209 (by decide) ?_
      refine lv_iadd hx hb d_Maker_writeDescriptor_212 ?_
      refine lv_topi (fun v45 e_v45 => ?_)
      refine lv_bipush (v := 34) hx hb d_Maker_writeDescriptor_213 (by decide) ?_
      have hPc := hP.sub (ws' := [(m0, .inr (4, [.ref tr, .ref im, .ref fi, .ref se, .ref u0, .ref id, .ref ct, .int ra, .int ru, .int wg])), (l0, .inr (3, [.int ln, .int lds, .int ltb, .ref lo, .ref lp, .ref lt, .ref lb, .ref le, .int lc, .int ld])), (lb, .inl (cI, 40, .inl fb)), (le, .inl (cI, 40, .inl fe)), (ct, .inl (cI, 40, .inl cc)), (id, .inr (1, [.ref jq, .int il2_37])), (jq, .inl (cB, 60, .inl g_38)), (im, .inr (1, [.ref iq, .int L])), (iq, .inl (cB, n, .inl g_30))]) [5, 6, 0, 1, 2, 7, 8, 3, 4] rfl
      have hDc := hD.sub (ws' := [(m0, .inr (4, [.ref tr, .ref im, .ref fi, .ref se, .ref u0, .ref id, .ref ct, .int ra, .int ru, .int wg])), (l0, .inr (3, [.int ln, .int lds, .int ltb, .ref lo, .ref lp, .ref lt, .ref lb, .ref le, .int lc, .int ld])), (lb, .inl (cI, 40, .inl fb)), (le, .inl (cI, 40, .inl fe)), (ct, .inl (cI, 40, .inl cc)), (id, .inr (1, [.ref jq, .int il2_37])), (jq, .inl (cB, 60, .inl g_38)), (im, .inr (1, [.ref iq, .int L])), (iq, .inl (cB, n, .inl g_30))]) [5, 6, 0, 1, 2, 7, 8, 3, 4] (by decide +kernel) rfl
      have hFc := va_free (wc := [(m0, .inr (4, [.ref tr, .ref im, .ref fi, .ref se, .ref u0, .ref id, .ref ct, .int ra, .int ru, .int wg])), (l0, .inr (3, [.int ln, .int lds, .int ltb, .ref lo, .ref lp, .ref lt, .ref lb, .ref le, .int lc, .int ld])), (lb, .inl (cI, 40, .inl fb)), (le, .inl (cI, 40, .inl fe)), (ct, .inl (cI, 40, .inl cc)), (id, .inr (1, [.ref jq, .int il2_37])), (jq, .inl (cB, 60, .inl g_38)), (im, .inr (1, [.ref iq, .int L])), (iq, .inl (cB, n, .inl g_30))]) hD hS hA [5, 6, 0, 1, 2, 7, 8, 3, 4] rfl
      have hkc : 0 ≤ 0 := by decide
      have hks : 0 ≤ 0 := by decide
      refine va_callv (va_runV (C := "DiscMaker$Maker") (As := [.ref l0, .ref (na 0 0), .int v45, .int 34]) (rest := []) ⟨hx, hb, hml, hown, hts⟩ (c3_writeRecord l D cB cI cJ cZ cN cF H.size m0 tr im fi se u0 id ct ra ru wg l0 lo lp lt lb le ln lds ltb lc ld fb fe cc jq il2_37 g_38 iq n L g_30 (na 0 0) (na 0 1) (na 0 2) (na 0 3) (ng 0 0) (ng 0 1) (ng 0 2) (ng 0 3) (ng 0 4) (ng 0 5) (ng 0 6) (ng 0 7) (ng 0 8) td ts tl gd gs gl v45 34 (by (try dsimp only); first | assumption | omega | trivial) (by (try dsimp only); first | assumption | omega | trivial) (by (try dsimp only); first | assumption | omega | trivial) (by (try dsimp only); first | assumption | omega | trivial)) (cwV 4 hts (lg_goodV k1052 k1054 k21 k120 kc_Maker_writeRecord) rfl rfl rfl (by decide +kernel) ⟨Nat.le_of_ble_eq_true rfl, Nat.le_of_ble_eq_true rfl⟩) ⟨fun a U g mk q => by obtain ⟨q0, q1, qP, qK, qN, qD, qZ0, qZ1⟩ := q; exact ⟨q0, q1, qP, va_K.moved (u := U) (U := U.calling g mk a) (Vm.Alike.refl U.vm) qK, qN.calling, qD, SZ_blind qZ0, RO_blind qZ1⟩, va_recv hK hP (ci := 4) (q0 := 5) rfl rfl, fun U hU hW => ⟨rfl, by rw [hU], by rw [hU]; exact hPc, va_K.moved hW.alike hK, NN.warm hW hN, hDc.weaken (fun _ _ _ _ => trivial), SZ_pass hZs hS hFc hW.alike hU, (RO_pass (RO_one hZr _ (pix (X := [(tr, .inr (10, [.ref ta, .int cn, .int dr])), (ta, .inl (cN, 40, .inr (.inr (.inr (.inr (rowF na cm))))))]) hj41)) hS hFc hU)⟩⟩ rfl rfl hl.1 rfl (lv_room (Nat.le_of_ble_eq_true rfl)) d_Maker_writeDescriptor_215 ⟨hkc, hks⟩) hS (fun q _ h => hFc q h) hFc (fun u t H1 locs ht hvm hp_r46 hB hz1 hk1 hS => ?_)
      obtain ⟨g_47, rfl⟩ : ∃ z, z = u := ⟨_, rfl⟩
      obtain ⟨hP1, hD1⟩ := hB
      rw [ht] at hP1
      obtain ⟨hP, hD⟩ := va_join (wr := []) (w1 := [(m0, .inr (4, [.ref tr, .ref im, .ref fi, .ref se, .ref u0, .ref id, .ref ct, .int ra, .int ru, .int wg])), (l0, .inr (3, [.int ln, .int lds, .int ltb, .ref lo, .ref lp, .ref lt, .ref lb, .ref le, .int lc, .int ld])), (lb, .inl (cI, 40, .inl fb)), (le, .inl (cI, 40, .inl fe)), (ct, .inl (cI, 40, .inl cc)), (id, .inr (1, [.ref jq, .int il2_37])), (jq, .inl (cB, 60, .inl g_38)), (im, .inr (1, [.ref iq, .int L])), (iq, .inl (cB, n, .inl g_47))]) hP hD [5, 6, 0, 1, 2, 7, 8, 3, 4] [] rfl rfl (by decide +kernel) (by decide +kernel) hk1 hFc hP1 hD1
      clear hPc hDc hFc hP1 hD1 hk1 hz1 hkc hks
      generalize H1 = H at hP hS ⊢
      have hP : va_P D CL [(m0, .inr (4, [.ref tr, .ref im, .ref fi, .ref se, .ref u0, .ref id, .ref ct, .int ra, .int ru, .int wg])), (l0, .inr (3, [.int ln, .int lds, .int ltb, .ref lo, .ref lp, .ref lt, .ref lb, .ref le, .int lc, .int ld])), (lb, .inl (cI, 40, .inl fb)), (le, .inl (cI, 40, .inl fe)), (ct, .inl (cI, 40, .inl cc)), (id, .inr (1, [.ref jq, .int il2_37])), (jq, .inl (cB, 60, .inl g_38)), (im, .inr (1, [.ref iq, .int L])), (iq, .inl (cB, n, .inl g_47))] H := hP
      have hD : va_D A [(m0, .inr (4, [.ref tr, .ref im, .ref fi, .ref se, .ref u0, .ref id, .ref ct, .int ra, .int ru, .int wg])), (l0, .inr (3, [.int ln, .int lds, .int ltb, .ref lo, .ref lp, .ref lt, .ref lb, .ref le, .int lc, .int ld])), (lb, .inl (cI, 40, .inl fb)), (le, .inl (cI, 40, .inl fe)), (ct, .inl (cI, 40, .inl cc)), (id, .inr (1, [.ref jq, .int il2_37])), (jq, .inl (cB, 60, .inl g_38)), (im, .inr (1, [.ref iq, .int L])), (iq, .inl (cB, n, .inl g_47))] := hD
      refine lv_aload_n hx hb d_Maker_writeDescriptor_218 rfl (lv_at hl 0 rfl) ?_
      refine va_get (D := D) (ci := 4) (v := .ref im) (C := "DiscMaker$Maker") (T := F_Maker) (N := 10) hx hb ht9 in_Maker hown hK hP 0 rfl rfl 1 (by decide) (ht9 _ k348) (fun _ h9 => h9) rfl d_Maker_writeDescriptor_219 ?_
      refine lv_iload_n hx hb d_Maker_writeDescriptor_222 rfl (lv_at hl 3 rfl) ?_
      refine lv_sipush (v := 190) hx hb d_Maker_writeDescriptor_223 (by decide) ?_
      refine lv_iadd hx hb d_Maker_writeDescriptor_226 ?_
      refine lv_topi (fun v48 e_v48 => ?_)
      refine lv_iload_n hx hb d_Maker_writeDescriptor_227 rfl (lv_at hl 3 rfl) ?_
      refine lv_sipush (v := 813) hx hb d_Maker_writeDescriptor_228 (by decide) ?_
      refine lv_iadd hx hb d_Maker_writeDescriptor_231 ?_
      refine lv_topi (fun v49 e_v49 => ?_)
      refine lv_bipush (v := 32) hx hb d_Maker_writeDescriptor_232 (by decide) ?_
      have hPc := hP.sub (ws' := [(im, .inr (1, [.ref iq, .int L])), (iq, .inl (cB, n, .inl g_47))]) [7, 8] rfl
      have hDc := hD.sub (ws' := [(im, .inr (1, [.ref iq, .int L])), (iq, .inl (cB, n, .inl g_47))]) [7, 8] (by decide +kernel) rfl
      have hFc := va_free (wc := [(im, .inr (1, [.ref iq, .int L])), (iq, .inl (cB, n, .inl g_47))]) hD hS hA [7, 8] rfl
      have hkc : 0 ≤ 0 := by decide
      have hks : 0 ≤ 0 := by decide
      refine va_callv (va_runV (C := "DiscMaker$Bytes") (As := [.int v48, .int v49, .int 32]) (rest := []) ⟨hx, hb, hml, hown, hts⟩ (c3_fill l D cB cI cJ cZ cN cF H.size im iq n L g_47 v48 v49 32 (by (try dsimp only); first | assumption | omega | trivial) (by (try dsimp only); first | assumption | omega | trivial)) (cwV 3 hts (lg_goodV k1109 k1110 k1111 k119 kc_Bytes_fill) rfl rfl rfl (by decide +kernel) ⟨Nat.le_of_ble_eq_true rfl, Nat.le_of_ble_eq_true rfl⟩) ⟨fun a U g mk q => by obtain ⟨q0, q1, qP, qK, qN, qD⟩ := q; exact ⟨q0, q1, qP, va_K.moved (u := U) (U := U.calling g mk a) (Vm.Alike.refl U.vm) qK, qN.calling, qD⟩, va_recv hK hP (ci := 1) (q0 := 7) rfl rfl, fun U hU hW => ⟨rfl, by rw [hU], by rw [hU]; exact hPc, va_K.moved hW.alike hK, NN.warm hW hN, hDc.weaken (fun _ _ _ _ => trivial)⟩⟩ rfl rfl hl.1 rfl (lv_room (Nat.le_of_ble_eq_true rfl)) d_Maker_writeDescriptor_234 ⟨hkc, hks⟩) hS (fun q _ h => hFc q h) hFc (fun u t H1 locs ht hvm hp_r50 hB hz1 hk1 hS => ?_)
      obtain ⟨g_51, rfl⟩ : ∃ z, z = u := ⟨_, rfl⟩
      obtain ⟨hP1, hD1⟩ := hB
      rw [ht] at hP1
      obtain ⟨hP, hD⟩ := va_join (wr := [(m0, .inr (4, [.ref tr, .ref im, .ref fi, .ref se, .ref u0, .ref id, .ref ct, .int ra, .int ru, .int wg])), (l0, .inr (3, [.int ln, .int lds, .int ltb, .ref lo, .ref lp, .ref lt, .ref lb, .ref le, .int lc, .int ld])), (lb, .inl (cI, 40, .inl fb)), (le, .inl (cI, 40, .inl fe)), (ct, .inl (cI, 40, .inl cc)), (id, .inr (1, [.ref jq, .int il2_37])), (jq, .inl (cB, 60, .inl g_38))]) (w1 := [(im, .inr (1, [.ref iq, .int L])), (iq, .inl (cB, n, .inl g_51))]) hP hD [7, 8] [0, 1, 2, 3, 4, 5, 6] rfl rfl (by decide +kernel) (by decide +kernel) hk1 hFc hP1 hD1
      clear hPc hDc hFc hP1 hD1 hk1 hz1 hkc hks
      generalize H1 = H at hP hS ⊢
      have hP : va_P D CL [(m0, .inr (4, [.ref tr, .ref im, .ref fi, .ref se, .ref u0, .ref id, .ref ct, .int ra, .int ru, .int wg])), (l0, .inr (3, [.int ln, .int lds, .int ltb, .ref lo, .ref lp, .ref lt, .ref lb, .ref le, .int lc, .int ld])), (lb, .inl (cI, 40, .inl fb)), (le, .inl (cI, 40, .inl fe)), (ct, .inl (cI, 40, .inl cc)), (id, .inr (1, [.ref jq, .int il2_37])), (jq, .inl (cB, 60, .inl g_38)), (im, .inr (1, [.ref iq, .int L])), (iq, .inl (cB, n, .inl g_51))] H := hP
      have hD : va_D A [(m0, .inr (4, [.ref tr, .ref im, .ref fi, .ref se, .ref u0, .ref id, .ref ct, .int ra, .int ru, .int wg])), (l0, .inr (3, [.int ln, .int lds, .int ltb, .ref lo, .ref lp, .ref lt, .ref lb, .ref le, .int lc, .int ld])), (lb, .inl (cI, 40, .inl fb)), (le, .inl (cI, 40, .inl fe)), (ct, .inl (cI, 40, .inl cc)), (id, .inr (1, [.ref jq, .int il2_37])), (jq, .inl (cB, 60, .inl g_38)), (im, .inr (1, [.ref iq, .int L])), (iq, .inl (cB, n, .inl g_51))] := hD
      refine lv_iconst (v := 0) hx hb d_Maker_writeDescriptor_237 (by decide) ?_
      refine lv_istore hx hb d_Maker_writeDescriptor_238 hl (by decide) rfl (fun ls hl => ?_)
      have hl : lv_has ls 5 [(4, .int 0), (0, .ref m0), (1, .ref l0), (2, .int x), (3, .int v1)] := hl
      refine zz_labM (B := fun (lk : Nat) (K : Heap → List Loc → Array Slot → List Value → Prop) => ∀ (kx : Int32) (lf : Nat → Int32) (H : Heap) (locs : List Loc) (ls : Array Slot), lk = (4 - kx.toInt).toNat → (0 ≤ kx.toInt ∧ kx.toInt ≤ 4) → va_P D CL [(m0, .inr (4, [.ref tr, .ref im, .ref fi, .ref se, .ref u0, .ref id, .ref ct, .int ra, .int ru, .int wg])), (l0, .inr (3, [.int ln, .int lds, .int ltb, .ref lo, .ref lp, .ref lt, .ref lb, .ref le, .int lc, .int ld])), (lb, .inl (cI, 40, .inl fb)), (le, .inl (cI, 40, .inl fe)), (ct, .inl (cI, 40, .inl cc)), (id, .inr (1, [.ref jq, .int il2_37])), (jq, .inl (cB, 60, .inl g_38)), (im, .inr (1, [.ref iq, .int L])), (iq, .inl (cB, n, .inl lf))] H → va_D A [(m0, .inr (4, [.ref tr, .ref im, .ref fi, .ref se, .ref u0, .ref id, .ref ct, .int ra, .int ru, .int wg])), (l0, .inr (3, [.int ln, .int lds, .int ltb, .ref lo, .ref lp, .ref lt, .ref lb, .ref le, .int lc, .int ld])), (lb, .inl (cI, 40, .inl fb)), (le, .inl (cI, 40, .inl fe)), (ct, .inl (cI, 40, .inl cc)), (id, .inr (1, [.ref jq, .int il2_37])), (jq, .inl (cB, 60, .inl g_38)), (im, .inr (1, [.ref iq, .int L])), (iq, .inl (cB, n, .inl lf))] → va_S A s.heap H locs → lv_has ls 5 [(0, .ref m0), (1, .ref l0), (2, .int x), (3, .int v1), (4, .int kx)] → K H locs ls []) 240 ?_ ?_
      · skip
        intro lk ih240 kx lf H locs ls hm240 e1 hP hD hS hl
        refine lv_iload hx hb d_Maker_writeDescriptor_240 (lv_at hl 4 rfl) ?_
        refine lv_iconst (v := 4) hx hb d_Maker_writeDescriptor_242 (by decide) ?_
        refine lv_icmp_ge (tgt := 283) hx hb d_Maker_writeDescriptor_243 (by decide) (fun h_9 => ?_) (fun h_9 => ?_)
        · skip
          have g243_120 : 4 ≤ kx.toInt := (i_le (by decide) rfl).mp h_9
          refine lv_aload_n hx hb d_Maker_writeDescriptor_283 rfl (lv_at hl 0 rfl) ?_
          refine va_get (D := D) (ci := 4) (v := .ref im) (C := "DiscMaker$Maker") (T := F_Maker) (N := 10) hx hb ht9 in_Maker hown hK hP 0 rfl rfl 1 (by decide) (ht9 _ k348) (fun _ h9 => h9) rfl d_Maker_writeDescriptor_284 ?_
          refine lv_iload_n hx hb d_Maker_writeDescriptor_287 rfl (lv_at hl 3 rfl) ?_
          refine lv_sipush (v := 881) hx hb d_Maker_writeDescriptor_288 (by decide) ?_
          refine lv_iadd hx hb d_Maker_writeDescriptor_291 ?_
          refine lv_topi (fun v52 e_v52 => ?_)
          refine lv_iconst (v := 1) hx hb d_Maker_writeDescriptor_292 (by decide) ?_
          have hPc := hP.sub (ws' := [(im, .inr (1, [.ref iq, .int L])), (iq, .inl (cB, n, .inl lf))]) [7, 8] rfl
          have hDc := hD.sub (ws' := [(im, .inr (1, [.ref iq, .int L])), (iq, .inl (cB, n, .inl lf))]) [7, 8] (by decide +kernel) rfl
          have hFc := va_free (wc := [(im, .inr (1, [.ref iq, .int L])), (iq, .inl (cB, n, .inl lf))]) hD hS hA [7, 8] rfl
          have hkc : 0 ≤ 0 := by decide
          have hks : 0 ≤ 0 := by decide
          refine va_callv (va_runV (C := "DiscMaker$Bytes") (As := [.int v52, .int 1]) (rest := []) ⟨hx, hb, hml, hown, hts⟩ (c3_put l D cB cI cJ cZ cN cF H.size im iq n L lf v52 1 (by (try dsimp only); first | assumption | omega | trivial) (by (try dsimp only); first | assumption | omega | trivial)) (cwV 2 hts (lg_goodV k978 k912 k913 k119 kc_Bytes_put) rfl rfl rfl (by decide +kernel) ⟨Nat.le_of_ble_eq_true rfl, Nat.le_of_ble_eq_true rfl⟩) ⟨fun a U g mk q => by obtain ⟨q0, q1, qP, qK, qN, qD⟩ := q; exact ⟨q0, q1, qP, va_K.moved (u := U) (U := U.calling g mk a) (Vm.Alike.refl U.vm) qK, qN.calling, qD⟩, va_recv hK hP (ci := 1) (q0 := 7) rfl rfl, fun U hU hW => ⟨rfl, by rw [hU], by rw [hU]; exact hPc, va_K.moved hW.alike hK, NN.warm hW hN, hDc.weaken (fun _ _ _ _ => trivial)⟩⟩ rfl rfl hl.1 rfl (lv_room (Nat.le_of_ble_eq_true rfl)) d_Maker_writeDescriptor_293 ⟨hkc, hks⟩) hS (fun q _ h => hFc q h) hFc (fun u t H1 locs ht hvm hp_r53 hB hz1 hk1 hS => ?_)
          obtain ⟨g_54, rfl⟩ : ∃ z, z = u := ⟨_, rfl⟩
          obtain ⟨hP1, hD1⟩ := hB
          rw [ht] at hP1
          obtain ⟨hP, hD⟩ := va_join (wr := [(m0, .inr (4, [.ref tr, .ref im, .ref fi, .ref se, .ref u0, .ref id, .ref ct, .int ra, .int ru, .int wg])), (l0, .inr (3, [.int ln, .int lds, .int ltb, .ref lo, .ref lp, .ref lt, .ref lb, .ref le, .int lc, .int ld])), (lb, .inl (cI, 40, .inl fb)), (le, .inl (cI, 40, .inl fe)), (ct, .inl (cI, 40, .inl cc)), (id, .inr (1, [.ref jq, .int il2_37])), (jq, .inl (cB, 60, .inl g_38))]) (w1 := [(im, .inr (1, [.ref iq, .int L])), (iq, .inl (cB, n, .inl g_54))]) hP hD [7, 8] [0, 1, 2, 3, 4, 5, 6] rfl rfl (by decide +kernel) (by decide +kernel) hk1 hFc hP1 hD1
          clear hPc hDc hFc hP1 hD1 hk1 hz1 hkc hks
          generalize H1 = H at hP hS ⊢
          have hP : va_P D CL [(m0, .inr (4, [.ref tr, .ref im, .ref fi, .ref se, .ref u0, .ref id, .ref ct, .int ra, .int ru, .int wg])), (l0, .inr (3, [.int ln, .int lds, .int ltb, .ref lo, .ref lp, .ref lt, .ref lb, .ref le, .int lc, .int ld])), (lb, .inl (cI, 40, .inl fb)), (le, .inl (cI, 40, .inl fe)), (ct, .inl (cI, 40, .inl cc)), (id, .inr (1, [.ref jq, .int il2_37])), (jq, .inl (cB, 60, .inl g_38)), (im, .inr (1, [.ref iq, .int L])), (iq, .inl (cB, n, .inl g_54))] H := hP
          have hD : va_D A [(m0, .inr (4, [.ref tr, .ref im, .ref fi, .ref se, .ref u0, .ref id, .ref ct, .int ra, .int ru, .int wg])), (l0, .inr (3, [.int ln, .int lds, .int ltb, .ref lo, .ref lp, .ref lt, .ref lb, .ref le, .int lc, .int ld])), (lb, .inl (cI, 40, .inl fb)), (le, .inl (cI, 40, .inl fe)), (ct, .inl (cI, 40, .inl cc)), (id, .inr (1, [.ref jq, .int il2_37])), (jq, .inl (cB, 60, .inl g_38)), (im, .inr (1, [.ref iq, .int L])), (iq, .inl (cB, n, .inl g_54))] := hD
          have hP9 := hP.sub (ws' := [(m0, .inr (4, [.ref tr, .ref im, .ref fi, .ref se, .ref u0, .ref id, .ref ct, .int ra, .int ru, .int wg])), (l0, .inr (3, [.int ln, .int lds, .int ltb, .ref lo, .ref lp, .ref lt, .ref lb, .ref le, .int lc, .int ld])), (lb, .inl (cI, 40, .inl fb)), (le, .inl (cI, 40, .inl fe)), (ct, .inl (cI, 40, .inl cc)), (id, .inr (1, [.ref jq, .int il2_37])), (jq, .inl (cB, 60, .inl g_38)), (im, .inr (1, [.ref iq, .int L])), (iq, .inl (cB, n, .inl g_54))]) [0, 1, 2, 3, 4, 5, 6, 7, 8] rfl
          have hD9 := hD.sub (ws' := [(m0, .inr (4, [.ref tr, .ref im, .ref fi, .ref se, .ref u0, .ref id, .ref ct, .int ra, .int ru, .int wg])), (l0, .inr (3, [.int ln, .int lds, .int ltb, .ref lo, .ref lp, .ref lt, .ref lb, .ref le, .int lc, .int ld])), (lb, .inl (cI, 40, .inl fb)), (le, .inl (cI, 40, .inl fe)), (ct, .inl (cI, 40, .inl cc)), (id, .inr (1, [.ref jq, .int il2_37])), (jq, .inl (cB, 60, .inl g_38)), (im, .inr (1, [.ref iq, .int L])), (iq, .inl (cB, n, .inl g_54))]) [0, 1, 2, 3, 4, 5, 6, 7, 8] (by decide +kernel) rfl
          exact W.vret hx hb hr (fun t ht hW => ⟨⟨(il2_37, g_38, g_54), rfl, trivial, by rw [ht]; exact hP9, hD9⟩, hS.F ht⟩) hS.2.2 d_Maker_writeDescriptor_296
        · skip
          have g243_120 : ¬ 4 ≤ kx.toInt := fun h8 => h_9 ((i_le (by decide) rfl).mpr h8)
          refine lv_aload_n hx hb d_Maker_writeDescriptor_246 rfl (lv_at hl 0 rfl) ?_
          refine va_get (D := D) (ci := 4) (v := .ref im) (C := "DiscMaker$Maker") (T := F_Maker) (N := 10) hx hb ht9 in_Maker hown hK hP 0 rfl rfl 1 (by decide) (ht9 _ k348) (fun _ h9 => h9) rfl d_Maker_writeDescriptor_247 ?_
          refine lv_iload_n hx hb d_Maker_writeDescriptor_250 rfl (lv_at hl 3 rfl) ?_
          refine lv_sipush (v := 813) hx hb d_Maker_writeDescriptor_251 (by decide) ?_
          refine lv_iadd hx hb d_Maker_writeDescriptor_254 ?_
          refine lv_topi (fun v55 e_v55 => ?_)
          refine lv_bipush (v := 17) hx hb d_Maker_writeDescriptor_255 (by decide) ?_
          refine lv_iload hx hb d_Maker_writeDescriptor_257 (lv_at hl 4 rfl) ?_
          refine lv_imul hx hb d_Maker_writeDescriptor_259 ?_
          refine lv_topi (fun v56 e_v56 => ?_)
          have t_v56 : v56.toInt = 17 * kx.toInt := by rw [e_v56]; exact i_mul (by decide) rfl (by omega) (by omega)
          refine lv_iadd hx hb d_Maker_writeDescriptor_260 ?_
          refine lv_topi (fun v57 e_v57 => ?_)
          refine lv_iload_n hx hb d_Maker_writeDescriptor_261 rfl (lv_at hl 3 rfl) ?_
          refine lv_sipush (v := 829) hx hb d_Maker_writeDescriptor_262 (by decide) ?_
          refine lv_iadd hx hb d_Maker_writeDescriptor_265 ?_
          refine lv_topi (fun v58 e_v58 => ?_)
          refine lv_bipush (v := 17) hx hb d_Maker_writeDescriptor_266 (by decide) ?_
          refine lv_iload hx hb d_Maker_writeDescriptor_268 (lv_at hl 4 rfl) ?_
          refine lv_imul hx hb d_Maker_writeDescriptor_270 ?_
          refine lv_topi (fun v59 e_v59 => ?_)
          have t_v59 : v59.toInt = 17 * kx.toInt := by rw [e_v59]; exact i_mul (by decide) rfl (by omega) (by omega)
          refine lv_iadd hx hb d_Maker_writeDescriptor_271 ?_
          refine lv_topi (fun v60 e_v60 => ?_)
          refine lv_bipush (v := 48) hx hb d_Maker_writeDescriptor_272 (by decide) ?_
          have hPc := hP.sub (ws' := [(im, .inr (1, [.ref iq, .int L])), (iq, .inl (cB, n, .inl lf))]) [7, 8] rfl
          have hDc := hD.sub (ws' := [(im, .inr (1, [.ref iq, .int L])), (iq, .inl (cB, n, .inl lf))]) [7, 8] (by decide +kernel) rfl
          have hFc := va_free (wc := [(im, .inr (1, [.ref iq, .int L])), (iq, .inl (cB, n, .inl lf))]) hD hS hA [7, 8] rfl
          have hkc : 0 ≤ 0 := by decide
          have hks : 0 ≤ 0 := by decide
          refine va_callv (va_runV (C := "DiscMaker$Bytes") (As := [.int v57, .int v60, .int 48]) (rest := []) ⟨hx, hb, hml, hown, hts⟩ (c3_fill l D cB cI cJ cZ cN cF H.size im iq n L lf v57 v60 48 (by (try dsimp only); first | assumption | omega | trivial) (by (try dsimp only); first | assumption | omega | trivial)) (cwV 3 hts (lg_goodV k1109 k1110 k1111 k119 kc_Bytes_fill) rfl rfl rfl (by decide +kernel) ⟨Nat.le_of_ble_eq_true rfl, Nat.le_of_ble_eq_true rfl⟩) ⟨fun a U g mk q => by obtain ⟨q0, q1, qP, qK, qN, qD⟩ := q; exact ⟨q0, q1, qP, va_K.moved (u := U) (U := U.calling g mk a) (Vm.Alike.refl U.vm) qK, qN.calling, qD⟩, va_recv hK hP (ci := 1) (q0 := 7) rfl rfl, fun U hU hW => ⟨rfl, by rw [hU], by rw [hU]; exact hPc, va_K.moved hW.alike hK, NN.warm hW hN, hDc.weaken (fun _ _ _ _ => trivial)⟩⟩ rfl rfl hl.1 rfl (lv_room (Nat.le_of_ble_eq_true rfl)) d_Maker_writeDescriptor_274 ⟨hkc, hks⟩) hS (fun q _ h => hFc q h) hFc (fun u t H1 locs ht hvm hp_r61 hB hz1 hk1 hS => ?_)
          obtain ⟨g_62, rfl⟩ : ∃ z, z = u := ⟨_, rfl⟩
          obtain ⟨hP1, hD1⟩ := hB
          rw [ht] at hP1
          obtain ⟨hP, hD⟩ := va_join (wr := [(m0, .inr (4, [.ref tr, .ref im, .ref fi, .ref se, .ref u0, .ref id, .ref ct, .int ra, .int ru, .int wg])), (l0, .inr (3, [.int ln, .int lds, .int ltb, .ref lo, .ref lp, .ref lt, .ref lb, .ref le, .int lc, .int ld])), (lb, .inl (cI, 40, .inl fb)), (le, .inl (cI, 40, .inl fe)), (ct, .inl (cI, 40, .inl cc)), (id, .inr (1, [.ref jq, .int il2_37])), (jq, .inl (cB, 60, .inl g_38))]) (w1 := [(im, .inr (1, [.ref iq, .int L])), (iq, .inl (cB, n, .inl g_62))]) hP hD [7, 8] [0, 1, 2, 3, 4, 5, 6] rfl rfl (by decide +kernel) (by decide +kernel) hk1 hFc hP1 hD1
          clear hPc hDc hFc hP1 hD1 hk1 hz1 hkc hks
          generalize H1 = H at hP hS ⊢
          have hP : va_P D CL [(m0, .inr (4, [.ref tr, .ref im, .ref fi, .ref se, .ref u0, .ref id, .ref ct, .int ra, .int ru, .int wg])), (l0, .inr (3, [.int ln, .int lds, .int ltb, .ref lo, .ref lp, .ref lt, .ref lb, .ref le, .int lc, .int ld])), (lb, .inl (cI, 40, .inl fb)), (le, .inl (cI, 40, .inl fe)), (ct, .inl (cI, 40, .inl cc)), (id, .inr (1, [.ref jq, .int il2_37])), (jq, .inl (cB, 60, .inl g_38)), (im, .inr (1, [.ref iq, .int L])), (iq, .inl (cB, n, .inl g_62))] H := hP
          have hD : va_D A [(m0, .inr (4, [.ref tr, .ref im, .ref fi, .ref se, .ref u0, .ref id, .ref ct, .int ra, .int ru, .int wg])), (l0, .inr (3, [.int ln, .int lds, .int ltb, .ref lo, .ref lp, .ref lt, .ref lb, .ref le, .int lc, .int ld])), (lb, .inl (cI, 40, .inl fb)), (le, .inl (cI, 40, .inl fe)), (ct, .inl (cI, 40, .inl cc)), (id, .inr (1, [.ref jq, .int il2_37])), (jq, .inl (cB, 60, .inl g_38)), (im, .inr (1, [.ref iq, .int L])), (iq, .inl (cB, n, .inl g_62))] := hD
          obtain ⟨v63, e_v63⟩ : ∃ z : Int32, z = kx + 1 := ⟨_, rfl⟩
          refine lv_iinc (v := v63) hx hb d_Maker_writeDescriptor_277 hl (k := 4) rfl e_v63.symm (by decide +kernel) rfl (fun ls hl => ?_)
          have t_v63 : v63.toInt = kx.toInt + 1 := by rw [e_v63]; exact i_add rfl (by decide) (by omega) (by omega)
          have hl : lv_has ls 5 [(4, .int v63), (0, .ref m0), (1, .ref l0), (2, .int x), (3, .int v1)] := hl
          refine lv_goto (tgt := 240) hx hb d_Maker_writeDescriptor_280 (by decide) ?_
          have hP := hP.sub (ws' := [(m0, .inr (4, [.ref tr, .ref im, .ref fi, .ref se, .ref u0, .ref id, .ref ct, .int ra, .int ru, .int wg])), (l0, .inr (3, [.int ln, .int lds, .int ltb, .ref lo, .ref lp, .ref lt, .ref lb, .ref le, .int lc, .int ld])), (lb, .inl (cI, 40, .inl fb)), (le, .inl (cI, 40, .inl fe)), (ct, .inl (cI, 40, .inl cc)), (id, .inr (1, [.ref jq, .int il2_37])), (jq, .inl (cB, 60, .inl g_38)), (im, .inr (1, [.ref iq, .int L])), (iq, .inl (cB, n, .inl g_62))]) [0, 1, 2, 3, 4, 5, 6, 7, 8] rfl
          have hD := hD.sub (ws' := [(m0, .inr (4, [.ref tr, .ref im, .ref fi, .ref se, .ref u0, .ref id, .ref ct, .int ra, .int ru, .int wg])), (l0, .inr (3, [.int ln, .int lds, .int ltb, .ref lo, .ref lp, .ref lt, .ref lb, .ref le, .int lc, .int ld])), (lb, .inl (cI, 40, .inl fb)), (le, .inl (cI, 40, .inl fe)), (ct, .inl (cI, 40, .inl cc)), (id, .inr (1, [.ref jq, .int il2_37])), (jq, .inl (cB, 60, .inl g_38)), (im, .inr (1, [.ref iq, .int L])), (iq, .inl (cB, n, .inl g_62))]) [0, 1, 2, 3, 4, 5, 6, 7, 8] (by decide +kernel) rfl
          have hl := lv_sub hl [1, 2, 3, 4, 0] rfl
          exact ih240 _ (by first | omega | (dsimp only; omega)) v63 g_62 _ _ _ rfl ((by (try dsimp only); first | assumption | omega | trivial)) hP hD hS hl
      · skip
        intro kk240
        have hP := hP.sub (ws' := [(m0, .inr (4, [.ref tr, .ref im, .ref fi, .ref se, .ref u0, .ref id, .ref ct, .int ra, .int ru, .int wg])), (l0, .inr (3, [.int ln, .int lds, .int ltb, .ref lo, .ref lp, .ref lt, .ref lb, .ref le, .int lc, .int ld])), (lb, .inl (cI, 40, .inl fb)), (le, .inl (cI, 40, .inl fe)), (ct, .inl (cI, 40, .inl cc)), (id, .inr (1, [.ref jq, .int il2_37])), (jq, .inl (cB, 60, .inl g_38)), (im, .inr (1, [.ref iq, .int L])), (iq, .inl (cB, n, .inl g_51))]) [0, 1, 2, 3, 4, 5, 6, 7, 8] rfl
        have hD := hD.sub (ws' := [(m0, .inr (4, [.ref tr, .ref im, .ref fi, .ref se, .ref u0, .ref id, .ref ct, .int ra, .int ru, .int wg])), (l0, .inr (3, [.int ln, .int lds, .int ltb, .ref lo, .ref lp, .ref lt, .ref lb, .ref le, .int lc, .int ld])), (lb, .inl (cI, 40, .inl fb)), (le, .inl (cI, 40, .inl fe)), (ct, .inl (cI, 40, .inl cc)), (id, .inr (1, [.ref jq, .int il2_37])), (jq, .inl (cB, 60, .inl g_38)), (im, .inr (1, [.ref iq, .int L])), (iq, .inl (cB, n, .inl g_51))]) [0, 1, 2, 3, 4, 5, 6, 7, 8] (by decide +kernel) rfl
        have hl := lv_sub hl [1, 2, 3, 4, 0] rfl
        exact kk240 _ 0 g_51 _ _ _ rfl ((by (try dsimp only); first | assumption | omega | trivial)) hP hD hS hl
    · skip
      intro kk90
      refine lv_aload_n hx hb d_Maker_writeDescriptor_69 rfl (lv_at hl 1 rfl) ?_
      refine va_getN (D := D) (ci := 3) (v := .int ln) (C := "DiscMaker$Layout") (T := F_Layout) (N := 10) hx hb ht9 in_Layout hown hK hP 0 rfl rfl 0 (by decide) (va_Nw.use rfl (hN _ k281)) (fun _ h9 => h9) rfl d_Maker_writeDescriptor_70 ?_
      refine lv_if_eq (tgt := 90) hx hb d_Maker_writeDescriptor_73 (by decide) (fun h_9 => ?_) (fun h_9 => ?_)
      · skip
        have g73_152 : ln.toInt = 0 := (i_eq rfl (by decide)).mp h_9
        have hP := hP.sub (ws' := [(l0, .inr (3, [.int ln, .int lds, .int ltb, .ref lo, .ref lp, .ref lt, .ref lb, .ref le, .int lc, .int ld])), (lb, .inl (cI, 40, .inl fb)), (le, .inl (cI, 40, .inl fe)), (ct, .inl (cI, 40, .inl cc)), (id, .inr (1, [.ref jq, .int il])), (jq, .inl (cB, 60, .inl jf)), (m0, .inr (4, [.ref tr, .ref im, .ref fi, .ref se, .ref u0, .ref id, .ref ct, .int ra, .int ru, .int wg])), (im, .inr (1, [.ref iq, .int L])), (iq, .inl (cB, n, .inl g_11))]) [0, 1, 2, 3, 4, 5, 6, 7, 8] rfl
        have hD := hD.sub (ws' := [(l0, .inr (3, [.int ln, .int lds, .int ltb, .ref lo, .ref lp, .ref lt, .ref lb, .ref le, .int lc, .int ld])), (lb, .inl (cI, 40, .inl fb)), (le, .inl (cI, 40, .inl fe)), (ct, .inl (cI, 40, .inl cc)), (id, .inr (1, [.ref jq, .int il])), (jq, .inl (cB, 60, .inl jf)), (m0, .inr (4, [.ref tr, .ref im, .ref fi, .ref se, .ref u0, .ref id, .ref ct, .int ra, .int ru, .int wg])), (im, .inr (1, [.ref iq, .int L])), (iq, .inl (cB, n, .inl g_11))]) [0, 1, 2, 3, 4, 5, 6, 7, 8] (by decide +kernel) rfl
        have hl := lv_sub hl [0, 1, 2, 3] rfl
        exact kk90 _ g_11 _ _ _ rfl  hP hD hS hl
      · skip
        have g73_152 : ¬ ln.toInt = 0 := fun h8 => h_9 ((i_eq rfl (by decide)).mpr h8)
        refine lv_aload_n hx hb d_Maker_writeDescriptor_76 rfl (lv_at hl 0 rfl) ?_
        refine va_get (D := D) (ci := 4) (v := .ref im) (C := "DiscMaker$Maker") (T := F_Maker) (N := 10) hx hb ht9 in_Maker hown hK hP 6 rfl rfl 1 (by decide) (ht9 _ k348) (fun _ h9 => h9) rfl d_Maker_writeDescriptor_77 ?_
        refine lv_iload_n hx hb d_Maker_writeDescriptor_80 rfl (lv_at hl 3 rfl) ?_
        refine lv_bipush (v := 88) hx hb d_Maker_writeDescriptor_81 (by decide) ?_
        refine lv_iadd hx hb d_Maker_writeDescriptor_83 ?_
        refine lv_topi (fun v64 e_v64 => ?_)
        refine va_getsN (C := "DiscMaker") (n := "LONG_NAMES") (d := "[B") (v := .ref tl) hx hb (hZs.2.2.1) hS hown (va_Nw.use rfl (hN _ k1113)) (fun _ h9 => h9) d_Maker_writeDescriptor_84 ?_
        have hPc := hP.sub (ws' := [(im, .inr (1, [.ref iq, .int L])), (iq, .inl (cB, n, .inl g_11))]) [7, 8] rfl
        have hDc := hD.sub (ws' := [(im, .inr (1, [.ref iq, .int L])), (iq, .inl (cB, n, .inl g_11))]) [7, 8] (by decide +kernel) rfl
        have hFc := va_free (wc := [(im, .inr (1, [.ref iq, .int L])), (iq, .inl (cB, n, .inl g_11))]) hD hS hA [7, 8] rfl
        have hkc : 0 ≤ 0 := by decide
        have hks : 0 ≤ 0 := by decide
        refine va_callv (va_runV (C := "DiscMaker$Bytes") (As := [.int v64, .ref tl]) (rest := []) ⟨hx, hb, hml, hown, hts⟩ (c3_putRowT l D cB cI cJ cZ cN cF H.size im iq n L g_11 tl 3 gl v64 (by (try dsimp only); first | assumption | omega | trivial) (by (try dsimp only); first | assumption | omega | trivial) (by (try dsimp only); first | assumption | omega | trivial)) (cwV 2 hts (lg_goodV k1059 k1031 k1032 k119 kc_Bytes_putRow) rfl rfl rfl (by decide +kernel) ⟨Nat.le_of_ble_eq_true rfl, Nat.le_of_ble_eq_true rfl⟩) ⟨fun a U g mk q => by obtain ⟨q0, q1, qP, qK, qN, qD, qZ0⟩ := q; exact ⟨q0, q1, qP, va_K.moved (u := U) (U := U.calling g mk a) (Vm.Alike.refl U.vm) qK, qN.calling, qD, zT_blind qZ0⟩, va_recv hK hP (ci := 1) (q0 := 7) rfl rfl, fun U hU hW => ⟨rfl, by rw [hU], by rw [hU]; exact hPc, va_K.moved hW.alike hK, NN.warm hW hN, hDc.weaken (fun _ _ _ _ => trivial), zT_pass hZs.2.2.2 hS hFc hW.alike hU⟩⟩ rfl rfl hl.1 rfl (lv_room (Nat.le_of_ble_eq_true rfl)) d_Maker_writeDescriptor_87 ⟨hkc, hks⟩) hS (fun q _ h => hFc q h) hFc (fun u t H1 locs ht hvm hp_r65 hB hz1 hk1 hS => ?_)
        obtain ⟨g_66, rfl⟩ : ∃ z, z = u := ⟨_, rfl⟩
        obtain ⟨hP1, hD1⟩ := hB
        rw [ht] at hP1
        obtain ⟨hP, hD⟩ := va_join (wr := [(l0, .inr (3, [.int ln, .int lds, .int ltb, .ref lo, .ref lp, .ref lt, .ref lb, .ref le, .int lc, .int ld])), (lb, .inl (cI, 40, .inl fb)), (le, .inl (cI, 40, .inl fe)), (ct, .inl (cI, 40, .inl cc)), (id, .inr (1, [.ref jq, .int il])), (jq, .inl (cB, 60, .inl jf)), (m0, .inr (4, [.ref tr, .ref im, .ref fi, .ref se, .ref u0, .ref id, .ref ct, .int ra, .int ru, .int wg]))]) (w1 := [(im, .inr (1, [.ref iq, .int L])), (iq, .inl (cB, n, .inl g_66))]) hP hD [7, 8] [0, 1, 2, 3, 4, 5, 6] rfl rfl (by decide +kernel) (by decide +kernel) hk1 hFc hP1 hD1
        clear hPc hDc hFc hP1 hD1 hk1 hz1 hkc hks
        generalize H1 = H at hP hS ⊢
        have hP : va_P D CL [(l0, .inr (3, [.int ln, .int lds, .int ltb, .ref lo, .ref lp, .ref lt, .ref lb, .ref le, .int lc, .int ld])), (lb, .inl (cI, 40, .inl fb)), (le, .inl (cI, 40, .inl fe)), (ct, .inl (cI, 40, .inl cc)), (id, .inr (1, [.ref jq, .int il])), (jq, .inl (cB, 60, .inl jf)), (m0, .inr (4, [.ref tr, .ref im, .ref fi, .ref se, .ref u0, .ref id, .ref ct, .int ra, .int ru, .int wg])), (im, .inr (1, [.ref iq, .int L])), (iq, .inl (cB, n, .inl g_66))] H := hP
        have hD : va_D A [(l0, .inr (3, [.int ln, .int lds, .int ltb, .ref lo, .ref lp, .ref lt, .ref lb, .ref le, .int lc, .int ld])), (lb, .inl (cI, 40, .inl fb)), (le, .inl (cI, 40, .inl fe)), (ct, .inl (cI, 40, .inl cc)), (id, .inr (1, [.ref jq, .int il])), (jq, .inl (cB, 60, .inl jf)), (m0, .inr (4, [.ref tr, .ref im, .ref fi, .ref se, .ref u0, .ref id, .ref ct, .int ra, .int ru, .int wg])), (im, .inr (1, [.ref iq, .int L])), (iq, .inl (cB, n, .inl g_66))] := hD
        have hP := hP.sub (ws' := [(l0, .inr (3, [.int ln, .int lds, .int ltb, .ref lo, .ref lp, .ref lt, .ref lb, .ref le, .int lc, .int ld])), (lb, .inl (cI, 40, .inl fb)), (le, .inl (cI, 40, .inl fe)), (ct, .inl (cI, 40, .inl cc)), (id, .inr (1, [.ref jq, .int il])), (jq, .inl (cB, 60, .inl jf)), (m0, .inr (4, [.ref tr, .ref im, .ref fi, .ref se, .ref u0, .ref id, .ref ct, .int ra, .int ru, .int wg])), (im, .inr (1, [.ref iq, .int L])), (iq, .inl (cB, n, .inl g_66))]) [0, 1, 2, 3, 4, 5, 6, 7, 8] rfl
        have hD := hD.sub (ws' := [(l0, .inr (3, [.int ln, .int lds, .int ltb, .ref lo, .ref lp, .ref lt, .ref lb, .ref le, .int lc, .int ld])), (lb, .inl (cI, 40, .inl fb)), (le, .inl (cI, 40, .inl fe)), (ct, .inl (cI, 40, .inl cc)), (id, .inr (1, [.ref jq, .int il])), (jq, .inl (cB, 60, .inl jf)), (m0, .inr (4, [.ref tr, .ref im, .ref fi, .ref se, .ref u0, .ref id, .ref ct, .int ra, .int ru, .int wg])), (im, .inr (1, [.ref iq, .int L])), (iq, .inl (cB, n, .inl g_66))]) [0, 1, 2, 3, 4, 5, 6, 7, 8] (by decide +kernel) rfl
        have hl := lv_sub hl [0, 1, 2, 3] rfl
        exact kk90 _ g_66 _ _ _ rfl  hP hD hS hl
  · skip
    intro kk26
    refine va_getN (D := D) (ci := 3) (v := .int ln) (C := "DiscMaker$Layout") (T := F_Layout) (N := 10) hx hb ht9 in_Layout hown hK hP 1 rfl rfl 0 (by decide) (va_Nw.use rfl (hN _ k281)) (fun _ h9 => h9) rfl d_Maker_writeDescriptor_15 ?_
    refine lv_if_eq (tgt := 25) hx hb d_Maker_writeDescriptor_18 (by decide) (fun h_9 => ?_) (fun h_9 => ?_)
    · skip
      have g18_163 : ln.toInt = 0 := (i_eq rfl (by decide)).mp h_9
      refine lv_iconst (v := 1) hx hb d_Maker_writeDescriptor_25 (by decide) ?_
      have hP := hP.sub (ws' := [(m0, .inr (4, [.ref tr, .ref im, .ref fi, .ref se, .ref u0, .ref id, .ref ct, .int ra, .int ru, .int wg])), (l0, .inr (3, [.int ln, .int lds, .int ltb, .ref lo, .ref lp, .ref lt, .ref lb, .ref le, .int lc, .int ld])), (lb, .inl (cI, 40, .inl fb)), (le, .inl (cI, 40, .inl fe)), (ct, .inl (cI, 40, .inl cc)), (id, .inr (1, [.ref jq, .int il])), (jq, .inl (cB, 60, .inl jf)), (im, .inr (1, [.ref iq, .int L])), (iq, .inl (cB, n, .inl f))]) [0, 1, 2, 3, 4, 5, 6, 7, 8] rfl
      have hD := hD.sub (ws' := [(m0, .inr (4, [.ref tr, .ref im, .ref fi, .ref se, .ref u0, .ref id, .ref ct, .int ra, .int ru, .int wg])), (l0, .inr (3, [.int ln, .int lds, .int ltb, .ref lo, .ref lp, .ref lt, .ref lb, .ref le, .int lc, .int ld])), (lb, .inl (cI, 40, .inl fb)), (le, .inl (cI, 40, .inl fe)), (ct, .inl (cI, 40, .inl cc)), (id, .inr (1, [.ref jq, .int il])), (jq, .inl (cB, 60, .inl jf)), (im, .inr (1, [.ref iq, .int L])), (iq, .inl (cB, n, .inl f))]) [0, 1, 2, 3, 4, 5, 6, 7, 8] (by decide +kernel) rfl
      have hl := lv_sub hl [1, 2, 3, 0] rfl
      exact kk26 _ 1 _ _ _ rfl  hP hD hS hl
    · skip
      have g18_163 : ¬ ln.toInt = 0 := fun h8 => h_9 ((i_eq rfl (by decide)).mpr h8)
      refine lv_iconst (v := 2) hx hb d_Maker_writeDescriptor_21 (by decide) ?_
      refine lv_goto (tgt := 26) hx hb d_Maker_writeDescriptor_22 (by decide) ?_
      have hP := hP.sub (ws' := [(m0, .inr (4, [.ref tr, .ref im, .ref fi, .ref se, .ref u0, .ref id, .ref ct, .int ra, .int ru, .int wg])), (l0, .inr (3, [.int ln, .int lds, .int ltb, .ref lo, .ref lp, .ref lt, .ref lb, .ref le, .int lc, .int ld])), (lb, .inl (cI, 40, .inl fb)), (le, .inl (cI, 40, .inl fe)), (ct, .inl (cI, 40, .inl cc)), (id, .inr (1, [.ref jq, .int il])), (jq, .inl (cB, 60, .inl jf)), (im, .inr (1, [.ref iq, .int L])), (iq, .inl (cB, n, .inl f))]) [0, 1, 2, 3, 4, 5, 6, 7, 8] rfl
      have hD := hD.sub (ws' := [(m0, .inr (4, [.ref tr, .ref im, .ref fi, .ref se, .ref u0, .ref id, .ref ct, .int ra, .int ru, .int wg])), (l0, .inr (3, [.int ln, .int lds, .int ltb, .ref lo, .ref lp, .ref lt, .ref lb, .ref le, .int lc, .int ld])), (lb, .inl (cI, 40, .inl fb)), (le, .inl (cI, 40, .inl fe)), (ct, .inl (cI, 40, .inl cc)), (id, .inr (1, [.ref jq, .int il])), (jq, .inl (cB, 60, .inl jf)), (im, .inr (1, [.ref iq, .int L])), (iq, .inl (cB, n, .inl f))]) [0, 1, 2, 3, 4, 5, 6, 7, 8] (by decide +kernel) rfl
      have hl := lv_sub hl [1, 2, 3, 0] rfl
      exact kk26 _ 2 _ _ _ rfl  hP hD hS hl
