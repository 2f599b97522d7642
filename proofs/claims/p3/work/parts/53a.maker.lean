theorem d_DiscMaker_sectorsFor_0 : decode b_DiscMaker_sectorsFor 0 = .ok (.iload_n 0, 1) := by decide +kernel
theorem d_DiscMaker_sectorsFor_1 : decode b_DiscMaker_sectorsFor 1 = .ok (.sipush 2048, 3) := by decide +kernel
theorem d_DiscMaker_sectorsFor_4 : decode b_DiscMaker_sectorsFor 4 = .ok (.iadd, 1) := by decide +kernel
theorem d_DiscMaker_sectorsFor_5 : decode b_DiscMaker_sectorsFor 5 = .ok (.iconst 1, 1) := by decide +kernel
theorem d_DiscMaker_sectorsFor_6 : decode b_DiscMaker_sectorsFor 6 = .ok (.isub, 1) := by decide +kernel
theorem d_DiscMaker_sectorsFor_7 : decode b_DiscMaker_sectorsFor 7 = .ok (.sipush 2048, 3) := by decide +kernel
theorem d_DiscMaker_sectorsFor_10 : decode b_DiscMaker_sectorsFor 10 = .ok (.idiv, 1) := by decide +kernel
theorem d_DiscMaker_sectorsFor_11 : decode b_DiscMaker_sectorsFor 11 = .ok (.ireturn, 1) := by decide +kernel
set_option maxHeartbeats 4000000 in
set_option maxRecDepth 100000 in
theorem c3_sectorsFor (l : Launch) (D : va_G) (cB cI cJ cZ cN cF : ClassId) (sz : Nat) (x : Int32) (hx : 0 ≤ x.toInt ∧ x.toInt ≤ 1000000000) : Met l y_DiscMaker_sectorsFor w_DiscMaker_sectorsFor ({ frames := 0, cells := 0, slots := 0, locals := 0 }) (va_Pc [.int x] (fun U => U.heap.size = sz ∧ va_P D CL [] U.heap ∧ va_K D CL (TY cB cI cJ cZ cN cF) U ∧ NN U ∧ va_D (fun _ => True) [])) (va_Qi (fun (r : Int32) (u : Unit) => (r.toInt = (x.toInt + 2047) / 2048)) (fun (u : Unit) (t : State) => match u with | () => va_P D CL [] t.heap ∧ va_D (va_A [] sz) []) (va_A [] sz)) 0 0 (va_A [] sz) := by
  refine Met.ofW (cc := b_DiscMaker_sectorsFor) (maxL := 1) (ret := some .int) (by decide +kernel) rfl ?_
  intro p e s m args below meth c s₁ B hml hv
  obtain ⟨rfl, hsz, hP, hK, hN, hD0⟩ := hv
  have hx := B.exec
  have hb := B.bytes
  have hr := B.returns
  have hts := atoms_spec (ws := w_DiscMaker_sectorsFor) B.pre
  have ht9 := fun (w : Cond) (h : w ∈ lw_g) => hts w (List.mem_cons_of_mem _ h)
  have hown : s.vm.findClass "DiscMaker" = some m.cls := findClass_of_methodNamed B.named
  have hlocks := B.notSynchronized
  subst hsz
  have hD := hD0.self (sz := s.heap.size)
  generalize hAe : va_A [] s.heap.size = A at hD ⊢
  have hA : ∀ q : Nat, s.heap.size ≤ q → A q := fun q h => by rw [← hAe]; exact Or.inr h
  have hS : va_S A s.heap s.heap [] := va_S.rf
  have hP : va_P D CL [] s.heap := hP
  have hl := lv_entry [.int x] (n := 1) (Nat.le_of_ble_eq_true rfl)
  rw [lg_entry_eq]
  generalize (lg_sl [.int x] ++ List.replicate (1 - (lg_sl [.int x]).length) Slot.unset).toArray = ls at hl ⊢
  have hl : lv_has ls 1 [(0, .int x)] := hl
  have L_m1 : ((-1) : Int32).toInt = (-1) := by decide
  have L_0 : (0 : Int32).toInt = 0 := by decide
  have L_1 : (1 : Int32).toInt = 1 := by decide
  have L_2047 : (2047 : Int32).toInt = 2047 := by decide
  have L_2048 : (2048 : Int32).toInt = 2048 := by decide
  refine lv_iload_n hx hb d_DiscMaker_sectorsFor_0 rfl (lv_at hl 0 rfl) ?_
  refine lv_sipush (v := 2048) hx hb d_DiscMaker_sectorsFor_1 (by decide) ?_
  refine lv_iadd hx hb d_DiscMaker_sectorsFor_4 ?_
  refine lv_topi (fun v1 e_v1 => ?_)
  have t_v1 : v1.toInt = x.toInt + 2048 := by rw [e_v1]; exact i_add rfl (by decide) (by omega) (by omega)
  refine lv_iconst (v := 1) hx hb d_DiscMaker_sectorsFor_5 (by decide) ?_
  refine lv_isub hx hb d_DiscMaker_sectorsFor_6 ?_
  refine lv_topi (fun v2 e_v2 => ?_)
  have t_v2 : v2.toInt = v1.toInt - 1 := by rw [e_v2]; exact i_sub rfl (by decide) (by omega) (by omega)
  refine lv_sipush (v := 2048) hx hb d_DiscMaker_sectorsFor_7 (by decide) ?_
  refine lv_idiv hx hb d_DiscMaker_sectorsFor_10 (by decide) ?_
  refine lv_topi (fun v3 e_v3 => ?_)
  have t_v3 : v3.toInt = v2.toInt / 2048 := by rw [e_v3]; exact i_div rfl (by decide) (by omega) (by omega)
  have hP9 := hP.sub (ws' := []) [] rfl
  have hD9 := hD.sub (ws' := []) [] (by decide +kernel) rfl
  exact W.iret (v := v3) hx hb hr (fun t ht hW => ⟨⟨v3, (), rfl, (by (try dsimp only); first | assumption | omega | trivial), by rw [ht]; exact hP9, hD9⟩, hS.F ht⟩) hS.2.2 d_DiscMaker_sectorsFor_11

theorem d_Maker_withinOneSector_0 : decode b_Maker_withinOneSector 0 = .ok (.iload_n 0, 1) := by decide +kernel
theorem d_Maker_withinOneSector_1 : decode b_Maker_withinOneSector 1 = .ok (.sipush 2048, 3) := by decide +kernel
theorem d_Maker_withinOneSector_4 : decode b_Maker_withinOneSector 4 = .ok (.irem, 1) := by decide +kernel
theorem d_Maker_withinOneSector_5 : decode b_Maker_withinOneSector 5 = .ok (.iload_n 1, 1) := by decide +kernel
theorem d_Maker_withinOneSector_6 : decode b_Maker_withinOneSector 6 = .ok (.iadd, 1) := by decide +kernel
theorem d_Maker_withinOneSector_7 : decode b_Maker_withinOneSector 7 = .ok (.sipush 2048, 3) := by decide +kernel
theorem d_Maker_withinOneSector_10 : decode b_Maker_withinOneSector 10 = .ok (.if_icmp .le 14, 3) := by decide +kernel
theorem d_Maker_withinOneSector_13 : decode b_Maker_withinOneSector 13 = .ok (.iload_n 0, 1) := by decide +kernel
theorem d_Maker_withinOneSector_14 : decode b_Maker_withinOneSector 14 = .ok (.invokestatic 79, 3) := by decide +kernel
theorem d_Maker_withinOneSector_17 : decode b_Maker_withinOneSector 17 = .ok (.sipush 2048, 3) := by decide +kernel
theorem d_Maker_withinOneSector_20 : decode b_Maker_withinOneSector 20 = .ok (.imul, 1) := by decide +kernel
theorem d_Maker_withinOneSector_21 : decode b_Maker_withinOneSector 21 = .ok (.goto 4, 3) := by decide +kernel
theorem d_Maker_withinOneSector_24 : decode b_Maker_withinOneSector 24 = .ok (.iload_n 0, 1) := by decide +kernel
theorem d_Maker_withinOneSector_25 : decode b_Maker_withinOneSector 25 = .ok (.ireturn, 1) := by decide +kernel
set_option maxHeartbeats 4000000 in
set_option maxRecDepth 100000 in
theorem c3_withinOneSector (l : Launch) (D : va_G) (cB cI cJ cZ cN cF : ClassId) (sz : Nat) (x : Int32) (y : Int32) (hx : 0 ≤ x.toInt ∧ x.toInt ≤ 1000000000) (hy : 0 ≤ y.toInt ∧ y.toInt ≤ 2000) : Met l y_Maker_withinOneSector w_Maker_withinOneSector ({ frames := 1, cells := 0, slots := 0, locals := 26 }) (va_Pc [.int x, .int y] (fun U => U.heap.size = sz ∧ va_P D CL [] U.heap ∧ va_K D CL (TY cB cI cJ cZ cN cF) U ∧ NN U ∧ va_D (fun _ => True) [])) (va_Qi (fun (r : Int32) (u : Unit) => (x.toInt ≤ r.toInt ∧ r.toInt ≤ x.toInt + y.toInt)) (fun (u : Unit) (t : State) => match u with | () => va_P D CL [] t.heap ∧ va_D (va_A [] sz) []) (va_A [] sz)) 0 0 (va_A [] sz) := by
  refine Met.ofW (cc := b_Maker_withinOneSector) (maxL := 2) (ret := some .int) (by decide +kernel) rfl ?_
  intro p e s m args below meth c s₁ B hml hv
  obtain ⟨rfl, hsz, hP, hK, hN, hD0⟩ := hv
  have hx := B.exec
  have hb := B.bytes
  have hr := B.returns
  have hts := atoms_spec (ws := w_Maker_withinOneSector) B.pre
  have ht9 := fun (w : Cond) (h : w ∈ lw_g) => hts w (List.mem_cons_of_mem _ h)
  have hown : s.vm.findClass "DiscMaker$Maker" = some m.cls := findClass_of_methodNamed B.named
  have hlocks := B.notSynchronized
  subst hsz
  have hD := hD0.self (sz := s.heap.size)
  generalize hAe : va_A [] s.heap.size = A at hD ⊢
  have hA : ∀ q : Nat, s.heap.size ≤ q → A q := fun q h => by rw [← hAe]; exact Or.inr h
  have hS : va_S A s.heap s.heap [] := va_S.rf
  have hP : va_P D CL [] s.heap := hP
  have hl := lv_entry [.int x, .int y] (n := 2) (Nat.le_of_ble_eq_true rfl)
  rw [lg_entry_eq]
  generalize (lg_sl [.int x, .int y] ++ List.replicate (2 - (lg_sl [.int x, .int y]).length) Slot.unset).toArray = ls at hl ⊢
  have hl : lv_has ls 2 [(0, .int x), (1, .int y)] := hl
  have L_m1 : ((-1) : Int32).toInt = (-1) := by decide
  have L_0 : (0 : Int32).toInt = 0 := by decide
  have L_1 : (1 : Int32).toInt = 1 := by decide
  have L_2048 : (2048 : Int32).toInt = 2048 := by decide
  refine lv_iload_n hx hb d_Maker_withinOneSector_0 rfl (lv_at hl 0 rfl) ?_
  refine lv_sipush (v := 2048) hx hb d_Maker_withinOneSector_1 (by decide) ?_
  refine lv_irem hx hb d_Maker_withinOneSector_4 (by decide) ?_
  refine lv_topi (fun v1 e_v1 => ?_)
  have t_v1 : v1.toInt = x.toInt % 2048 := by rw [e_v1]; exact i_rem rfl (by decide) (by omega) (by omega)
  refine lv_iload_n hx hb d_Maker_withinOneSector_5 rfl (lv_at hl 1 rfl) ?_
  refine lv_iadd hx hb d_Maker_withinOneSector_6 ?_
  refine lv_topi (fun v2 e_v2 => ?_)
  have t_v2 : v2.toInt = v1.toInt + y.toInt := by rw [e_v2]; exact i_add rfl rfl (by omega) (by omega)
  refine lv_sipush (v := 2048) hx hb d_Maker_withinOneSector_7 (by decide) ?_
  refine lv_icmp_le (tgt := 24) hx hb d_Maker_withinOneSector_10 (by decide) (fun h_9 => ?_) (fun h_9 => ?_)
  · skip
    have g10_7 : v2.toInt ≤ 2048 := (i_le rfl (by decide)).mp h_9
    refine lv_iload_n hx hb d_Maker_withinOneSector_24 rfl (lv_at hl 0 rfl) ?_
    have hP9 := hP.sub (ws' := []) [] rfl
    have hD9 := hD.sub (ws' := []) [] (by decide +kernel) rfl
    exact W.iret (v := x) hx hb hr (fun t ht hW => ⟨⟨x, (), rfl, (by (try dsimp only); first | assumption | omega | trivial), by rw [ht]; exact hP9, hD9⟩, hS.F ht⟩) hS.2.2 d_Maker_withinOneSector_25
  · skip
    have g10_7 : ¬ v2.toInt ≤ 2048 := fun h8 => h_9 ((i_le rfl (by decide)).mpr h8)
    refine lv_iload_n hx hb d_Maker_withinOneSector_13 rfl (lv_at hl 0 rfl) ?_
    have hPc := hP.sub (ws' := []) [] rfl
    have hDc := hD.sub (ws' := []) [] (by decide +kernel) rfl
    have hFc := va_free (wc := []) hD hS hA [] rfl
    have hkc : 0 ≤ 0 := by decide
    have hks : 0 ≤ 0 := by decide
    refine va_calli (va_runSN (As := [.int x]) (rest := []) ⟨hx, hb, hml, hown, hts⟩ (c3_sectorsFor l D cB cI cJ cZ cN cF s.heap.size x (by (try dsimp only); first | assumption | omega | trivial)) ⟨va_cnB 1 hts (lg_good kc_DiscMaker_sectorsFor) rfl rfl rfl (hN _ k1045) (ht9 _ k115) (by decide +kernel) ⟨Nat.le_of_ble_eq_true rfl, Nat.le_of_ble_eq_true rfl⟩, ht9 _ k1046, trivial⟩ ⟨fun a U g mk q => by obtain ⟨q0, q1, qP, qK, qN, qD⟩ := q; exact ⟨q0, q1, qP, va_K.moved (u := U) (U := U.calling g mk a) (Vm.Alike.refl U.vm) qK, qN.calling, qD⟩, fun U hU hW => ⟨rfl, by rw [hU], by rw [hU]; exact hPc, va_K.moved hW.alike hK, NN.warm hW hN, hDc.weaken (fun _ _ _ _ => trivial)⟩⟩ rfl rfl hl.1 rfl (lv_room (Nat.le_of_ble_eq_true rfl)) d_Maker_withinOneSector_14 ⟨hkc, hks⟩) hS (fun q _ h => hFc q h) hFc (fun r3 u t H1 locs ht hvm hp_r3 hB hz1 hk1 hS => ?_)
    obtain ⟨hP1, hD1⟩ := hB
    rw [ht] at hP1
    obtain ⟨hP, hD⟩ := va_join (wr := []) (w1 := []) hP hD [] [] rfl rfl (by decide +kernel) (by decide +kernel) hk1 hFc hP1 hD1
    clear hPc hDc hFc hP1 hD1 hk1 hz1 hkc hks
    generalize H1 = H at hP hS ⊢
    have hP : va_P D CL [] H := hP
    have hD : va_D A [] := hD
    try dsimp only at hp_r3
    have hv_4 := hp_r3
    refine lv_sipush (v := 2048) hx hb d_Maker_withinOneSector_17 (by decide) ?_
    refine lv_imul hx hb d_Maker_withinOneSector_20 ?_
    refine lv_topi (fun v5 e_v5 => ?_)
    have t_v5 : v5.toInt = r3.toInt * 2048 := by rw [e_v5]; exact i_mul rfl (by decide) (by omega) (by omega)
    refine lv_goto (tgt := 25) hx hb d_Maker_withinOneSector_21 (by decide) ?_
    have hP9 := hP.sub (ws' := []) [] rfl
    have hD9 := hD.sub (ws' := []) [] (by decide +kernel) rfl
    exact W.iret (v := v5) hx hb hr (fun t ht hW => ⟨⟨v5, (), rfl, (by (try dsimp only); first | assumption | omega | trivial), by rw [ht]; exact hP9, hD9⟩, hS.F ht⟩) hS.2.2 d_Maker_withinOneSector_25

theorem d_Maker_linkPartBytes_0 : decode b_Maker_linkPartBytes 0 = .ok (.aload_n 0, 1) := by decide +kernel
theorem d_Maker_linkPartBytes_1 : decode b_Maker_linkPartBytes 1 = .ok (.getfield 26, 3) := by decide +kernel
theorem d_Maker_linkPartBytes_4 : decode b_Maker_linkPartBytes 4 = .ok (.invokevirtual 50, 3) := by decide +kernel
theorem d_Maker_linkPartBytes_7 : decode b_Maker_linkPartBytes 7 = .ok (.aload_n 0, 1) := by decide +kernel
theorem d_Maker_linkPartBytes_8 : decode b_Maker_linkPartBytes 8 = .ok (.getfield 26, 3) := by decide +kernel
theorem d_Maker_linkPartBytes_11 : decode b_Maker_linkPartBytes 11 = .ok (.aload_n 1, 1) := by decide +kernel
theorem d_Maker_linkPartBytes_12 : decode b_Maker_linkPartBytes 12 = .ok (.invokevirtual 53, 3) := by decide +kernel
theorem d_Maker_linkPartBytes_15 : decode b_Maker_linkPartBytes 15 = .ok (.aload_n 0, 1) := by decide +kernel
theorem d_Maker_linkPartBytes_16 : decode b_Maker_linkPartBytes 16 = .ok (.getfield 26, 3) := by decide +kernel
theorem d_Maker_linkPartBytes_19 : decode b_Maker_linkPartBytes 19 = .ok (.getfield 57, 3) := by decide +kernel
theorem d_Maker_linkPartBytes_22 : decode b_Maker_linkPartBytes 22 = .ok (.getfield 60, 3) := by decide +kernel
theorem d_Maker_linkPartBytes_25 : decode b_Maker_linkPartBytes 25 = .ok (.ireturn, 1) := by decide +kernel
set_option maxHeartbeats 4000000 in
set_option maxRecDepth 100000 in
theorem c3_linkPartBytes (l : Launch) (D : va_G) (cB cI cJ cZ cN cF : ClassId) (sz : Nat) (m0 : Nat) (tr : Nat) (im : Nat) (fi : Nat) (se : Nat) (u0 : Nat) (id : Nat) (ct : Nat) (ra : Int32) (ru : Int32) (wg : Int32) (pb : Nat) (pq : Nat) (en : Nat) (uc : Int32) (uk : Int32) (pL : Int32) (pf : Nat → Int32) (ef : Nat → Int32) (tt : Nat) (nt : Nat) (gv : Nat → Int32) (hnt : nt ≤ 400) : Met l y_Maker_linkPartBytes w_Maker_linkPartBytes ({ frames := 3, cells := 0, slots := 0, locals := 92 }) (va_Pc [.ref m0, .ref tt] (fun U => U.heap.size = sz ∧ va_P D CL [(m0, .inr (4, [.ref tr, .ref im, .ref fi, .ref se, .ref u0, .ref id, .ref ct, .int ra, .int ru, .int wg])), (u0, .inr (8, [.ref pb, .ref en, .int uc, .int uk])), (pb, .inr (1, [.ref pq, .int pL])), (pq, .inl (cB, 400, .inl pf)), (en, .inl (cI, 4, .inl ef))] U.heap ∧ va_K D CL (TY cB cI cJ cZ cN cF) U ∧ NN U ∧ va_D (fun _ => True) [(m0, .inr (4, [.ref tr, .ref im, .ref fi, .ref se, .ref u0, .ref id, .ref ct, .int ra, .int ru, .int wg])), (u0, .inr (8, [.ref pb, .ref en, .int uc, .int uk])), (pb, .inr (1, [.ref pq, .int pL])), (pq, .inl (cB, 400, .inl pf)), (en, .inl (cI, 4, .inl ef))] ∧ RO D [(tt, .inl (cB, nt, .inl gv))] (va_A [(m0, .inr (4, [.ref tr, .ref im, .ref fi, .ref se, .ref u0, .ref id, .ref ct, .int ra, .int ru, .int wg])), (u0, .inr (8, [.ref pb, .ref en, .int uc, .int uk])), (pb, .inr (1, [.ref pq, .int pL])), (pq, .inl (cB, 400, .inl pf)), (en, .inl (cI, 4, .inl ef))] sz) U U.heap)) (va_Qi (fun (r : Int32) (u : Int32 × Int32 × (Nat → Int32) × (Nat → Int32)) => match u with | (uc2, L2, g, ef2) => (SatI (5 + compS gv nt) r.toInt)) (fun (u : Int32 × Int32 × (Nat → Int32) × (Nat → Int32)) (t : State) => match u with | (uc2, L2, g, ef2) => va_P D CL [(m0, .inr (4, [.ref tr, .ref im, .ref fi, .ref se, .ref u0, .ref id, .ref ct, .int ra, .int ru, .int wg])), (u0, .inr (8, [.ref pb, .ref en, .int uc2, .int 0])), (pb, .inr (1, [.ref pq, .int L2])), (pq, .inl (cB, 400, .inl g)), (en, .inl (cI, 4, .inl ef2))] t.heap ∧ va_D (va_A [(m0, .inr (4, [.ref tr, .ref im, .ref fi, .ref se, .ref u0, .ref id, .ref ct, .int ra, .int ru, .int wg])), (u0, .inr (8, [.ref pb, .ref en, .int uc, .int uk])), (pb, .inr (1, [.ref pq, .int pL])), (pq, .inl (cB, 400, .inl pf)), (en, .inl (cI, 4, .inl ef))] sz) [(m0, .inr (4, [.ref tr, .ref im, .ref fi, .ref se, .ref u0, .ref id, .ref ct, .int ra, .int ru, .int wg])), (u0, .inr (8, [.ref pb, .ref en, .int uc2, .int 0])), (pb, .inr (1, [.ref pq, .int L2])), (pq, .inl (cB, 400, .inl g)), (en, .inl (cI, 4, .inl ef2))]) (va_A [(m0, .inr (4, [.ref tr, .ref im, .ref fi, .ref se, .ref u0, .ref id, .ref ct, .int ra, .int ru, .int wg])), (u0, .inr (8, [.ref pb, .ref en, .int uc, .int uk])), (pb, .inr (1, [.ref pq, .int pL])), (pq, .inl (cB, 400, .inl pf)), (en, .inl (cI, 4, .inl ef))] sz)) 0 0 (va_A [(m0, .inr (4, [.ref tr, .ref im, .ref fi, .ref se, .ref u0, .ref id, .ref ct, .int ra, .int ru, .int wg])), (u0, .inr (8, [.ref pb, .ref en, .int uc, .int uk])), (pb, .inr (1, [.ref pq, .int pL])), (pq, .inl (cB, 400, .inl pf)), (en, .inl (cI, 4, .inl ef))] sz) := by
  refine Met.ofW (cc := b_Maker_linkPartBytes) (maxL := 2) (ret := some .int) (by decide +kernel) rfl ?_
  intro p e s m args below meth c s₁ B hml hv
  obtain ⟨rfl, hsz, hP, hK, hN, hD0, hZr⟩ := hv
  have hx := B.exec
  have hb := B.bytes
  have hr := B.returns
  have hts := atoms_spec (ws := w_Maker_linkPartBytes) B.pre
  have ht9 := fun (w : Cond) (h : w ∈ lw_g) => hts w (List.mem_cons_of_mem _ h)
  have hown : s.vm.findClass "DiscMaker$Maker" = some m.cls := findClass_of_methodNamed B.named
  have hlocks := B.notSynchronized
  subst hsz
  have hD := hD0.self (sz := s.heap.size)
  generalize hAe : va_A [(m0, .inr (4, [.ref tr, .ref im, .ref fi, .ref se, .ref u0, .ref id, .ref ct, .int ra, .int ru, .int wg])), (u0, .inr (8, [.ref pb, .ref en, .int uc, .int uk])), (pb, .inr (1, [.ref pq, .int pL])), (pq, .inl (cB, 400, .inl pf)), (en, .inl (cI, 4, .inl ef))] s.heap.size = A at hD hZr ⊢
  have hA : ∀ q : Nat, s.heap.size ≤ q → A q := fun q h => by rw [← hAe]; exact Or.inr h
  have hS : va_S A s.heap s.heap [] := va_S.rf
  have hP : va_P D CL [(m0, .inr (4, [.ref tr, .ref im, .ref fi, .ref se, .ref u0, .ref id, .ref ct, .int ra, .int ru, .int wg])), (u0, .inr (8, [.ref pb, .ref en, .int uc, .int uk])), (pb, .inr (1, [.ref pq, .int pL])), (pq, .inl (cB, 400, .inl pf)), (en, .inl (cI, 4, .inl ef))] s.heap := hP
  have hl := lv_entry [.ref m0, .ref tt] (n := 2) (Nat.le_of_ble_eq_true rfl)
  rw [lg_entry_eq]
  generalize (lg_sl [.ref m0, .ref tt] ++ List.replicate (2 - (lg_sl [.ref m0, .ref tt]).length) Slot.unset).toArray = ls at hl ⊢
  have hl : lv_has ls 2 [(0, .ref m0), (1, .ref tt)] := hl
  have L_m1 : ((-1) : Int32).toInt = (-1) := by decide
  have L_0 : (0 : Int32).toInt = 0 := by decide
  have L_1 : (1 : Int32).toInt = 1 := by decide
  refine lv_aload_n hx hb d_Maker_linkPartBytes_0 rfl (lv_at hl 0 rfl) ?_
  refine va_get (D := D) (ci := 4) (v := .ref u0) (C := "DiscMaker$Maker") (T := F_Maker) (N := 10) hx hb ht9 in_Maker hown hK hP 0 rfl rfl 4 (by decide) (ht9 _ k351) (fun _ h9 => h9) rfl d_Maker_linkPartBytes_1 ?_
  have hPc := hP.sub (ws' := [(u0, .inr (8, [.ref pb, .ref en, .int uc, .int uk])), (pb, .inr (1, [.ref pq, .int pL])), (pq, .inl (cB, 400, .inl pf))]) [1, 2, 3] rfl
  have hDc := hD.sub (ws' := [(u0, .inr (8, [.ref pb, .ref en, .int uc, .int uk])), (pb, .inr (1, [.ref pq, .int pL])), (pq, .inl (cB, 400, .inl pf))]) [1, 2, 3] (by decide +kernel) rfl
  have hFc := va_free (wc := [(u0, .inr (8, [.ref pb, .ref en, .int uc, .int uk])), (pb, .inr (1, [.ref pq, .int pL])), (pq, .inl (cB, 400, .inl pf))]) hD hS hA [1, 2, 3] rfl
  have hkc : 0 ≤ 0 := by decide
  have hks : 0 ≤ 0 := by decide
  refine va_callv (va_runV (C := "DiscMaker$SystemUse") (As := []) (rest := []) ⟨hx, hb, hml, hown, hts⟩ (c3_clear l D cB cI cJ cZ cN cF s.heap.size u0 pb pq en uc uk pL pf) (cwV 0 hts (lg_goodV k891 k892 k893 k122 kc_SystemUse_clear) rfl rfl rfl (by decide +kernel) ⟨Nat.le_of_ble_eq_true rfl, Nat.le_of_ble_eq_true rfl⟩) ⟨fun a U g mk q => by obtain ⟨q0, q1, qP, qK, qN, qD⟩ := q; exact ⟨q0, q1, qP, va_K.moved (u := U) (U := U.calling g mk a) (Vm.Alike.refl U.vm) qK, qN.calling, qD⟩, va_recv hK hP (ci := 8) (q0 := 1) rfl rfl, fun U hU hW => ⟨rfl, by rw [hU], by rw [hU]; exact hPc, va_K.moved hW.alike hK, NN.warm hW hN, hDc.weaken (fun _ _ _ _ => trivial)⟩⟩ rfl rfl hl.1 rfl (lv_room (Nat.le_of_ble_eq_true rfl)) d_Maker_linkPartBytes_4 ⟨hkc, hks⟩) hS (fun q _ h => hFc q h) hFc (fun u t H1 locs ht hvm hp_r1 hB hz1 hk1 hS => ?_)
  obtain ⟨hP1, hD1⟩ := hB
  rw [ht] at hP1
  obtain ⟨hP, hD⟩ := va_join (wr := [(m0, .inr (4, [.ref tr, .ref im, .ref fi, .ref se, .ref u0, .ref id, .ref ct, .int ra, .int ru, .int wg])), (en, .inl (cI, 4, .inl ef))]) (w1 := [(u0, .inr (8, [.ref pb, .ref en, .int 0, .int 0])), (pb, .inr (1, [.ref pq, .int 0])), (pq, .inl (cB, 400, .inl pf))]) hP hD [1, 2, 3] [0, 4] rfl rfl (by decide +kernel) (by decide +kernel) hk1 hFc hP1 hD1
  clear hPc hDc hFc hP1 hD1 hk1 hz1 hkc hks
  generalize H1 = H at hP hS ⊢
  have hP : va_P D CL [(m0, .inr (4, [.ref tr, .ref im, .ref fi, .ref se, .ref u0, .ref id, .ref ct, .int ra, .int ru, .int wg])), (en, .inl (cI, 4, .inl ef)), (u0, .inr (8, [.ref pb, .ref en, .int 0, .int 0])), (pb, .inr (1, [.ref pq, .int 0])), (pq, .inl (cB, 400, .inl pf))] H := hP
  have hD : va_D A [(m0, .inr (4, [.ref tr, .ref im, .ref fi, .ref se, .ref u0, .ref id, .ref ct, .int ra, .int ru, .int wg])), (en, .inl (cI, 4, .inl ef)), (u0, .inr (8, [.ref pb, .ref en, .int 0, .int 0])), (pb, .inr (1, [.ref pq, .int 0])), (pq, .inl (cB, 400, .inl pf))] := hD
  refine lv_aload_n hx hb d_Maker_linkPartBytes_7 rfl (lv_at hl 0 rfl) ?_
  refine va_get (D := D) (ci := 4) (v := .ref u0) (C := "DiscMaker$Maker") (T := F_Maker) (N := 10) hx hb ht9 in_Maker hown hK hP 0 rfl rfl 4 (by decide) (ht9 _ k351) (fun _ h9 => h9) rfl d_Maker_linkPartBytes_8 ?_
  refine lv_aload_n hx hb d_Maker_linkPartBytes_11 rfl (lv_at hl 1 rfl) ?_
  have hPc := hP.sub (ws' := [(u0, .inr (8, [.ref pb, .ref en, .int 0, .int 0])), (pb, .inr (1, [.ref pq, .int 0])), (pq, .inl (cB, 400, .inl pf)), (en, .inl (cI, 4, .inl ef))]) [2, 3, 4, 1] rfl
  have hDc := hD.sub (ws' := [(u0, .inr (8, [.ref pb, .ref en, .int 0, .int 0])), (pb, .inr (1, [.ref pq, .int 0])), (pq, .inl (cB, 400, .inl pf)), (en, .inl (cI, 4, .inl ef))]) [2, 3, 4, 1] (by decide +kernel) rfl
  have hFc := va_free (wc := [(u0, .inr (8, [.ref pb, .ref en, .int 0, .int 0])), (pb, .inr (1, [.ref pq, .int 0])), (pq, .inl (cB, 400, .inl pf)), (en, .inl (cI, 4, .inl ef))]) hD hS hA [2, 3, 4, 1] rfl
  have hkc : 0 ≤ 0 := by decide
  have hks : 0 ≤ 0 := by decide
  refine va_callv (va_runV (C := "DiscMaker$SystemUse") (As := [.ref tt]) (rest := []) ⟨hx, hb, hml, hown, hts⟩ (c3_addTarget l D cB cI cJ cZ cN cF H.size u0 pb pq en 0 0 0 pf ef tt nt gv (by (try dsimp only); first | assumption | omega | trivial) (by (try dsimp only); first | assumption | omega | trivial) (EnOK_0 (by omega)) (by (try dsimp only); first | assumption | omega | trivial)) (cwV 1 hts (lg_goodV k899 k900 k901 k122 kc_SystemUse_addTarget) rfl rfl rfl (by decide +kernel) ⟨Nat.le_of_ble_eq_true rfl, Nat.le_of_ble_eq_true rfl⟩) ⟨fun a U g mk q => by obtain ⟨q0, q1, qP, qK, qN, qD, qZ0⟩ := q; exact ⟨q0, q1, qP, va_K.moved (u := U) (U := U.calling g mk a) (Vm.Alike.refl U.vm) qK, qN.calling, qD, RO_blind qZ0⟩, va_recv hK hP (ci := 8) (q0 := 2) rfl rfl, fun U hU hW => ⟨rfl, by rw [hU], by rw [hU]; exact hPc, va_K.moved hW.alike hK, NN.warm hW hN, hDc.weaken (fun _ _ _ _ => trivial), (RO_pass (RO_one hZr 0 rfl) hS hFc hU)⟩⟩ rfl rfl hl.1 rfl (lv_room (Nat.le_of_ble_eq_true rfl)) d_Maker_linkPartBytes_12 ⟨hkc, hks⟩) hS (fun q _ h => hFc q h) hFc (fun u t H1 locs ht hvm hp_r2 hB hz1 hk1 hS => ?_)
  obtain ⟨uc2_3, L2_4, g_5, ef2_6⟩ := u
  obtain ⟨hP1, hD1⟩ := hB
  rw [ht] at hP1
  obtain ⟨hP, hD⟩ := va_join (wr := [(m0, .inr (4, [.ref tr, .ref im, .ref fi, .ref se, .ref u0, .ref id, .ref ct, .int ra, .int ru, .int wg]))]) (w1 := [(u0, .inr (8, [.ref pb, .ref en, .int uc2_3, .int 0])), (pb, .inr (1, [.ref pq, .int L2_4])), (pq, .inl (cB, 400, .inl g_5)), (en, .inl (cI, 4, .inl ef2_6))]) hP hD [2, 3, 4, 1] [0] rfl rfl (by decide +kernel) (by decide +kernel) hk1 hFc hP1 hD1
  clear hPc hDc hFc hP1 hD1 hk1 hz1 hkc hks
  generalize H1 = H at hP hS ⊢
  have hP : va_P D CL [(m0, .inr (4, [.ref tr, .ref im, .ref fi, .ref se, .ref u0, .ref id, .ref ct, .int ra, .int ru, .int wg])), (u0, .inr (8, [.ref pb, .ref en, .int uc2_3, .int 0])), (pb, .inr (1, [.ref pq, .int L2_4])), (pq, .inl (cB, 400, .inl g_5)), (en, .inl (cI, 4, .inl ef2_6))] H := hP
  have hD : va_D A [(m0, .inr (4, [.ref tr, .ref im, .ref fi, .ref se, .ref u0, .ref id, .ref ct, .int ra, .int ru, .int wg])), (u0, .inr (8, [.ref pb, .ref en, .int uc2_3, .int 0])), (pb, .inr (1, [.ref pq, .int L2_4])), (pq, .inl (cB, 400, .inl g_5)), (en, .inl (cI, 4, .inl ef2_6))] := hD
  try dsimp only at hp_r2
  obtain ⟨hL2_7, huc2_8, hen2_9, hS9_10⟩ := hp_r2
  try rw [L_0] at hL2_7
  try rw [L_0] at hS9_10
  refine lv_aload_n hx hb d_Maker_linkPartBytes_15 rfl (lv_at hl 0 rfl) ?_
  refine va_get (D := D) (ci := 4) (v := .ref u0) (C := "DiscMaker$Maker") (T := F_Maker) (N := 10) hx hb ht9 in_Maker hown hK hP 0 rfl rfl 4 (by decide) (ht9 _ k351) (fun _ h9 => h9) rfl d_Maker_linkPartBytes_16 ?_
  refine va_getN (D := D) (ci := 8) (v := .ref pb) (C := "DiscMaker$SystemUse") (T := F_SystemUse) (N := 4) hx hb ht9 in_SystemUse hown hK hP 1 rfl rfl 0 (by decide) (va_Nw.use rfl (hN _ k331)) (fun _ h9 => h9) rfl d_Maker_linkPartBytes_19 ?_
  refine va_getN (D := D) (ci := 1) (v := .int L2_4) (C := "DiscMaker$Bytes") (T := F_Bytes) (N := 2) hx hb ht9 in_Bytes hown hK hP 2 rfl rfl 1 (by decide) (va_Nw.use rfl (hN _ k257)) (fun _ h9 => h9) rfl d_Maker_linkPartBytes_22 ?_
  have hP9 := hP.sub (ws' := [(m0, .inr (4, [.ref tr, .ref im, .ref fi, .ref se, .ref u0, .ref id, .ref ct, .int ra, .int ru, .int wg])), (u0, .inr (8, [.ref pb, .ref en, .int uc2_3, .int 0])), (pb, .inr (1, [.ref pq, .int L2_4])), (pq, .inl (cB, 400, .inl g_5)), (en, .inl (cI, 4, .inl ef2_6))]) [0, 1, 2, 3, 4] rfl
  have hD9 := hD.sub (ws' := [(m0, .inr (4, [.ref tr, .ref im, .ref fi, .ref se, .ref u0, .ref id, .ref ct, .int ra, .int ru, .int wg])), (u0, .inr (8, [.ref pb, .ref en, .int uc2_3, .int 0])), (pb, .inr (1, [.ref pq, .int L2_4])), (pq, .inl (cB, 400, .inl g_5)), (en, .inl (cI, 4, .inl ef2_6))]) [0, 1, 2, 3, 4] (by decide +kernel) rfl
  exact W.iret (v := L2_4) hx hb hr (fun t ht hW => ⟨⟨L2_4, (uc2_3, L2_4, g_5, ef2_6), rfl, (by (try dsimp only); (have z9 := hS9_10); unfold SatI at z9 ⊢; omega), by rw [ht]; exact hP9, hD9⟩, hS.F ht⟩) hS.2.2 d_Maker_linkPartBytes_25

theorem d_Maker_identify_0 : decode b_Maker_identify 0 = .ok (.aload_n 0, 1) := by decide +kernel
theorem d_Maker_identify_1 : decode b_Maker_identify 1 = .ok (.getfield 35, 3) := by decide +kernel
theorem d_Maker_identify_4 : decode b_Maker_identify 4 = .ok (.iconst 0, 1) := by decide +kernel
theorem d_Maker_identify_5 : decode b_Maker_identify 5 = .ok (.invokevirtual 190, 3) := by decide +kernel
theorem d_Maker_identify_8 : decode b_Maker_identify 8 = .ok (.iload_n 3, 1) := by decide +kernel
theorem d_Maker_identify_9 : decode b_Maker_identify 9 = .ok (.iconst 2, 1) := by decide +kernel
theorem d_Maker_identify_10 : decode b_Maker_identify 10 = .ok (.if_icmp .eq 22, 3) := by decide +kernel
theorem d_Maker_identify_13 : decode b_Maker_identify 13 = .ok (.aload_n 0, 1) := by decide +kernel
theorem d_Maker_identify_14 : decode b_Maker_identify 14 = .ok (.getfield 35, 3) := by decide +kernel
theorem d_Maker_identify_17 : decode b_Maker_identify 17 = .ok (.aload_n 0, 1) := by decide +kernel
theorem d_Maker_identify_18 : decode b_Maker_identify 18 = .ok (.getfield 35, 3) := by decide +kernel
theorem d_Maker_identify_21 : decode b_Maker_identify 21 = .ok (.iconst 1, 1) := by decide +kernel
theorem d_Maker_identify_22 : decode b_Maker_identify 22 = .ok (.invokevirtual 193, 3) := by decide +kernel
theorem d_Maker_identify_25 : decode b_Maker_identify 25 = .ok (.iload_n 3, 1) := by decide +kernel
theorem d_Maker_identify_26 : decode b_Maker_identify 26 = .ok (.invokevirtual 196, 3) := by decide +kernel
theorem d_Maker_identify_29 : decode b_Maker_identify 29 = .ok (.goto 29, 3) := by decide +kernel
theorem d_Maker_identify_32 : decode b_Maker_identify 32 = .ok (.aload_n 1, 1) := by decide +kernel
theorem d_Maker_identify_33 : decode b_Maker_identify 33 = .ok (.getfield 162, 3) := by decide +kernel
theorem d_Maker_identify_36 : decode b_Maker_identify 36 = .ok (.ifCond .eq 14, 3) := by decide +kernel
theorem d_Maker_identify_39 : decode b_Maker_identify 39 = .ok (.aload_n 2, 1) := by decide +kernel
theorem d_Maker_identify_40 : decode b_Maker_identify 40 = .ok (.aload_n 0, 1) := by decide +kernel
theorem d_Maker_identify_41 : decode b_Maker_identify 41 = .ok (.getfield 35, 3) := by decide +kernel
theorem d_Maker_identify_44 : decode b_Maker_identify 44 = .ok (.invokevirtual 199, 3) := by decide +kernel
theorem d_Maker_identify_47 : decode b_Maker_identify 47 = .ok (.goto 11, 3) := by decide +kernel
theorem d_Maker_identify_50 : decode b_Maker_identify 50 = .ok (.aload_n 2, 1) := by decide +kernel
theorem d_Maker_identify_51 : decode b_Maker_identify 51 = .ok (.aload_n 0, 1) := by decide +kernel
theorem d_Maker_identify_52 : decode b_Maker_identify 52 = .ok (.getfield 35, 3) := by decide +kernel
theorem d_Maker_identify_55 : decode b_Maker_identify 55 = .ok (.invokevirtual 203, 3) := by decide +kernel
theorem d_Maker_identify_58 : decode b_Maker_identify 58 = .ok (.return_, 1) := by decide +kernel
set_option maxHeartbeats 4000000 in
set_option maxRecDepth 100000 in
theorem c3_Maker_identify (l : Launch) (D : va_G) (cB cI cJ cZ cN cF : ClassId) (sz : Nat) (m0 : Nat) (tr : Nat) (im : Nat) (fi : Nat) (se : Nat) (u0 : Nat) (id : Nat) (ct : Nat) (ra : Int32) (ru : Int32) (wg : Int32) (l0 : Nat) (lo : Nat) (lp : Nat) (lt : Nat) (lb : Nat) (le : Nat) (ln : Int32) (lds : Int32) (ltb : Int32) (lc : Int32) (ld : Int32) (jq : Nat) (il : Int32) (jf : Nat → Int32) (h0 : Nat) (kna : Nat) (kke : Nat) (kta : Nat) (so : Int32) (nu : Int32) (pa : Int32) (ab : Int32) (mo : Int32) (ow : Int32) (gr : Int32) (si : Int32) (sd : Int32) (l1 : Nat) (c1 : Nat → Int32) (c2 : Nat → Int32) (x : Int32) (hl1 : l1 ≤ 400) : Met l y_Maker_identify w_Maker_identify ({ frames := 3, cells := 0, slots := 0, locals := 87 }) (va_Pc [.ref m0, .ref l0, .ref h0, .int x] (fun U => U.heap.size = sz ∧ va_P D CL [(m0, .inr (4, [.ref tr, .ref im, .ref fi, .ref se, .ref u0, .ref id, .ref ct, .int ra, .int ru, .int wg])), (l0, .inr (3, [.int ln, .int lds, .int ltb, .ref lo, .ref lp, .ref lt, .ref lb, .ref le, .int lc, .int ld])), (id, .inr (1, [.ref jq, .int il])), (jq, .inl (cB, 60, .inl jf))] U.heap ∧ va_K D CL (TY cB cI cJ cZ cN cF) U ∧ NN U ∧ va_D (fun _ => True) [(m0, .inr (4, [.ref tr, .ref im, .ref fi, .ref se, .ref u0, .ref id, .ref ct, .int ra, .int ru, .int wg])), (l0, .inr (3, [.int ln, .int lds, .int ltb, .ref lo, .ref lp, .ref lt, .ref lb, .ref le, .int lc, .int ld])), (id, .inr (1, [.ref jq, .int il])), (jq, .inl (cB, 60, .inl jf))] ∧ RO D [(h0, .inr (5, [.int so, .ref kna, .ref kke, .ref kta, .int nu, .int pa, .int ab, .int mo, .int ow, .int gr, .int si, .int sd])), (kna, .inl (cB, l1, .inl c1)), (kke, .inl (cB, 11, .inl c2))] (va_A [(m0, .inr (4, [.ref tr, .ref im, .ref fi, .ref se, .ref u0, .ref id, .ref ct, .int ra, .int ru, .int wg])), (l0, .inr (3, [.int ln, .int lds, .int ltb, .ref lo, .ref lp, .ref lt, .ref lb, .ref le, .int lc, .int ld])), (id, .inr (1, [.ref jq, .int il])), (jq, .inl (cB, 60, .inl jf))] sz) U U.heap)) (va_Qv (fun (u : Int32 × (Nat → Int32)) => match u with | (il2, g) => (0 ≤ il2.toInt ∧ il2.toInt ≤ 60)) (fun (u : Int32 × (Nat → Int32)) (t : State) => match u with | (il2, g) => va_P D CL [(m0, .inr (4, [.ref tr, .ref im, .ref fi, .ref se, .ref u0, .ref id, .ref ct, .int ra, .int ru, .int wg])), (l0, .inr (3, [.int ln, .int lds, .int ltb, .ref lo, .ref lp, .ref lt, .ref lb, .ref le, .int lc, .int ld])), (id, .inr (1, [.ref jq, .int il2])), (jq, .inl (cB, 60, .inl g))] t.heap ∧ va_D (va_A [(m0, .inr (4, [.ref tr, .ref im, .ref fi, .ref se, .ref u0, .ref id, .ref ct, .int ra, .int ru, .int wg])), (l0, .inr (3, [.int ln, .int lds, .int ltb, .ref lo, .ref lp, .ref lt, .ref lb, .ref le, .int lc, .int ld])), (id, .inr (1, [.ref jq, .int il])), (jq, .inl (cB, 60, .inl jf))] sz) [(m0, .inr (4, [.ref tr, .ref im, .ref fi, .ref se, .ref u0, .ref id, .ref ct, .int ra, .int ru, .int wg])), (l0, .inr (3, [.int ln, .int lds, .int ltb, .ref lo, .ref lp, .ref lt, .ref lb, .ref le, .int lc, .int ld])), (id, .inr (1, [.ref jq, .int il2])), (jq, .inl (cB, 60, .inl g))]) (va_A [(m0, .inr (4, [.ref tr, .ref im, .ref fi, .ref se, .ref u0, .ref id, .ref ct, .int ra, .int ru, .int wg])), (l0, .inr (3, [.int ln, .int lds, .int ltb, .ref lo, .ref lp, .ref lt, .ref lb, .ref le, .int lc, .int ld])), (id, .inr (1, [.ref jq, .int il])), (jq, .inl (cB, 60, .inl jf))] sz)) 0 0 (va_A [(m0, .inr (4, [.ref tr, .ref im, .ref fi, .ref se, .ref u0, .ref id, .ref ct, .int ra, .int ru, .int wg])), (l0, .inr (3, [.int ln, .int lds, .int ltb, .ref lo, .ref lp, .ref lt, .ref lb, .ref le, .int lc, .int ld])), (id, .inr (1, [.ref jq, .int il])), (jq, .inl (cB, 60, .inl jf))] sz) := by
  refine Met.ofW (cc := b_Maker_identify) (maxL := 4) (ret := none) (by decide +kernel) rfl ?_
  intro p e s m args below meth c s₁ B hml hv
  obtain ⟨rfl, hsz, hP, hK, hN, hD0, hZr⟩ := hv
  have hx := B.exec
  have hb := B.bytes
  have hr := B.returns
  have hts := atoms_spec (ws := w_Maker_identify) B.pre
  have ht9 := fun (w : Cond) (h : w ∈ lw_g) => hts w (List.mem_cons_of_mem _ h)
  have hown : s.vm.findClass "DiscMaker$Maker" = some m.cls := findClass_of_methodNamed B.named
  have hlocks := B.notSynchronized
  subst hsz
  have hD := hD0.self (sz := s.heap.size)
  generalize hAe : va_A [(m0, .inr (4, [.ref tr, .ref im, .ref fi, .ref se, .ref u0, .ref id, .ref ct, .int ra, .int ru, .int wg])), (l0, .inr (3, [.int ln, .int lds, .int ltb, .ref lo, .ref lp, .ref lt, .ref lb, .ref le, .int lc, .int ld])), (id, .inr (1, [.ref jq, .int il])), (jq, .inl (cB, 60, .inl jf))] s.heap.size = A at hD hZr ⊢
  have hA : ∀ q : Nat, s.heap.size ≤ q → A q := fun q h => by rw [← hAe]; exact Or.inr h
  have hS : va_S A s.heap s.heap [] := va_S.rf
  have hP : va_P D CL [(m0, .inr (4, [.ref tr, .ref im, .ref fi, .ref se, .ref u0, .ref id, .ref ct, .int ra, .int ru, .int wg])), (l0, .inr (3, [.int ln, .int lds, .int ltb, .ref lo, .ref lp, .ref lt, .ref lb, .ref le, .int lc, .int ld])), (id, .inr (1, [.ref jq, .int il])), (jq, .inl (cB, 60, .inl jf))] s.heap := hP
  have hl := lv_entry [.ref m0, .ref l0, .ref h0, .int x] (n := 4) (Nat.le_of_ble_eq_true rfl)
  rw [lg_entry_eq]
  generalize (lg_sl [.ref m0, .ref l0, .ref h0, .int x] ++ List.replicate (4 - (lg_sl [.ref m0, .ref l0, .ref h0, .int x]).length) Slot.unset).toArray = ls at hl ⊢
  have hl : lv_has ls 4 [(0, .ref m0), (1, .ref l0), (2, .ref h0), (3, .int x)] := hl
  have L_m1 : ((-1) : Int32).toInt = (-1) := by decide
  have L_0 : (0 : Int32).toInt = 0 := by decide
  have L_1 : (1 : Int32).toInt = 1 := by decide
  have L_2 : (2 : Int32).toInt = 2 := by decide
  refine lv_aload_n hx hb d_Maker_identify_0 rfl (lv_at hl 0 rfl) ?_
  refine va_get (D := D) (ci := 4) (v := .ref id) (C := "DiscMaker$Maker") (T := F_Maker) (N := 10) hx hb ht9 in_Maker hown hK hP 0 rfl rfl 5 (by decide) (ht9 _ k352) (fun _ h9 => h9) rfl d_Maker_identify_1 ?_
  refine lv_iconst (v := 0) hx hb d_Maker_identify_4 (by decide) ?_
  have hPc := hP.sub (ws' := [(id, .inr (1, [.ref jq, .int il])), (jq, .inl (cB, 60, .inl jf))]) [2, 3] rfl
  have hDc := hD.sub (ws' := [(id, .inr (1, [.ref jq, .int il])), (jq, .inl (cB, 60, .inl jf))]) [2, 3] (by decide +kernel) rfl
  have hFc := va_free (wc := [(id, .inr (1, [.ref jq, .int il])), (jq, .inl (cB, 60, .inl jf))]) hD hS hA [2, 3] rfl
  have hkc : 0 ≤ 0 := by decide
  have hks : 0 ≤ 0 := by decide
  refine va_callv (va_runV (C := "DiscMaker$Bytes") (As := [.int 0]) (rest := []) ⟨hx, hb, hml, hown, hts⟩ (c3_shorten l D cB cI cJ cZ cN cF s.heap.size id jq 60 il jf 0) (cwV 1 hts (lg_goodV k976 k896 k897 k119 kc_Bytes_shorten) rfl rfl rfl (by decide +kernel) ⟨Nat.le_of_ble_eq_true rfl, Nat.le_of_ble_eq_true rfl⟩) ⟨fun a U g mk q => by obtain ⟨q0, q1, qP, qK, qN, qD⟩ := q; exact ⟨q0, q1, qP, va_K.moved (u := U) (U := U.calling g mk a) (Vm.Alike.refl U.vm) qK, qN.calling, qD⟩, va_recv hK hP (ci := 1) (q0 := 2) rfl rfl, fun U hU hW => ⟨rfl, by rw [hU], by rw [hU]; exact hPc, va_K.moved hW.alike hK, NN.warm hW hN, hDc.weaken (fun _ _ _ _ => trivial)⟩⟩ rfl rfl hl.1 rfl (lv_room (Nat.le_of_ble_eq_true rfl)) d_Maker_identify_5 ⟨hkc, hks⟩) hS (fun q _ h => hFc q h) hFc (fun u t H1 locs ht hvm hp_r1 hB hz1 hk1 hS => ?_)
  obtain ⟨hP1, hD1⟩ := hB
  rw [ht] at hP1
  obtain ⟨hP, hD⟩ := va_join (wr := [(m0, .inr (4, [.ref tr, .ref im, .ref fi, .ref se, .ref u0, .ref id, .ref ct, .int ra, .int ru, .int wg])), (l0, .inr (3, [.int ln, .int lds, .int ltb, .ref lo, .ref lp, .ref lt, .ref lb, .ref le, .int lc, .int ld]))]) (w1 := [(id, .inr (1, [.ref jq, .int 0])), (jq, .inl (cB, 60, .inl jf))]) hP hD [2, 3] [0, 1] rfl rfl (by decide +kernel) (by decide +kernel) hk1 hFc hP1 hD1
  clear hPc hDc hFc hP1 hD1 hk1 hz1 hkc hks
  generalize H1 = H at hP hS ⊢
  have hP : va_P D CL [(m0, .inr (4, [.ref tr, .ref im, .ref fi, .ref se, .ref u0, .ref id, .ref ct, .int ra, .int ru, .int wg])), (l0, .inr (3, [.int ln, .int lds, .int ltb, .ref lo, .ref lp, .ref lt, .ref lb, .ref le, .int lc, .int ld])), (id, .inr (1, [.ref jq, .int 0])), (jq, .inl (cB, 60, .inl jf))] H := hP
  have hD : va_D A [(m0, .inr (4, [.ref tr, .ref im, .ref fi, .ref se, .ref u0, .ref id, .ref ct, .int ra, .int ru, .int wg])), (l0, .inr (3, [.int ln, .int lds, .int ltb, .ref lo, .ref lp, .ref lt, .ref lb, .ref le, .int lc, .int ld])), (id, .inr (1, [.ref jq, .int 0])), (jq, .inl (cB, 60, .inl jf))] := hD
  refine lv_iload_n hx hb d_Maker_identify_8 rfl (lv_at hl 3 rfl) ?_
  refine lv_iconst (v := 2) hx hb d_Maker_identify_9 (by decide) ?_
  refine lv_icmp_eq (tgt := 32) hx hb d_Maker_identify_10 (by decide) (fun h_9 => ?_) (fun h_9 => ?_)
  · skip
    have g10_7 : x.toInt = 2 := (i_eq rfl (by decide)).mp h_9
    refine lv_aload_n hx hb d_Maker_identify_32 rfl (lv_at hl 1 rfl) ?_
    refine va_getN (D := D) (ci := 3) (v := .int ln) (C := "DiscMaker$Layout") (T := F_Layout) (N := 10) hx hb ht9 in_Layout hown hK hP 1 rfl rfl 0 (by decide) (va_Nw.use rfl (hN _ k281)) (fun _ h9 => h9) rfl d_Maker_identify_33 ?_
    refine lv_if_eq (tgt := 50) hx hb d_Maker_identify_36 (by decide) (fun h_9 => ?_) (fun h_9 => ?_)
    · skip
      have g36_10 : ln.toInt = 0 := (i_eq rfl (by decide)).mp h_9
      refine lv_aload_n hx hb d_Maker_identify_50 rfl (lv_at hl 2 rfl) ?_
      refine lv_aload_n hx hb d_Maker_identify_51 rfl (lv_at hl 0 rfl) ?_
      refine va_get (D := D) (ci := 4) (v := .ref id) (C := "DiscMaker$Maker") (T := F_Maker) (N := 10) hx hb ht9 in_Maker hown hK hP 0 rfl rfl 5 (by decide) (ht9 _ k352) (fun _ h9 => h9) rfl d_Maker_identify_52 ?_
      have hPc := hP.sub (ws' := [(id, .inr (1, [.ref jq, .int 0])), (jq, .inl (cB, 60, .inl jf))]) [2, 3] rfl
      have hDc := hD.sub (ws' := [(id, .inr (1, [.ref jq, .int 0])), (jq, .inl (cB, 60, .inl jf))]) [2, 3] (by decide +kernel) rfl
      have hFc := va_free (wc := [(id, .inr (1, [.ref jq, .int 0])), (jq, .inl (cB, 60, .inl jf))]) hD hS hA [2, 3] rfl
      have hPR := RO_at hZr hS
      have hkc : 0 ≤ 0 := by decide
      have hks : 0 ≤ 0 := by decide
      refine va_callv (va_runV (C := "DiscMaker$Node") (As := [.ref id]) (rest := []) ⟨hx, hb, hml, hown, hts⟩ (c3_addShortTo l D cB cI cJ cZ cN cF H.size h0 kna kke kta so nu pa ab mo ow gr si sd c2 id jq 60 0 jf (by (try dsimp only); first | assumption | omega | trivial) (by (try dsimp only); first | assumption | omega | trivial)) (cwV 1 hts (lg_goodV k989 k990 k991 k118 kc_Node_addShortTo) rfl rfl rfl (by decide +kernel) ⟨Nat.le_of_ble_eq_true rfl, Nat.le_of_ble_eq_true rfl⟩) ⟨fun a U g mk q => by obtain ⟨q0, q1, qP, qK, qN, qD, qZ0⟩ := q; exact ⟨q0, q1, qP, va_K.moved (u := U) (U := U.calling g mk a) (Vm.Alike.refl U.vm) qK, qN.calling, qD, RO_blind qZ0⟩, va_recv hK hPR (ci := 5) (q0 := 0) rfl rfl, fun U hU hW => ⟨rfl, by rw [hU], by rw [hU]; exact hPc, va_K.moved hW.alike hK, NN.warm hW hN, hDc.weaken (fun _ _ _ _ => trivial), (RO_app (w1 := [(h0, .inr (5, [.int so, .ref kna, .ref kke, .ref kta, .int nu, .int pa, .int ab, .int mo, .int ow, .int gr, .int si, .int sd]))]) (w2 := [(kke, .inl (cB, 11, .inl c2))]) (RO_pass (RO_one hZr 0 rfl) hS hFc hU) (RO_pass (RO_one hZr 2 rfl) hS hFc hU))⟩⟩ rfl rfl hl.1 rfl (lv_room (Nat.le_of_ble_eq_true rfl)) d_Maker_identify_55 ⟨hkc, hks⟩) hS (fun q _ h => hFc q h) hFc (fun u t H1 locs ht hvm hp_r2 hB hz1 hk1 hS => ?_)
      obtain ⟨L2_3, g_4⟩ := u
      obtain ⟨hP1, hD1⟩ := hB
      rw [ht] at hP1
      obtain ⟨hP, hD⟩ := va_join (wr := [(m0, .inr (4, [.ref tr, .ref im, .ref fi, .ref se, .ref u0, .ref id, .ref ct, .int ra, .int ru, .int wg])), (l0, .inr (3, [.int ln, .int lds, .int ltb, .ref lo, .ref lp, .ref lt, .ref lb, .ref le, .int lc, .int ld]))]) (w1 := [(id, .inr (1, [.ref jq, .int L2_3])), (jq, .inl (cB, 60, .inl g_4))]) hP hD [2, 3] [0, 1] rfl rfl (by decide +kernel) (by decide +kernel) hk1 hFc hP1 hD1
      clear hPc hDc hFc hP1 hD1 hk1 hz1 hkc hks
      generalize H1 = H at hP hS ⊢
      have hP : va_P D CL [(m0, .inr (4, [.ref tr, .ref im, .ref fi, .ref se, .ref u0, .ref id, .ref ct, .int ra, .int ru, .int wg])), (l0, .inr (3, [.int ln, .int lds, .int ltb, .ref lo, .ref lp, .ref lt, .ref lb, .ref le, .int lc, .int ld])), (id, .inr (1, [.ref jq, .int L2_3])), (jq, .inl (cB, 60, .inl g_4))] H := hP
      have hD : va_D A [(m0, .inr (4, [.ref tr, .ref im, .ref fi, .ref se, .ref u0, .ref id, .ref ct, .int ra, .int ru, .int wg])), (l0, .inr (3, [.int ln, .int lds, .int ltb, .ref lo, .ref lp, .ref lt, .ref lb, .ref le, .int lc, .int ld])), (id, .inr (1, [.ref jq, .int L2_3])), (jq, .inl (cB, 60, .inl g_4))] := hD
      try dsimp only at hp_r2
      have hL2_5 := hp_r2
      have hP9 := hP.sub (ws' := [(m0, .inr (4, [.ref tr, .ref im, .ref fi, .ref se, .ref u0, .ref id, .ref ct, .int ra, .int ru, .int wg])), (l0, .inr (3, [.int ln, .int lds, .int ltb, .ref lo, .ref lp, .ref lt, .ref lb, .ref le, .int lc, .int ld])), (id, .inr (1, [.ref jq, .int L2_3])), (jq, .inl (cB, 60, .inl g_4))]) [0, 1, 2, 3] rfl
      have hD9 := hD.sub (ws' := [(m0, .inr (4, [.ref tr, .ref im, .ref fi, .ref se, .ref u0, .ref id, .ref ct, .int ra, .int ru, .int wg])), (l0, .inr (3, [.int ln, .int lds, .int ltb, .ref lo, .ref lp, .ref lt, .ref lb, .ref le, .int lc, .int ld])), (id, .inr (1, [.ref jq, .int L2_3])), (jq, .inl (cB, 60, .inl g_4))]) [0, 1, 2, 3] (by decide +kernel) rfl
      exact W.vret hx hb hr (fun t ht hW => ⟨⟨(L2_3, g_4), rfl, (by (try dsimp only); first | assumption | omega | trivial), by rw [ht]; exact hP9, hD9⟩, hS.F ht⟩) hS.2.2 d_Maker_identify_58
    · skip
      have g36_10 : ¬ ln.toInt = 0 := fun h8 => h_9 ((i_eq rfl (by decide)).mpr h8)
      refine lv_aload_n hx hb d_Maker_identify_39 rfl (lv_at hl 2 rfl) ?_
      refine lv_aload_n hx hb d_Maker_identify_40 rfl (lv_at hl 0 rfl) ?_
      refine va_get (D := D) (ci := 4) (v := .ref id) (C := "DiscMaker$Maker") (T := F_Maker) (N := 10) hx hb ht9 in_Maker hown hK hP 0 rfl rfl 5 (by decide) (ht9 _ k352) (fun _ h9 => h9) rfl d_Maker_identify_41 ?_
      have hPc := hP.sub (ws' := [(id, .inr (1, [.ref jq, .int 0])), (jq, .inl (cB, 60, .inl jf))]) [2, 3] rfl
      have hDc := hD.sub (ws' := [(id, .inr (1, [.ref jq, .int 0])), (jq, .inl (cB, 60, .inl jf))]) [2, 3] (by decide +kernel) rfl
      have hFc := va_free (wc := [(id, .inr (1, [.ref jq, .int 0])), (jq, .inl (cB, 60, .inl jf))]) hD hS hA [2, 3] rfl
      have hPR := RO_at hZr hS
      have hkc : 0 ≤ 0 := by decide
      have hks : 0 ≤ 0 := by decide
      refine va_callv (va_runV (C := "DiscMaker$Node") (As := [.ref id]) (rest := []) ⟨hx, hb, hml, hown, hts⟩ (c3_addLongTo l D cB cI cJ cZ cN cF H.size h0 kna kke kta so nu pa ab mo ow gr si sd l1 c1 id jq 60 0 jf (by (try dsimp only); first | assumption | omega | trivial) (by (try dsimp only); first | assumption | omega | trivial) (by (try dsimp only); first | assumption | omega | trivial)) (cwV 1 hts (lg_goodV k979 k980 k981 k118 kc_Node_addLongTo) rfl rfl rfl (by decide +kernel) ⟨Nat.le_of_ble_eq_true rfl, Nat.le_of_ble_eq_true rfl⟩) ⟨fun a U g mk q => by obtain ⟨q0, q1, qP, qK, qN, qD, qZ0⟩ := q; exact ⟨q0, q1, qP, va_K.moved (u := U) (U := U.calling g mk a) (Vm.Alike.refl U.vm) qK, qN.calling, qD, RO_blind qZ0⟩, va_recv hK hPR (ci := 5) (q0 := 0) rfl rfl, fun U hU hW => ⟨rfl, by rw [hU], by rw [hU]; exact hPc, va_K.moved hW.alike hK, NN.warm hW hN, hDc.weaken (fun _ _ _ _ => trivial), (RO_app (w1 := [(h0, .inr (5, [.int so, .ref kna, .ref kke, .ref kta, .int nu, .int pa, .int ab, .int mo, .int ow, .int gr, .int si, .int sd]))]) (w2 := [(kna, .inl (cB, l1, .inl c1))]) (RO_pass (RO_one hZr 0 rfl) hS hFc hU) (RO_pass (RO_one hZr 1 rfl) hS hFc hU))⟩⟩ rfl rfl hl.1 rfl (lv_room (Nat.le_of_ble_eq_true rfl)) d_Maker_identify_44 ⟨hkc, hks⟩) hS (fun q _ h => hFc q h) hFc (fun u t H1 locs ht hvm hp_r6 hB hz1 hk1 hS => ?_)
      obtain ⟨L2_7, g_8⟩ := u
      obtain ⟨hP1, hD1⟩ := hB
      rw [ht] at hP1
      obtain ⟨hP, hD⟩ := va_join (wr := [(m0, .inr (4, [.ref tr, .ref im, .ref fi, .ref se, .ref u0, .ref id, .ref ct, .int ra, .int ru, .int wg])), (l0, .inr (3, [.int ln, .int lds, .int ltb, .ref lo, .ref lp, .ref lt, .ref lb, .ref le, .int lc, .int ld]))]) (w1 := [(id, .inr (1, [.ref jq, .int L2_7])), (jq, .inl (cB, 60, .inl g_8))]) hP hD [2, 3] [0, 1] rfl rfl (by decide +kernel) (by decide +kernel) hk1 hFc hP1 hD1
      clear hPc hDc hFc hP1 hD1 hk1 hz1 hkc hks
      generalize H1 = H at hP hS ⊢
      have hP : va_P D CL [(m0, .inr (4, [.ref tr, .ref im, .ref fi, .ref se, .ref u0, .ref id, .ref ct, .int ra, .int ru, .int wg])), (l0, .inr (3, [.int ln, .int lds, .int ltb, .ref lo, .ref lp, .ref lt, .ref lb, .ref le, .int lc, .int ld])), (id, .inr (1, [.ref jq, .int L2_7])), (jq, .inl (cB, 60, .inl g_8))] H := hP
      have hD : va_D A [(m0, .inr (4, [.ref tr, .ref im, .ref fi, .ref se, .ref u0, .ref id, .ref ct, .int ra, .int ru, .int wg])), (l0, .inr (3, [.int ln, .int lds, .int ltb, .ref lo, .ref lp, .ref lt, .ref lb, .ref le, .int lc, .int ld])), (id, .inr (1, [.ref jq, .int L2_7])), (jq, .inl (cB, 60, .inl g_8))] := hD
      try dsimp only at hp_r6
      have hL2_9 := hp_r6
      refine lv_goto (tgt := 58) hx hb d_Maker_identify_47 (by decide) ?_
      have hP9 := hP.sub (ws' := [(m0, .inr (4, [.ref tr, .ref im, .ref fi, .ref se, .ref u0, .ref id, .ref ct, .int ra, .int ru, .int wg])), (l0, .inr (3, [.int ln, .int lds, .int ltb, .ref lo, .ref lp, .ref lt, .ref lb, .ref le, .int lc, .int ld])), (id, .inr (1, [.ref jq, .int L2_7])), (jq, .inl (cB, 60, .inl g_8))]) [0, 1, 2, 3] rfl
      have hD9 := hD.sub (ws' := [(m0, .inr (4, [.ref tr, .ref im, .ref fi, .ref se, .ref u0, .ref id, .ref ct, .int ra, .int ru, .int wg])), (l0, .inr (3, [.int ln, .int lds, .int ltb, .ref lo, .ref lp, .ref lt, .ref lb, .ref le, .int lc, .int ld])), (id, .inr (1, [.ref jq, .int L2_7])), (jq, .inl (cB, 60, .inl g_8))]) [0, 1, 2, 3] (by decide +kernel) rfl
      exact W.vret hx hb hr (fun t ht hW => ⟨⟨(L2_7, g_8), rfl, (by (try dsimp only); first | assumption | omega | trivial), by rw [ht]; exact hP9, hD9⟩, hS.F ht⟩) hS.2.2 d_Maker_identify_58
  · skip
    have g10_7 : ¬ x.toInt = 2 := fun h8 => h_9 ((i_eq rfl (by decide)).mpr h8)
    refine lv_aload_n hx hb d_Maker_identify_13 rfl (lv_at hl 0 rfl) ?_
    refine va_get (D := D) (ci := 4) (v := .ref id) (C := "DiscMaker$Maker") (T := F_Maker) (N := 10) hx hb ht9 in_Maker hown hK hP 0 rfl rfl 5 (by decide) (ht9 _ k352) (fun _ h9 => h9) rfl d_Maker_identify_14 ?_
    refine lv_aload_n hx hb d_Maker_identify_17 rfl (lv_at hl 0 rfl) ?_
    refine va_get (D := D) (ci := 4) (v := .ref id) (C := "DiscMaker$Maker") (T := F_Maker) (N := 10) hx hb ht9 in_Maker hown hK hP 0 rfl rfl 5 (by decide) (ht9 _ k352) (fun _ h9 => h9) rfl d_Maker_identify_18 ?_
    refine lv_iconst (v := 1) hx hb d_Maker_identify_21 (by decide) ?_
    have hPc := hP.sub (ws' := [(id, .inr (1, [.ref jq, .int 0])), (jq, .inl (cB, 60, .inl jf))]) [2, 3] rfl
    have hDc := hD.sub (ws' := [(id, .inr (1, [.ref jq, .int 0])), (jq, .inl (cB, 60, .inl jf))]) [2, 3] (by decide +kernel) rfl
    have hFc := va_free (wc := [(id, .inr (1, [.ref jq, .int 0])), (jq, .inl (cB, 60, .inl jf))]) hD hS hA [2, 3] rfl
    have hkc : 0 ≤ 0 := by decide
    have hks : 0 ≤ 0 := by decide
    refine va_calli (va_runV (C := "DiscMaker$Bytes") (As := [.int 1]) (rest := [.ref id]) ⟨hx, hb, hml, hown, hts⟩ (c3_extend l D cB cI cJ cZ cN cF H.size id jq 60 0 jf 1 (by (try dsimp only); first | assumption | omega | trivial) (by (try dsimp only); first | assumption | omega | trivial) (by (try dsimp only); first | assumption | omega | trivial)) (cwV 1 hts (lg_goodV k977 k908 k909 k119 kc_Bytes_extend) rfl rfl rfl (by decide +kernel) ⟨Nat.le_of_ble_eq_true rfl, Nat.le_of_ble_eq_true rfl⟩) ⟨fun a U g mk q => by obtain ⟨q0, q1, qP, qK, qN, qD⟩ := q; exact ⟨q0, q1, qP, va_K.moved (u := U) (U := U.calling g mk a) (Vm.Alike.refl U.vm) qK, qN.calling, qD⟩, va_recv hK hP (ci := 1) (q0 := 2) rfl rfl, fun U hU hW => ⟨rfl, by rw [hU], by rw [hU]; exact hPc, va_K.moved hW.alike hK, NN.warm hW hN, hDc.weaken (fun _ _ _ _ => trivial)⟩⟩ rfl rfl hl.1 rfl (lv_room (Nat.le_of_ble_eq_true rfl)) d_Maker_identify_22 ⟨hkc, hks⟩) hS (fun q _ h => hFc q h) hFc (fun r10 u t H1 locs ht hvm hp_r10 hB hz1 hk1 hS => ?_)
    obtain ⟨L2_11, g_12⟩ := u
    obtain ⟨hP1, hD1⟩ := hB
    rw [ht] at hP1
    obtain ⟨hP, hD⟩ := va_join (wr := [(m0, .inr (4, [.ref tr, .ref im, .ref fi, .ref se, .ref u0, .ref id, .ref ct, .int ra, .int ru, .int wg])), (l0, .inr (3, [.int ln, .int lds, .int ltb, .ref lo, .ref lp, .ref lt, .ref lb, .ref le, .int lc, .int ld]))]) (w1 := [(id, .inr (1, [.ref jq, .int L2_11])), (jq, .inl (cB, 60, .inl g_12))]) hP hD [2, 3] [0, 1] rfl rfl (by decide +kernel) (by decide +kernel) hk1 hFc hP1 hD1
    clear hPc hDc hFc hP1 hD1 hk1 hz1 hkc hks
    generalize H1 = H at hP hS ⊢
    have hP : va_P D CL [(m0, .inr (4, [.ref tr, .ref im, .ref fi, .ref se, .ref u0, .ref id, .ref ct, .int ra, .int ru, .int wg])), (l0, .inr (3, [.int ln, .int lds, .int ltb, .ref lo, .ref lp, .ref lt, .ref lb, .ref le, .int lc, .int ld])), (id, .inr (1, [.ref jq, .int L2_11])), (jq, .inl (cB, 60, .inl g_12))] H := hP
    have hD : va_D A [(m0, .inr (4, [.ref tr, .ref im, .ref fi, .ref se, .ref u0, .ref id, .ref ct, .int ra, .int ru, .int wg])), (l0, .inr (3, [.int ln, .int lds, .int ltb, .ref lo, .ref lp, .ref lt, .ref lb, .ref le, .int lc, .int ld])), (id, .inr (1, [.ref jq, .int L2_11])), (jq, .inl (cB, 60, .inl g_12))] := hD
    try dsimp only at hp_r10
    obtain ⟨hv_13, hE_14⟩ := hp_r10
    try rw [L_0] at hE_14
    try rw [L_1] at hE_14
    refine lv_iload_n hx hb d_Maker_identify_25 rfl (lv_at hl 3 rfl) ?_
    have hPc := hP.sub (ws' := [(id, .inr (1, [.ref jq, .int L2_11])), (jq, .inl (cB, 60, .inl g_12))]) [2, 3] rfl
    have hDc := hD.sub (ws' := [(id, .inr (1, [.ref jq, .int L2_11])), (jq, .inl (cB, 60, .inl g_12))]) [2, 3] (by decide +kernel) rfl
    have hFc := va_free (wc := [(id, .inr (1, [.ref jq, .int L2_11])), (jq, .inl (cB, 60, .inl g_12))]) hD hS hA [2, 3] rfl
    have hkc : 0 ≤ 0 := by decide
    have hks : 0 ≤ 0 := by decide
    refine va_callv (va_runV (C := "DiscMaker$Bytes") (As := [.int r10, .int x]) (rest := []) ⟨hx, hb, hml, hown, hts⟩ (c3_put l D cB cI cJ cZ cN cF H.size id jq 60 L2_11 g_12 r10 x (by (try dsimp only); first | assumption | omega | trivial) (by (try dsimp only); first | assumption | omega | trivial)) (cwV 2 hts (lg_goodV k978 k912 k913 k119 kc_Bytes_put) rfl rfl rfl (by decide +kernel) ⟨Nat.le_of_ble_eq_true rfl, Nat.le_of_ble_eq_true rfl⟩) ⟨fun a U g mk q => by obtain ⟨q0, q1, qP, qK, qN, qD⟩ := q; exact ⟨q0, q1, qP, va_K.moved (u := U) (U := U.calling g mk a) (Vm.Alike.refl U.vm) qK, qN.calling, qD⟩, va_recv hK hP (ci := 1) (q0 := 2) rfl rfl, fun U hU hW => ⟨rfl, by rw [hU], by rw [hU]; exact hPc, va_K.moved hW.alike hK, NN.warm hW hN, hDc.weaken (fun _ _ _ _ => trivial)⟩⟩ rfl rfl hl.1 rfl (lv_room (Nat.le_of_ble_eq_true rfl)) d_Maker_identify_26 ⟨hkc, hks⟩) hS (fun q _ h => hFc q h) hFc (fun u t H1 locs ht hvm hp_r15 hB hz1 hk1 hS => ?_)
    obtain ⟨g_16, rfl⟩ : ∃ z, z = u := ⟨_, rfl⟩
    obtain ⟨hP1, hD1⟩ := hB
    rw [ht] at hP1
    obtain ⟨hP, hD⟩ := va_join (wr := [(m0, .inr (4, [.ref tr, .ref im, .ref fi, .ref se, .ref u0, .ref id, .ref ct, .int ra, .int ru, .int wg])), (l0, .inr (3, [.int ln, .int lds, .int ltb, .ref lo, .ref lp, .ref lt, .ref lb, .ref le, .int lc, .int ld]))]) (w1 := [(id, .inr (1, [.ref jq, .int L2_11])), (jq, .inl (cB, 60, .inl g_16))]) hP hD [2, 3] [0, 1] rfl rfl (by decide +kernel) (by decide +kernel) hk1 hFc hP1 hD1
    clear hPc hDc hFc hP1 hD1 hk1 hz1 hkc hks
    generalize H1 = H at hP hS ⊢
    have hP : va_P D CL [(m0, .inr (4, [.ref tr, .ref im, .ref fi, .ref se, .ref u0, .ref id, .ref ct, .int ra, .int ru, .int wg])), (l0, .inr (3, [.int ln, .int lds, .int ltb, .ref lo, .ref lp, .ref lt, .ref lb, .ref le, .int lc, .int ld])), (id, .inr (1, [.ref jq, .int L2_11])), (jq, .inl (cB, 60, .inl g_16))] H := hP
    have hD : va_D A [(m0, .inr (4, [.ref tr, .ref im, .ref fi, .ref se, .ref u0, .ref id, .ref ct, .int ra, .int ru, .int wg])), (l0, .inr (3, [.int ln, .int lds, .int ltb, .ref lo, .ref lp, .ref lt, .ref lb, .ref le, .int lc, .int ld])), (id, .inr (1, [.ref jq, .int L2_11])), (jq, .inl (cB, 60, .inl g_16))] := hD
    refine lv_goto (tgt := 58) hx hb d_Maker_identify_29 (by decide) ?_
    have hP9 := hP.sub (ws' := [(m0, .inr (4, [.ref tr, .ref im, .ref fi, .ref se, .ref u0, .ref id, .ref ct, .int ra, .int ru, .int wg])), (l0, .inr (3, [.int ln, .int lds, .int ltb, .ref lo, .ref lp, .ref lt, .ref lb, .ref le, .int lc, .int ld])), (id, .inr (1, [.ref jq, .int L2_11])), (jq, .inl (cB, 60, .inl g_16))]) [0, 1, 2, 3] rfl
    have hD9 := hD.sub (ws' := [(m0, .inr (4, [.ref tr, .ref im, .ref fi, .ref se, .ref u0, .ref id, .ref ct, .int ra, .int ru, .int wg])), (l0, .inr (3, [.int ln, .int lds, .int ltb, .ref lo, .ref lp, .ref lt, .ref lb, .ref le, .int lc, .int ld])), (id, .inr (1, [.ref jq, .int L2_11])), (jq, .inl (cB, 60, .inl g_16))]) [0, 1, 2, 3] (by decide +kernel) rfl
    exact W.vret hx hb hr (fun t ht hW => ⟨⟨(L2_11, g_16), rfl, (by (try dsimp only); first | assumption | omega | trivial), by rw [ht]; exact hP9, hD9⟩, hS.F ht⟩) hS.2.2 d_Maker_identify_58

theorem d_Maker_buildParts_0 : decode b_Maker_buildParts 0 = .ok (.iload_n 2, 1) := by decide +kernel
theorem d_Maker_buildParts_1 : decode b_Maker_buildParts 1 = .ok (.ifCond .ne 17, 3) := by decide +kernel
theorem d_Maker_buildParts_4 : decode b_Maker_buildParts 4 = .ok (.aload_n 1, 1) := by decide +kernel
theorem d_Maker_buildParts_5 : decode b_Maker_buildParts 5 = .ok (.getfield 134, 3) := by decide +kernel
theorem d_Maker_buildParts_8 : decode b_Maker_buildParts 8 = .ok (.ifCond .ne 10, 3) := by decide +kernel
theorem d_Maker_buildParts_11 : decode b_Maker_buildParts 11 = .ok (.aload_n 0, 1) := by decide +kernel
theorem d_Maker_buildParts_12 : decode b_Maker_buildParts 12 = .ok (.getfield 26, 3) := by decide +kernel
theorem d_Maker_buildParts_15 : decode b_Maker_buildParts 15 = .ok (.invokevirtual 206, 3) := by decide +kernel
theorem d_Maker_buildParts_18 : decode b_Maker_buildParts 18 = .ok (.aload_n 0, 1) := by decide +kernel
theorem d_Maker_buildParts_19 : decode b_Maker_buildParts 19 = .ok (.getfield 26, 3) := by decide +kernel
theorem d_Maker_buildParts_22 : decode b_Maker_buildParts 22 = .ok (.aload_n 1, 1) := by decide +kernel
theorem d_Maker_buildParts_23 : decode b_Maker_buildParts 23 = .ok (.aload_n 1, 1) := by decide +kernel
theorem d_Maker_buildParts_24 : decode b_Maker_buildParts 24 = .ok (.getfield 150, 3) := by decide +kernel
theorem d_Maker_buildParts_27 : decode b_Maker_buildParts 27 = .ok (.ifCond .ne 19, 3) := by decide +kernel
theorem d_Maker_buildParts_30 : decode b_Maker_buildParts 30 = .ok (.aload_n 0, 1) := by decide +kernel
theorem d_Maker_buildParts_31 : decode b_Maker_buildParts 31 = .ok (.getfield 43, 3) := by decide +kernel
theorem d_Maker_buildParts_34 : decode b_Maker_buildParts 34 = .ok (.aload_n 1, 1) := by decide +kernel
theorem d_Maker_buildParts_35 : decode b_Maker_buildParts 35 = .ok (.getfield 134, 3) := by decide +kernel
theorem d_Maker_buildParts_38 : decode b_Maker_buildParts 38 = .ok (.invokevirtual 209, 3) := by decide +kernel
theorem d_Maker_buildParts_41 : decode b_Maker_buildParts 41 = .ok (.iconst 2, 1) := by decide +kernel
theorem d_Maker_buildParts_42 : decode b_Maker_buildParts 42 = .ok (.iadd, 1) := by decide +kernel
theorem d_Maker_buildParts_43 : decode b_Maker_buildParts 43 = .ok (.goto 4, 3) := by decide +kernel
theorem d_Maker_buildParts_46 : decode b_Maker_buildParts 46 = .ok (.iconst 1, 1) := by decide +kernel
theorem d_Maker_buildParts_47 : decode b_Maker_buildParts 47 = .ok (.invokevirtual 212, 3) := by decide +kernel
theorem d_Maker_buildParts_50 : decode b_Maker_buildParts 50 = .ok (.iload_n 2, 1) := by decide +kernel
theorem d_Maker_buildParts_51 : decode b_Maker_buildParts 51 = .ok (.iconst 2, 1) := by decide +kernel
theorem d_Maker_buildParts_52 : decode b_Maker_buildParts 52 = .ok (.if_icmp .ne 14, 3) := by decide +kernel
theorem d_Maker_buildParts_55 : decode b_Maker_buildParts 55 = .ok (.aload_n 0, 1) := by decide +kernel
theorem d_Maker_buildParts_56 : decode b_Maker_buildParts 56 = .ok (.getfield 26, 3) := by decide +kernel
theorem d_Maker_buildParts_59 : decode b_Maker_buildParts 59 = .ok (.aload_n 1, 1) := by decide +kernel
theorem d_Maker_buildParts_60 : decode b_Maker_buildParts 60 = .ok (.getfield 215, 3) := by decide +kernel
theorem d_Maker_buildParts_63 : decode b_Maker_buildParts 63 = .ok (.invokevirtual 219, 3) := by decide +kernel
theorem d_Maker_buildParts_66 : decode b_Maker_buildParts 66 = .ok (.aload_n 1, 1) := by decide +kernel
theorem d_Maker_buildParts_67 : decode b_Maker_buildParts 67 = .ok (.getfield 150, 3) := by decide +kernel
theorem d_Maker_buildParts_70 : decode b_Maker_buildParts 70 = .ok (.iconst 2, 1) := by decide +kernel
theorem d_Maker_buildParts_71 : decode b_Maker_buildParts 71 = .ok (.if_icmp .ne 14, 3) := by decide +kernel
theorem d_Maker_buildParts_74 : decode b_Maker_buildParts 74 = .ok (.aload_n 0, 1) := by decide +kernel
theorem d_Maker_buildParts_75 : decode b_Maker_buildParts 75 = .ok (.getfield 26, 3) := by decide +kernel
theorem d_Maker_buildParts_78 : decode b_Maker_buildParts 78 = .ok (.aload_n 1, 1) := by decide +kernel
theorem d_Maker_buildParts_79 : decode b_Maker_buildParts 79 = .ok (.getfield 222, 3) := by decide +kernel
theorem d_Maker_buildParts_82 : decode b_Maker_buildParts 82 = .ok (.invokevirtual 53, 3) := by decide +kernel
theorem d_Maker_buildParts_85 : decode b_Maker_buildParts 85 = .ok (.return_, 1) := by decide +kernel
set_option maxHeartbeats 4000000 in
set_option maxRecDepth 100000 in
theorem c3_buildParts (l : Launch) (D : va_G) (cB cI cJ cZ cN cF : ClassId) (sz : Nat) (m0 : Nat) (tr : Nat) (im : Nat) (fi : Nat) (se : Nat) (u0 : Nat) (id : Nat) (ct : Nat) (ra : Int32) (ru : Int32) (wg : Int32) (pb : Nat) (pq : Nat) (en : Nat) (uc : Int32) (uk : Int32) (pL : Int32) (pf : Nat → Int32) (ef : Nat → Int32) (ta : Nat) (cn : Int32) (dr : Int32) (na : Nat → Nat → Nat) (ng : Nat → Nat → Int32) (nn : Nat → Nat → Nat) (nf : Nat → Nat → Nat → Int32) (cm : Nat) (h0 : Nat) (kna : Nat) (kke : Nat) (kta : Nat) (so : Int32) (nu : Int32) (pa : Int32) (ab : Int32) (mo : Int32) (ow : Int32) (gr : Int32) (si : Int32) (sd : Int32) (l1 : Nat) (c1 : Nat → Int32) (l3 : Nat) (c3 : Nat → Int32) (x : Int32) (hPL : 0 ≤ pL.toInt ∧ pL.toInt ≤ 400) (huc : 0 ≤ uc.toInt ∧ uc.toInt ≤ 4) (hen : EnOK uc.toInt pL.toInt ef) (hcn : cn.toInt = cm) (hcm : cm ≤ 40) (htok : TOK cm ng nn) (hl1 : l1 ≤ 400) (hl3 : l3 ≤ 400) : Met l y_Maker_buildParts w_Maker_buildParts ({ frames := 3, cells := 0, slots := 0, locals := 92 }) (va_Pc [.ref m0, .ref h0, .int x] (fun U => U.heap.size = sz ∧ va_P D CL [(m0, .inr (4, [.ref tr, .ref im, .ref fi, .ref se, .ref u0, .ref id, .ref ct, .int ra, .int ru, .int wg])), (u0, .inr (8, [.ref pb, .ref en, .int uc, .int uk])), (pb, .inr (1, [.ref pq, .int pL])), (pq, .inl (cB, 400, .inl pf)), (en, .inl (cI, 4, .inl ef))] U.heap ∧ va_K D CL (TY cB cI cJ cZ cN cF) U ∧ NN U ∧ va_D (fun _ => True) [(m0, .inr (4, [.ref tr, .ref im, .ref fi, .ref se, .ref u0, .ref id, .ref ct, .int ra, .int ru, .int wg])), (u0, .inr (8, [.ref pb, .ref en, .int uc, .int uk])), (pb, .inr (1, [.ref pq, .int pL])), (pq, .inl (cB, 400, .inl pf)), (en, .inl (cI, 4, .inl ef))] ∧ RO D (([(tr, .inr (10, [.ref ta, .int cn, .int dr])), (ta, .inl (cN, 40, .inr (.inr (.inr (.inr (rowF na cm)))))), (h0, .inr (5, [.int so, .ref kna, .ref kke, .ref kta, .int nu, .int pa, .int ab, .int mo, .int ow, .int gr, .int si, .int sd])), (kna, .inl (cB, l1, .inl c1)), (kta, .inl (cB, l3, .inl c3))] : va_W) ++ (PL (NC cB na ng nn nf) cm)) (va_A [(m0, .inr (4, [.ref tr, .ref im, .ref fi, .ref se, .ref u0, .ref id, .ref ct, .int ra, .int ru, .int wg])), (u0, .inr (8, [.ref pb, .ref en, .int uc, .int uk])), (pb, .inr (1, [.ref pq, .int pL])), (pq, .inl (cB, 400, .inl pf)), (en, .inl (cI, 4, .inl ef))] sz) U U.heap)) (va_Qv (fun (u : Int32 × Int32 × (Nat → Int32) × (Nat → Int32)) => match u with | (uc2, L2, g, ef2) => (0 ≤ L2.toInt ∧ L2.toInt ≤ 400) ∧ (0 ≤ uc2.toInt ∧ uc2.toInt ≤ 4) ∧ (EnOK uc2.toInt L2.toInt ef2)) (fun (u : Int32 × Int32 × (Nat → Int32) × (Nat → Int32)) (t : State) => match u with | (uc2, L2, g, ef2) => va_P D CL [(m0, .inr (4, [.ref tr, .ref im, .ref fi, .ref se, .ref u0, .ref id, .ref ct, .int ra, .int ru, .int wg])), (u0, .inr (8, [.ref pb, .ref en, .int uc2, .int uk])), (pb, .inr (1, [.ref pq, .int L2])), (pq, .inl (cB, 400, .inl g)), (en, .inl (cI, 4, .inl ef2))] t.heap ∧ va_D (va_A [(m0, .inr (4, [.ref tr, .ref im, .ref fi, .ref se, .ref u0, .ref id, .ref ct, .int ra, .int ru, .int wg])), (u0, .inr (8, [.ref pb, .ref en, .int uc, .int uk])), (pb, .inr (1, [.ref pq, .int pL])), (pq, .inl (cB, 400, .inl pf)), (en, .inl (cI, 4, .inl ef))] sz) [(m0, .inr (4, [.ref tr, .ref im, .ref fi, .ref se, .ref u0, .ref id, .ref ct, .int ra, .int ru, .int wg])), (u0, .inr (8, [.ref pb, .ref en, .int uc2, .int uk])), (pb, .inr (1, [.ref pq, .int L2])), (pq, .inl (cB, 400, .inl g)), (en, .inl (cI, 4, .inl ef2))]) (va_A [(m0, .inr (4, [.ref tr, .ref im, .ref fi, .ref se, .ref u0, .ref id, .ref ct, .int ra, .int ru, .int wg])), (u0, .inr (8, [.ref pb, .ref en, .int uc, .int uk])), (pb, .inr (1, [.ref pq, .int pL])), (pq, .inl (cB, 400, .inl pf)), (en, .inl (cI, 4, .inl ef))] sz)) 0 0 (va_A [(m0, .inr (4, [.ref tr, .ref im, .ref fi, .ref se, .ref u0, .ref id, .ref ct, .int ra, .int ru, .int wg])), (u0, .inr (8, [.ref pb, .ref en, .int uc, .int uk])), (pb, .inr (1, [.ref pq, .int pL])), (pq, .inl (cB, 400, .inl pf)), (en, .inl (cI, 4, .inl ef))] sz) := by
  refine Met.ofW (cc := b_Maker_buildParts) (maxL := 3) (ret := none) (by decide +kernel) rfl ?_
  intro p e s m args below meth c s₁ B hml hv
  obtain ⟨rfl, hsz, hP, hK, hN, hD0, hZr⟩ := hv
  have hx := B.exec
  have hb := B.bytes
  have hr := B.returns
  have hts := atoms_spec (ws := w_Maker_buildParts) B.pre
  have ht9 := fun (w : Cond) (h : w ∈ lw_g) => hts w (List.mem_cons_of_mem _ h)
  have hown : s.vm.findClass "DiscMaker$Maker" = some m.cls := findClass_of_methodNamed B.named
  have hlocks := B.notSynchronized
  subst hsz
  have hD := hD0.self (sz := s.heap.size)
  generalize hAe : va_A [(m0, .inr (4, [.ref tr, .ref im, .ref fi, .ref se, .ref u0, .ref id, .ref ct, .int ra, .int ru, .int wg])), (u0, .inr (8, [.ref pb, .ref en, .int uc, .int uk])), (pb, .inr (1, [.ref pq, .int pL])), (pq, .inl (cB, 400, .inl pf)), (en, .inl (cI, 4, .inl ef))] s.heap.size = A at hD hZr ⊢
  have hA : ∀ q : Nat, s.heap.size ≤ q → A q := fun q h => by rw [← hAe]; exact Or.inr h
  have hS : va_S A s.heap s.heap [] := va_S.rf
  have hP : va_P D CL [(m0, .inr (4, [.ref tr, .ref im, .ref fi, .ref se, .ref u0, .ref id, .ref ct, .int ra, .int ru, .int wg])), (u0, .inr (8, [.ref pb, .ref en, .int uc, .int uk])), (pb, .inr (1, [.ref pq, .int pL])), (pq, .inl (cB, 400, .inl pf)), (en, .inl (cI, 4, .inl ef))] s.heap := hP
  have hl := lv_entry [.ref m0, .ref h0, .int x] (n := 3) (Nat.le_of_ble_eq_true rfl)
  rw [lg_entry_eq]
  generalize (lg_sl [.ref m0, .ref h0, .int x] ++ List.replicate (3 - (lg_sl [.ref m0, .ref h0, .int x]).length) Slot.unset).toArray = ls at hl ⊢
  have hl : lv_has ls 3 [(0, .ref m0), (1, .ref h0), (2, .int x)] := hl
  have L_m1 : ((-1) : Int32).toInt = (-1) := by decide
  have L_0 : (0 : Int32).toInt = 0 := by decide
  have L_1 : (1 : Int32).toInt = 1 := by decide
  have L_2 : (2 : Int32).toInt = 2 := by decide
  refine zz_labM (B := fun (lk : Nat) (K : Heap → List Loc → Array Slot → List Value → Prop) => ∀ (juc : Int32) (jpL : Int32) (jpf : Nat → Int32) (jef : Nat → Int32) (H : Heap) (locs : List Loc) (ls : Array Slot), lk = 0 → (0 ≤ jpL.toInt ∧ jpL.toInt ≤ 400) → (0 ≤ juc.toInt ∧ juc.toInt ≤ 4) → (EnOK juc.toInt jpL.toInt jef) → va_P D CL [(m0, .inr (4, [.ref tr, .ref im, .ref fi, .ref se, .ref u0, .ref id, .ref ct, .int ra, .int ru, .int wg])), (u0, .inr (8, [.ref pb, .ref en, .int juc, .int uk])), (pb, .inr (1, [.ref pq, .int jpL])), (pq, .inl (cB, 400, .inl jpf)), (en, .inl (cI, 4, .inl jef))] H → va_D A [(m0, .inr (4, [.ref tr, .ref im, .ref fi, .ref se, .ref u0, .ref id, .ref ct, .int ra, .int ru, .int wg])), (u0, .inr (8, [.ref pb, .ref en, .int juc, .int uk])), (pb, .inr (1, [.ref pq, .int jpL])), (pq, .inl (cB, 400, .inl jpf)), (en, .inl (cI, 4, .inl jef))] → va_S A s.heap H locs → lv_has ls 3 [(0, .ref m0), (1, .ref h0), (2, .int x)] → K H locs ls []) 18 ?_ ?_
  · skip
    intro lk ih18 juc jpL jpf jef H locs ls hm18 je1 je2 je3 hP hD hS hl
    refine lv_aload_n hx hb d_Maker_buildParts_18 rfl (lv_at hl 0 rfl) ?_
    refine va_get (D := D) (ci := 4) (v := .ref u0) (C := "DiscMaker$Maker") (T := F_Maker) (N := 10) hx hb ht9 in_Maker hown hK hP 0 rfl rfl 4 (by decide) (ht9 _ k351) (fun _ h9 => h9) rfl d_Maker_buildParts_19 ?_
    refine zz_labM (B := fun (lk : Nat) (K : Heap → List Loc → Array Slot → List Value → Prop) => ∀ (lk9 : Int32) (H : Heap) (locs : List Loc) (ls : Array Slot), lk = 0 → va_P D CL [(m0, .inr (4, [.ref tr, .ref im, .ref fi, .ref se, .ref u0, .ref id, .ref ct, .int ra, .int ru, .int wg])), (u0, .inr (8, [.ref pb, .ref en, .int juc, .int uk])), (pb, .inr (1, [.ref pq, .int jpL])), (pq, .inl (cB, 400, .inl jpf)), (en, .inl (cI, 4, .inl jef))] H → va_D A [(m0, .inr (4, [.ref tr, .ref im, .ref fi, .ref se, .ref u0, .ref id, .ref ct, .int ra, .int ru, .int wg])), (u0, .inr (8, [.ref pb, .ref en, .int juc, .int uk])), (pb, .inr (1, [.ref pq, .int jpL])), (pq, .inl (cB, 400, .inl jpf)), (en, .inl (cI, 4, .inl jef))] → va_S A s.heap H locs → lv_has ls 3 [(0, .ref m0), (1, .ref h0), (2, .int x)] → K H locs ls [.int lk9, .ref h0, .ref u0]) 47 ?_ ?_
    · skip
      intro lk ih47 lk9 H locs ls hm47 hP hD hS hl
      have hPc := hP.sub (ws' := [(u0, .inr (8, [.ref pb, .ref en, .int juc, .int uk])), (pb, .inr (1, [.ref pq, .int jpL])), (pq, .inl (cB, 400, .inl jpf)), (en, .inl (cI, 4, .inl jef))]) [1, 2, 3, 4] rfl
      have hDc := hD.sub (ws' := [(u0, .inr (8, [.ref pb, .ref en, .int juc, .int uk])), (pb, .inr (1, [.ref pq, .int jpL])), (pq, .inl (cB, 400, .inl jpf)), (en, .inl (cI, 4, .inl jef))]) [1, 2, 3, 4] (by decide +kernel) rfl
      have hFc := va_free (wc := [(u0, .inr (8, [.ref pb, .ref en, .int juc, .int uk])), (pb, .inr (1, [.ref pq, .int jpL])), (pq, .inl (cB, 400, .inl jpf)), (en, .inl (cI, 4, .inl jef))]) hD hS hA [1, 2, 3, 4] rfl
      have hkc : 0 ≤ 0 := by decide
      have hks : 0 ≤ 0 := by decide
      refine va_callv (va_runV (C := "DiscMaker$SystemUse") (As := [.ref h0, .int lk9]) (rest := []) ⟨hx, hb, hml, hown, hts⟩ (c3_addOwnership l D cB cI cJ cZ cN cF H.size u0 pb pq en juc uk jpL jpf jef h0 kna kke kta so nu pa ab mo ow gr si sd lk9 (by (try dsimp only); first | assumption | omega | trivial) (by (try dsimp only); first | assumption | omega | trivial) (je3)) (cwV 2 hts (lg_goodV k1013 k1014 k1015 k122 kc_SystemUse_addOwnership) rfl rfl rfl (by decide +kernel) ⟨Nat.le_of_ble_eq_true rfl, Nat.le_of_ble_eq_true rfl⟩) ⟨fun a U g mk q => by obtain ⟨q0, q1, qP, qK, qN, qD, qZ0⟩ := q; exact ⟨q0, q1, qP, va_K.moved (u := U) (U := U.calling g mk a) (Vm.Alike.refl U.vm) qK, qN.calling, qD, RO_blind qZ0⟩, va_recv hK hP (ci := 8) (q0 := 1) rfl rfl, fun U hU hW => ⟨rfl, by rw [hU], by rw [hU]; exact hPc, va_K.moved hW.alike hK, NN.warm hW hN, hDc.weaken (fun _ _ _ _ => trivial), (RO_pass (RO_one hZr 2 rfl) hS hFc hU)⟩⟩ rfl rfl hl.1 rfl (lv_room (Nat.le_of_ble_eq_true rfl)) d_Maker_buildParts_47 ⟨hkc, hks⟩) hS (fun q _ h => hFc q h) hFc (fun u t H1 locs ht hvm hp_r1 hB hz1 hk1 hS => ?_)
      obtain ⟨uc2_2, L2_3, g_4, ef2_5⟩ := u
      obtain ⟨hP1, hD1⟩ := hB
      rw [ht] at hP1
      obtain ⟨hP, hD⟩ := va_join (wr := [(m0, .inr (4, [.ref tr, .ref im, .ref fi, .ref se, .ref u0, .ref id, .ref ct, .int ra, .int ru, .int wg]))]) (w1 := [(u0, .inr (8, [.ref pb, .ref en, .int uc2_2, .int uk])), (pb, .inr (1, [.ref pq, .int L2_3])), (pq, .inl (cB, 400, .inl g_4)), (en, .inl (cI, 4, .inl ef2_5))]) hP hD [1, 2, 3, 4] [0] rfl rfl (by decide +kernel) (by decide +kernel) hk1 hFc hP1 hD1
      clear hPc hDc hFc hP1 hD1 hk1 hz1 hkc hks
      generalize H1 = H at hP hS ⊢
      have hP : va_P D CL [(m0, .inr (4, [.ref tr, .ref im, .ref fi, .ref se, .ref u0, .ref id, .ref ct, .int ra, .int ru, .int wg])), (u0, .inr (8, [.ref pb, .ref en, .int uc2_2, .int uk])), (pb, .inr (1, [.ref pq, .int L2_3])), (pq, .inl (cB, 400, .inl g_4)), (en, .inl (cI, 4, .inl ef2_5))] H := hP
      have hD : va_D A [(m0, .inr (4, [.ref tr, .ref im, .ref fi, .ref se, .ref u0, .ref id, .ref ct, .int ra, .int ru, .int wg])), (u0, .inr (8, [.ref pb, .ref en, .int uc2_2, .int uk])), (pb, .inr (1, [.ref pq, .int L2_3])), (pq, .inl (cB, 400, .inl g_4)), (en, .inl (cI, 4, .inl ef2_5))] := hD
      try dsimp only at hp_r1
      obtain ⟨hL2_6, huc2_7, hen2_8⟩ := hp_r1
      refine zz_labM (B := fun (lk : Nat) (K : Heap → List Loc → Array Slot → List Value → Prop) => ∀ (wuc : Int32) (wpL : Int32) (wpf : Nat → Int32) (wef : Nat → Int32) (H : Heap) (locs : List Loc) (ls : Array Slot), lk = 0 → (0 ≤ wpL.toInt ∧ wpL.toInt ≤ 400) → (0 ≤ wuc.toInt ∧ wuc.toInt ≤ 4) → (EnOK wuc.toInt wpL.toInt wef) → va_P D CL [(m0, .inr (4, [.ref tr, .ref im, .ref fi, .ref se, .ref u0, .ref id, .ref ct, .int ra, .int ru, .int wg])), (u0, .inr (8, [.ref pb, .ref en, .int wuc, .int uk])), (pb, .inr (1, [.ref pq, .int wpL])), (pq, .inl (cB, 400, .inl wpf)), (en, .inl (cI, 4, .inl wef))] H → va_D A [(m0, .inr (4, [.ref tr, .ref im, .ref fi, .ref se, .ref u0, .ref id, .ref ct, .int ra, .int ru, .int wg])), (u0, .inr (8, [.ref pb, .ref en, .int wuc, .int uk])), (pb, .inr (1, [.ref pq, .int wpL])), (pq, .inl (cB, 400, .inl wpf)), (en, .inl (cI, 4, .inl wef))] → va_S A s.heap H locs → lv_has ls 3 [(0, .ref m0), (1, .ref h0), (2, .int x)] → K H locs ls []) 66 ?_ ?_
      · skip
        intro lk ih66 wuc wpL wpf wef H locs ls hm66 we1 we2 we3 hP hD hS hl
        refine lv_aload_n hx hb d_Maker_buildParts_66 rfl (lv_at hl 1 rfl) ?_
        have hPR := RO_at hZr hS
        refine va_getN (D := D) (ci := 5) (v := .int so) (C := "DiscMaker$Node") (T := F_Node) (N := 12) hx hb ht9 in_Node hown hK hPR 2 rfl rfl 0 (by decide) (va_Nw.use rfl (hN _ k181)) (fun _ h9 => h9) rfl d_Maker_buildParts_67 ?_
        refine lv_iconst (v := 2) hx hb d_Maker_buildParts_70 (by decide) ?_
        refine lv_icmp_ne (tgt := 85) hx hb d_Maker_buildParts_71 (by decide) (fun h_9 => ?_) (fun h_9 => ?_)
        · skip
          have g71_7 : ¬ so.toInt = 2 := fun h8 => h_9 ((i_eq rfl (by decide)).mpr h8)
          have hP9 := hP.sub (ws' := [(m0, .inr (4, [.ref tr, .ref im, .ref fi, .ref se, .ref u0, .ref id, .ref ct, .int ra, .int ru, .int wg])), (u0, .inr (8, [.ref pb, .ref en, .int wuc, .int uk])), (pb, .inr (1, [.ref pq, .int wpL])), (pq, .inl (cB, 400, .inl wpf)), (en, .inl (cI, 4, .inl wef))]) [0, 1, 2, 3, 4] rfl
          have hD9 := hD.sub (ws' := [(m0, .inr (4, [.ref tr, .ref im, .ref fi, .ref se, .ref u0, .ref id, .ref ct, .int ra, .int ru, .int wg])), (u0, .inr (8, [.ref pb, .ref en, .int wuc, .int uk])), (pb, .inr (1, [.ref pq, .int wpL])), (pq, .inl (cB, 400, .inl wpf)), (en, .inl (cI, 4, .inl wef))]) [0, 1, 2, 3, 4] (by decide +kernel) rfl
          exact W.vret hx hb hr (fun t ht hW => ⟨⟨(wuc, wpL, wpf, wef), rfl, ⟨(by (try dsimp only); first | assumption | omega | trivial), (by (try dsimp only); first | assumption | omega | trivial), we3⟩, by rw [ht]; exact hP9, hD9⟩, hS.F ht⟩) hS.2.2 d_Maker_buildParts_85
        · skip
          have g71_7 : so.toInt = 2 := (i_eq rfl (by decide)).mp h_9
          refine lv_aload_n hx hb d_Maker_buildParts_74 rfl (lv_at hl 0 rfl) ?_
          refine va_get (D := D) (ci := 4) (v := .ref u0) (C := "DiscMaker$Maker") (T := F_Maker) (N := 10) hx hb ht9 in_Maker hown hK hP 0 rfl rfl 4 (by decide) (ht9 _ k351) (fun _ h9 => h9) rfl d_Maker_buildParts_75 ?_
          refine lv_aload_n hx hb d_Maker_buildParts_78 rfl (lv_at hl 1 rfl) ?_
          have hPR := RO_at hZr hS
          refine va_getN (D := D) (ci := 5) (v := .ref kta) (C := "DiscMaker$Node") (T := F_Node) (N := 12) hx hb ht9 in_Node hown hK hPR 2 rfl rfl 3 (by decide) (va_Nw.use rfl (hN _ k192)) (fun _ h9 => h9) rfl d_Maker_buildParts_79 ?_
          have hPc := hP.sub (ws' := [(u0, .inr (8, [.ref pb, .ref en, .int wuc, .int uk])), (pb, .inr (1, [.ref pq, .int wpL])), (pq, .inl (cB, 400, .inl wpf)), (en, .inl (cI, 4, .inl wef))]) [1, 2, 3, 4] rfl
          have hDc := hD.sub (ws' := [(u0, .inr (8, [.ref pb, .ref en, .int wuc, .int uk])), (pb, .inr (1, [.ref pq, .int wpL])), (pq, .inl (cB, 400, .inl wpf)), (en, .inl (cI, 4, .inl wef))]) [1, 2, 3, 4] (by decide +kernel) rfl
          have hFc := va_free (wc := [(u0, .inr (8, [.ref pb, .ref en, .int wuc, .int uk])), (pb, .inr (1, [.ref pq, .int wpL])), (pq, .inl (cB, 400, .inl wpf)), (en, .inl (cI, 4, .inl wef))]) hD hS hA [1, 2, 3, 4] rfl
          have hkc : 0 ≤ 0 := by decide
          have hks : 0 ≤ 0 := by decide
          refine va_callv (va_runV (C := "DiscMaker$SystemUse") (As := [.ref kta]) (rest := []) ⟨hx, hb, hml, hown, hts⟩ (c3_addTarget l D cB cI cJ cZ cN cF H.size u0 pb pq en wuc uk wpL wpf wef kta l3 c3 (by (try dsimp only); first | assumption | omega | trivial) (by (try dsimp only); first | assumption | omega | trivial) (we3) (by (try dsimp only); first | assumption | omega | trivial)) (cwV 1 hts (lg_goodV k899 k900 k901 k122 kc_SystemUse_addTarget) rfl rfl rfl (by decide +kernel) ⟨Nat.le_of_ble_eq_true rfl, Nat.le_of_ble_eq_true rfl⟩) ⟨fun a U g mk q => by obtain ⟨q0, q1, qP, qK, qN, qD, qZ0⟩ := q; exact ⟨q0, q1, qP, va_K.moved (u := U) (U := U.calling g mk a) (Vm.Alike.refl U.vm) qK, qN.calling, qD, RO_blind qZ0⟩, va_recv hK hP (ci := 8) (q0 := 1) rfl rfl, fun U hU hW => ⟨rfl, by rw [hU], by rw [hU]; exact hPc, va_K.moved hW.alike hK, NN.warm hW hN, hDc.weaken (fun _ _ _ _ => trivial), (RO_pass (RO_one hZr 4 rfl) hS hFc hU)⟩⟩ rfl rfl hl.1 rfl (lv_room (Nat.le_of_ble_eq_true rfl)) d_Maker_buildParts_82 ⟨hkc, hks⟩) hS (fun q _ h => hFc q h) hFc (fun u t H1 locs ht hvm hp_r9 hB hz1 hk1 hS => ?_)
          obtain ⟨uc2_10, L2_11, g_12, ef2_13⟩ := u
          obtain ⟨hP1, hD1⟩ := hB
          rw [ht] at hP1
          obtain ⟨hP, hD⟩ := va_join (wr := [(m0, .inr (4, [.ref tr, .ref im, .ref fi, .ref se, .ref u0, .ref id, .ref ct, .int ra, .int ru, .int wg]))]) (w1 := [(u0, .inr (8, [.ref pb, .ref en, .int uc2_10, .int uk])), (pb, .inr (1, [.ref pq, .int L2_11])), (pq, .inl (cB, 400, .inl g_12)), (en, .inl (cI, 4, .inl ef2_13))]) hP hD [1, 2, 3, 4] [0] rfl rfl (by decide +kernel) (by decide +kernel) hk1 hFc hP1 hD1
          clear hPc hDc hFc hP1 hD1 hk1 hz1 hkc hks
          generalize H1 = H at hP hS ⊢
          have hP : va_P D CL [(m0, .inr (4, [.ref tr, .ref im, .ref fi, .ref se, .ref u0, .ref id, .ref ct, .int ra, .int ru, .int wg])), (u0, .inr (8, [.ref pb, .ref en, .int uc2_10, .int uk])), (pb, .inr (1, [.ref pq, .int L2_11])), (pq, .inl (cB, 400, .inl g_12)), (en, .inl (cI, 4, .inl ef2_13))] H := hP
          have hD : va_D A [(m0, .inr (4, [.ref tr, .ref im, .ref fi, .ref se, .ref u0, .ref id, .ref ct, .int ra, .int ru, .int wg])), (u0, .inr (8, [.ref pb, .ref en, .int uc2_10, .int uk])), (pb, .inr (1, [.ref pq, .int L2_11])), (pq, .inl (cB, 400, .inl g_12)), (en, .inl (cI, 4, .inl ef2_13))] := hD
          try dsimp only at hp_r9
          obtain ⟨hL2_14, huc2_15, hen2_16, hS9_17⟩ := hp_r9
          have hP9 := hP.sub (ws' := [(m0, .inr (4, [.ref tr, .ref im, .ref fi, .ref se, .ref u0, .ref id, .ref ct, .int ra, .int ru, .int wg])), (u0, .inr (8, [.ref pb, .ref en, .int uc2_10, .int uk])), (pb, .inr (1, [.ref pq, .int L2_11])), (pq, .inl (cB, 400, .inl g_12)), (en, .inl (cI, 4, .inl ef2_13))]) [0, 1, 2, 3, 4] rfl
          have hD9 := hD.sub (ws' := [(m0, .inr (4, [.ref tr, .ref im, .ref fi, .ref se, .ref u0, .ref id, .ref ct, .int ra, .int ru, .int wg])), (u0, .inr (8, [.ref pb, .ref en, .int uc2_10, .int uk])), (pb, .inr (1, [.ref pq, .int L2_11])), (pq, .inl (cB, 400, .inl g_12)), (en, .inl (cI, 4, .inl ef2_13))]) [0, 1, 2, 3, 4] (by decide +kernel) rfl
          exact W.vret hx hb hr (fun t ht hW => ⟨⟨(uc2_10, L2_11, g_12, ef2_13), rfl, ⟨(by (try dsimp only); first | assumption | omega | trivial), (by (try dsimp only); first | assumption | omega | trivial), hen2_16⟩, by rw [ht]; exact hP9, hD9⟩, hS.F ht⟩) hS.2.2 d_Maker_buildParts_85
      · skip
        intro kk66
        refine lv_iload_n hx hb d_Maker_buildParts_50 rfl (lv_at hl 2 rfl) ?_
        refine lv_iconst (v := 2) hx hb d_Maker_buildParts_51 (by decide) ?_
        refine lv_icmp_ne (tgt := 66) hx hb d_Maker_buildParts_52 (by decide) (fun h_9 => ?_) (fun h_9 => ?_)
        · skip
          have g52_17 : ¬ x.toInt = 2 := fun h8 => h_9 ((i_eq rfl (by decide)).mpr h8)
          have hP := hP.sub (ws' := [(m0, .inr (4, [.ref tr, .ref im, .ref fi, .ref se, .ref u0, .ref id, .ref ct, .int ra, .int ru, .int wg])), (u0, .inr (8, [.ref pb, .ref en, .int uc2_2, .int uk])), (pb, .inr (1, [.ref pq, .int L2_3])), (pq, .inl (cB, 400, .inl g_4)), (en, .inl (cI, 4, .inl ef2_5))]) [0, 1, 2, 3, 4] rfl
          have hD := hD.sub (ws' := [(m0, .inr (4, [.ref tr, .ref im, .ref fi, .ref se, .ref u0, .ref id, .ref ct, .int ra, .int ru, .int wg])), (u0, .inr (8, [.ref pb, .ref en, .int uc2_2, .int uk])), (pb, .inr (1, [.ref pq, .int L2_3])), (pq, .inl (cB, 400, .inl g_4)), (en, .inl (cI, 4, .inl ef2_5))]) [0, 1, 2, 3, 4] (by decide +kernel) rfl
          have hl := lv_sub hl [0, 1, 2] rfl
          exact kk66 _ uc2_2 L2_3 g_4 ef2_5 _ _ _ rfl ((by (try dsimp only); first | assumption | omega | trivial)) ((by (try dsimp only); first | assumption | omega | trivial)) (hen2_8) hP hD hS hl
        · skip
          have g52_17 : x.toInt = 2 := (i_eq rfl (by decide)).mp h_9
          refine lv_aload_n hx hb d_Maker_buildParts_55 rfl (lv_at hl 0 rfl) ?_
          refine va_get (D := D) (ci := 4) (v := .ref u0) (C := "DiscMaker$Maker") (T := F_Maker) (N := 10) hx hb ht9 in_Maker hown hK hP 0 rfl rfl 4 (by decide) (ht9 _ k351) (fun _ h9 => h9) rfl d_Maker_buildParts_56 ?_
          refine lv_aload_n hx hb d_Maker_buildParts_59 rfl (lv_at hl 1 rfl) ?_
          have hPR := RO_at hZr hS
          refine va_getN (D := D) (ci := 5) (v := .ref kna) (C := "DiscMaker$Node") (T := F_Node) (N := 12) hx hb ht9 in_Node hown hK hPR 2 rfl rfl 1 (by decide) (va_Nw.use rfl (hN _ k186)) (fun _ h9 => h9) rfl d_Maker_buildParts_60 ?_
          have hPc := hP.sub (ws' := [(u0, .inr (8, [.ref pb, .ref en, .int uc2_2, .int uk])), (pb, .inr (1, [.ref pq, .int L2_3])), (pq, .inl (cB, 400, .inl g_4)), (en, .inl (cI, 4, .inl ef2_5))]) [1, 2, 3, 4] rfl
          have hDc := hD.sub (ws' := [(u0, .inr (8, [.ref pb, .ref en, .int uc2_2, .int uk])), (pb, .inr (1, [.ref pq, .int L2_3])), (pq, .inl (cB, 400, .inl g_4)), (en, .inl (cI, 4, .inl ef2_5))]) [1, 2, 3, 4] (by decide +kernel) rfl
          have hFc := va_free (wc := [(u0, .inr (8, [.ref pb, .ref en, .int uc2_2, .int uk])), (pb, .inr (1, [.ref pq, .int L2_3])), (pq, .inl (cB, 400, .inl g_4)), (en, .inl (cI, 4, .inl ef2_5))]) hD hS hA [1, 2, 3, 4] rfl
          have hkc : 0 ≤ 0 := by decide
          have hks : 0 ≤ 0 := by decide
          refine va_callv (va_runV (C := "DiscMaker$SystemUse") (As := [.ref kna]) (rest := []) ⟨hx, hb, hml, hown, hts⟩ (c3_addName l D cB cI cJ cZ cN cF H.size u0 pb pq en uc2_2 uk L2_3 g_4 ef2_5 kna l1 c1 (by (try dsimp only); first | assumption | omega | trivial) (by (try dsimp only); first | assumption | omega | trivial) (hen2_8) (by (try dsimp only); first | assumption | omega | trivial)) (cwV 1 hts (lg_goodV k1026 k1027 k1028 k122 kc_SystemUse_addName) rfl rfl rfl (by decide +kernel) ⟨Nat.le_of_ble_eq_true rfl, Nat.le_of_ble_eq_true rfl⟩) ⟨fun a U g mk q => by obtain ⟨q0, q1, qP, qK, qN, qD, qZ0⟩ := q; exact ⟨q0, q1, qP, va_K.moved (u := U) (U := U.calling g mk a) (Vm.Alike.refl U.vm) qK, qN.calling, qD, RO_blind qZ0⟩, va_recv hK hP (ci := 8) (q0 := 1) rfl rfl, fun U hU hW => ⟨rfl, by rw [hU], by rw [hU]; exact hPc, va_K.moved hW.alike hK, NN.warm hW hN, hDc.weaken (fun _ _ _ _ => trivial), (RO_pass (RO_one hZr 3 rfl) hS hFc hU)⟩⟩ rfl rfl hl.1 rfl (lv_room (Nat.le_of_ble_eq_true rfl)) d_Maker_buildParts_63 ⟨hkc, hks⟩) hS (fun q _ h => hFc q h) hFc (fun u t H1 locs ht hvm hp_r18 hB hz1 hk1 hS => ?_)
          obtain ⟨uc2_19, L2_20, g_21, ef2_22⟩ := u
          obtain ⟨hP1, hD1⟩ := hB
          rw [ht] at hP1
          obtain ⟨hP, hD⟩ := va_join (wr := [(m0, .inr (4, [.ref tr, .ref im, .ref fi, .ref se, .ref u0, .ref id, .ref ct, .int ra, .int ru, .int wg]))]) (w1 := [(u0, .inr (8, [.ref pb, .ref en, .int uc2_19, .int uk])), (pb, .inr (1, [.ref pq, .int L2_20])), (pq, .inl (cB, 400, .inl g_21)), (en, .inl (cI, 4, .inl ef2_22))]) hP hD [1, 2, 3, 4] [0] rfl rfl (by decide +kernel) (by decide +kernel) hk1 hFc hP1 hD1
          clear hPc hDc hFc hP1 hD1 hk1 hz1 hkc hks
          generalize H1 = H at hP hS ⊢
          have hP : va_P D CL [(m0, .inr (4, [.ref tr, .ref im, .ref fi, .ref se, .ref u0, .ref id, .ref ct, .int ra, .int ru, .int wg])), (u0, .inr (8, [.ref pb, .ref en, .int uc2_19, .int uk])), (pb, .inr (1, [.ref pq, .int L2_20])), (pq, .inl (cB, 400, .inl g_21)), (en, .inl (cI, 4, .inl ef2_22))] H := hP
          have hD : va_D A [(m0, .inr (4, [.ref tr, .ref im, .ref fi, .ref se, .ref u0, .ref id, .ref ct, .int ra, .int ru, .int wg])), (u0, .inr (8, [.ref pb, .ref en, .int uc2_19, .int uk])), (pb, .inr (1, [.ref pq, .int L2_20])), (pq, .inl (cB, 400, .inl g_21)), (en, .inl (cI, 4, .inl ef2_22))] := hD
          try dsimp only at hp_r18
          obtain ⟨hL2_23, huc2_24, hen2_25⟩ := hp_r18
          have hP := hP.sub (ws' := [(m0, .inr (4, [.ref tr, .ref im, .ref fi, .ref se, .ref u0, .ref id, .ref ct, .int ra, .int ru, .int wg])), (u0, .inr (8, [.ref pb, .ref en, .int uc2_19, .int uk])), (pb, .inr (1, [.ref pq, .int L2_20])), (pq, .inl (cB, 400, .inl g_21)), (en, .inl (cI, 4, .inl ef2_22))]) [0, 1, 2, 3, 4] rfl
          have hD := hD.sub (ws' := [(m0, .inr (4, [.ref tr, .ref im, .ref fi, .ref se, .ref u0, .ref id, .ref ct, .int ra, .int ru, .int wg])), (u0, .inr (8, [.ref pb, .ref en, .int uc2_19, .int uk])), (pb, .inr (1, [.ref pq, .int L2_20])), (pq, .inl (cB, 400, .inl g_21)), (en, .inl (cI, 4, .inl ef2_22))]) [0, 1, 2, 3, 4] (by decide +kernel) rfl
          have hl := lv_sub hl [0, 1, 2] rfl
          exact kk66 _ uc2_19 L2_20 g_21 ef2_22 _ _ _ rfl ((by (try dsimp only); first | assumption | omega | trivial)) ((by (try dsimp only); first | assumption | omega | trivial)) (hen2_25) hP hD hS hl
    · skip
      intro kk47
      refine lv_aload_n hx hb d_Maker_buildParts_22 rfl (lv_at hl 1 rfl) ?_
      refine lv_aload_n hx hb d_Maker_buildParts_23 rfl (lv_at hl 1 rfl) ?_
      have hPR := RO_at hZr hS
      refine va_getN (D := D) (ci := 5) (v := .int so) (C := "DiscMaker$Node") (T := F_Node) (N := 12) hx hb ht9 in_Node hown hK hPR 2 rfl rfl 0 (by decide) (va_Nw.use rfl (hN _ k181)) (fun _ h9 => h9) rfl d_Maker_buildParts_24 ?_
      refine lv_if_ne (tgt := 46) hx hb d_Maker_buildParts_27 (by decide) (fun h_9 => ?_) (fun h_9 => ?_)
      · skip
        have g27_28 : ¬ so.toInt = 0 := fun h8 => h_9 ((i_eq rfl (by decide)).mpr h8)
        refine lv_iconst (v := 1) hx hb d_Maker_buildParts_46 (by decide) ?_
        have hP := hP.sub (ws' := [(m0, .inr (4, [.ref tr, .ref im, .ref fi, .ref se, .ref u0, .ref id, .ref ct, .int ra, .int ru, .int wg])), (u0, .inr (8, [.ref pb, .ref en, .int juc, .int uk])), (pb, .inr (1, [.ref pq, .int jpL])), (pq, .inl (cB, 400, .inl jpf)), (en, .inl (cI, 4, .inl jef))]) [0, 1, 2, 3, 4] rfl
        have hD := hD.sub (ws' := [(m0, .inr (4, [.ref tr, .ref im, .ref fi, .ref se, .ref u0, .ref id, .ref ct, .int ra, .int ru, .int wg])), (u0, .inr (8, [.ref pb, .ref en, .int juc, .int uk])), (pb, .inr (1, [.ref pq, .int jpL])), (pq, .inl (cB, 400, .inl jpf)), (en, .inl (cI, 4, .inl jef))]) [0, 1, 2, 3, 4] (by decide +kernel) rfl
        have hl := lv_sub hl [0, 1, 2] rfl
        exact kk47 _ 1 _ _ _ rfl  hP hD hS hl
      · skip
        have g27_28 : so.toInt = 0 := (i_eq rfl (by decide)).mp h_9
        refine lv_aload_n hx hb d_Maker_buildParts_30 rfl (lv_at hl 0 rfl) ?_
        refine va_get (D := D) (ci := 4) (v := .ref tr) (C := "DiscMaker$Maker") (T := F_Maker) (N := 10) hx hb ht9 in_Maker hown hK hP 0 rfl rfl 0 (by decide) (ht9 _ k347) (fun _ h9 => h9) rfl d_Maker_buildParts_31 ?_
        refine lv_aload_n hx hb d_Maker_buildParts_34 rfl (lv_at hl 1 rfl) ?_
        have hPR := RO_at hZr hS
        refine va_getN (D := D) (ci := 5) (v := .int nu) (C := "DiscMaker$Node") (T := F_Node) (N := 12) hx hb ht9 in_Node hown hK hPR 2 rfl rfl 4 (by decide) (va_Nw.use rfl (hN _ k195)) (fun _ h9 => h9) rfl d_Maker_buildParts_35 ?_
        have hPc := hP.sub (ws' := []) [] rfl
        have hDc := hD.sub (ws' := []) [] (by decide +kernel) rfl
        have hFc := va_free (wc := []) hD hS hA [] rfl
        have hPR := RO_at hZr hS
        have hkc : 0 ≤ 0 := by decide
        have hks : 0 ≤ 0 := by decide
        refine va_calli (va_runV (C := "DiscMaker$Tree") (As := [.int nu]) (rest := [.ref h0, .ref u0]) ⟨hx, hb, hml, hown, hts⟩ (c3_directoriesIn l D cB cI cJ cZ cN cF H.size tr ta cn dr na ng nn nf cm nu (by (try dsimp only); first | assumption | omega | trivial) (by (try dsimp only); first | assumption | omega | trivial) (by (try dsimp only); first | assumption | omega | trivial)) (cwV 1 hts (lg_goodV k1009 k1010 k1011 k117 kc_Tree_directoriesIn) rfl rfl rfl (by decide +kernel) ⟨Nat.le_of_ble_eq_true rfl, Nat.le_of_ble_eq_true rfl⟩) ⟨fun a U g mk q => by obtain ⟨q0, q1, qP, qK, qN, qD, qZ0⟩ := q; exact ⟨q0, q1, qP, va_K.moved (u := U) (U := U.calling g mk a) (Vm.Alike.refl U.vm) qK, qN.calling, qD, RO_blind qZ0⟩, va_recv hK hPR (ci := 10) (q0 := 0) rfl rfl, fun U hU hW => ⟨rfl, by rw [hU], by rw [hU]; exact hPc, va_K.moved hW.alike hK, NN.warm hW hN, hDc.weaken (fun _ _ _ _ => trivial), (RO_app (w1 := [(tr, .inr (10, [.ref ta, .int cn, .int dr]))]) (w2 := (([(ta, .inl (cN, 40, .inr (.inr (.inr (.inr (rowF na cm))))))] : va_W) ++ (PL (NC cB na ng nn nf) cm))) (RO_pass (RO_one hZr 0 rfl) hS hFc hU) (RO_app (w1 := [(ta, .inl (cN, 40, .inr (.inr (.inr (.inr (rowF na cm))))))]) (w2 := (PL (NC cB na ng nn nf) cm)) (RO_pass (RO_one hZr 1 rfl) hS hFc hU) (RO_pass (RO_tail (X := [(tr, .inr (10, [.ref ta, .int cn, .int dr])), (ta, .inl (cN, 40, .inr (.inr (.inr (.inr (rowF na cm)))))), (h0, .inr (5, [.int so, .ref kna, .ref kke, .ref kta, .int nu, .int pa, .int ab, .int mo, .int ow, .int gr, .int si, .int sd])), (kna, .inl (cB, l1, .inl c1)), (kta, .inl (cB, l3, .inl c3))]) hZr) hS hFc hU)))⟩⟩ rfl rfl hl.1 rfl (lv_room (Nat.le_of_ble_eq_true rfl)) d_Maker_buildParts_38 ⟨hkc, hks⟩) hS (fun q _ h => hFc q h) hFc (fun r26 u t H1 locs ht hvm hp_r26 hB hz1 hk1 hS => ?_)
        obtain ⟨hP1, hD1⟩ := hB
        rw [ht] at hP1
        obtain ⟨hP, hD⟩ := va_join (wr := [(m0, .inr (4, [.ref tr, .ref im, .ref fi, .ref se, .ref u0, .ref id, .ref ct, .int ra, .int ru, .int wg])), (u0, .inr (8, [.ref pb, .ref en, .int juc, .int uk])), (pb, .inr (1, [.ref pq, .int jpL])), (pq, .inl (cB, 400, .inl jpf)), (en, .inl (cI, 4, .inl jef))]) (w1 := []) hP hD [] [0, 1, 2, 3, 4] rfl rfl (by decide +kernel) (by decide +kernel) hk1 hFc hP1 hD1
        clear hPc hDc hFc hP1 hD1 hk1 hz1 hkc hks
        generalize H1 = H at hP hS ⊢
        have hP : va_P D CL [(m0, .inr (4, [.ref tr, .ref im, .ref fi, .ref se, .ref u0, .ref id, .ref ct, .int ra, .int ru, .int wg])), (u0, .inr (8, [.ref pb, .ref en, .int juc, .int uk])), (pb, .inr (1, [.ref pq, .int jpL])), (pq, .inl (cB, 400, .inl jpf)), (en, .inl (cI, 4, .inl jef))] H := hP
        have hD : va_D A [(m0, .inr (4, [.ref tr, .ref im, .ref fi, .ref se, .ref u0, .ref id, .ref ct, .int ra, .int ru, .int wg])), (u0, .inr (8, [.ref pb, .ref en, .int juc, .int uk])), (pb, .inr (1, [.ref pq, .int jpL])), (pq, .inl (cB, 400, .inl jpf)), (en, .inl (cI, 4, .inl jef))] := hD
        try dsimp only at hp_r26
        have hr_27 := hp_r26
        refine lv_iconst (v := 2) hx hb d_Maker_buildParts_41 (by decide) ?_
        refine lv_iadd hx hb d_Maker_buildParts_42 ?_
        refine lv_topi (fun v28 e_v28 => ?_)
        have t_v28 : v28.toInt = r26.toInt + 2 := by rw [e_v28]; exact i_add rfl (by decide) (by omega) (by omega)
        refine lv_goto (tgt := 47) hx hb d_Maker_buildParts_43 (by decide) ?_
        have hP := hP.sub (ws' := [(m0, .inr (4, [.ref tr, .ref im, .ref fi, .ref se, .ref u0, .ref id, .ref ct, .int ra, .int ru, .int wg])), (u0, .inr (8, [.ref pb, .ref en, .int juc, .int uk])), (pb, .inr (1, [.ref pq, .int jpL])), (pq, .inl (cB, 400, .inl jpf)), (en, .inl (cI, 4, .inl jef))]) [0, 1, 2, 3, 4] rfl
        have hD := hD.sub (ws' := [(m0, .inr (4, [.ref tr, .ref im, .ref fi, .ref se, .ref u0, .ref id, .ref ct, .int ra, .int ru, .int wg])), (u0, .inr (8, [.ref pb, .ref en, .int juc, .int uk])), (pb, .inr (1, [.ref pq, .int jpL])), (pq, .inl (cB, 400, .inl jpf)), (en, .inl (cI, 4, .inl jef))]) [0, 1, 2, 3, 4] (by decide +kernel) rfl
        have hl := lv_sub hl [0, 1, 2] rfl
        exact kk47 _ v28 _ _ _ rfl  hP hD hS hl
  · skip
    intro kk18
    refine lv_iload_n hx hb d_Maker_buildParts_0 rfl (lv_at hl 2 rfl) ?_
    refine lv_if_ne (tgt := 18) hx hb d_Maker_buildParts_1 (by decide) (fun h_9 => ?_) (fun h_9 => ?_)
    · skip
      have g1_41 : ¬ x.toInt = 0 := fun h8 => h_9 ((i_eq rfl (by decide)).mpr h8)
      have hP := hP.sub (ws' := [(m0, .inr (4, [.ref tr, .ref im, .ref fi, .ref se, .ref u0, .ref id, .ref ct, .int ra, .int ru, .int wg])), (u0, .inr (8, [.ref pb, .ref en, .int uc, .int uk])), (pb, .inr (1, [.ref pq, .int pL])), (pq, .inl (cB, 400, .inl pf)), (en, .inl (cI, 4, .inl ef))]) [0, 1, 2, 3, 4] rfl
      have hD := hD.sub (ws' := [(m0, .inr (4, [.ref tr, .ref im, .ref fi, .ref se, .ref u0, .ref id, .ref ct, .int ra, .int ru, .int wg])), (u0, .inr (8, [.ref pb, .ref en, .int uc, .int uk])), (pb, .inr (1, [.ref pq, .int pL])), (pq, .inl (cB, 400, .inl pf)), (en, .inl (cI, 4, .inl ef))]) [0, 1, 2, 3, 4] (by decide +kernel) rfl
      have hl := lv_sub hl [0, 1, 2] rfl
      exact kk18 _ uc pL pf ef _ _ _ rfl ((by (try dsimp only); first | assumption | omega | trivial)) ((by (try dsimp only); first | assumption | omega | trivial)) (hen) hP hD hS hl
    · skip
      have g1_41 : x.toInt = 0 := (i_eq rfl (by decide)).mp h_9
      refine lv_aload_n hx hb d_Maker_buildParts_4 rfl (lv_at hl 1 rfl) ?_
      have hPR := RO_at hZr hS
      refine va_getN (D := D) (ci := 5) (v := .int nu) (C := "DiscMaker$Node") (T := F_Node) (N := 12) hx hb ht9 in_Node hown hK hPR 2 rfl rfl 4 (by decide) (va_Nw.use rfl (hN _ k195)) (fun _ h9 => h9) rfl d_Maker_buildParts_5 ?_
      refine lv_if_ne (tgt := 18) hx hb d_Maker_buildParts_8 (by decide) (fun h_9 => ?_) (fun h_9 => ?_)
      · skip
        have g8_45 : ¬ nu.toInt = 0 := fun h8 => h_9 ((i_eq rfl (by decide)).mpr h8)
        have hP := hP.sub (ws' := [(m0, .inr (4, [.ref tr, .ref im, .ref fi, .ref se, .ref u0, .ref id, .ref ct, .int ra, .int ru, .int wg])), (u0, .inr (8, [.ref pb, .ref en, .int uc, .int uk])), (pb, .inr (1, [.ref pq, .int pL])), (pq, .inl (cB, 400, .inl pf)), (en, .inl (cI, 4, .inl ef))]) [0, 1, 2, 3, 4] rfl
        have hD := hD.sub (ws' := [(m0, .inr (4, [.ref tr, .ref im, .ref fi, .ref se, .ref u0, .ref id, .ref ct, .int ra, .int ru, .int wg])), (u0, .inr (8, [.ref pb, .ref en, .int uc, .int uk])), (pb, .inr (1, [.ref pq, .int pL])), (pq, .inl (cB, 400, .inl pf)), (en, .inl (cI, 4, .inl ef))]) [0, 1, 2, 3, 4] (by decide +kernel) rfl
        have hl := lv_sub hl [0, 1, 2] rfl
        exact kk18 _ uc pL pf ef _ _ _ rfl ((by (try dsimp only); first | assumption | omega | trivial)) ((by (try dsimp only); first | assumption | omega | trivial)) (hen) hP hD hS hl
      · skip
        have g8_45 : nu.toInt = 0 := (i_eq rfl (by decide)).mp h_9
        refine lv_aload_n hx hb d_Maker_buildParts_11 rfl (lv_at hl 0 rfl) ?_
        refine va_get (D := D) (ci := 4) (v := .ref u0) (C := "DiscMaker$Maker") (T := F_Maker) (N := 10) hx hb ht9 in_Maker hown hK hP 0 rfl rfl 4 (by decide) (ht9 _ k351) (fun _ h9 => h9) rfl d_Maker_buildParts_12 ?_
        have hPc := hP.sub (ws' := [(u0, .inr (8, [.ref pb, .ref en, .int uc, .int uk])), (pb, .inr (1, [.ref pq, .int pL])), (pq, .inl (cB, 400, .inl pf)), (en, .inl (cI, 4, .inl ef))]) [1, 2, 3, 4] rfl
        have hDc := hD.sub (ws' := [(u0, .inr (8, [.ref pb, .ref en, .int uc, .int uk])), (pb, .inr (1, [.ref pq, .int pL])), (pq, .inl (cB, 400, .inl pf)), (en, .inl (cI, 4, .inl ef))]) [1, 2, 3, 4] (by decide +kernel) rfl
        have hFc := va_free (wc := [(u0, .inr (8, [.ref pb, .ref en, .int uc, .int uk])), (pb, .inr (1, [.ref pq, .int pL])), (pq, .inl (cB, 400, .inl pf)), (en, .inl (cI, 4, .inl ef))]) hD hS hA [1, 2, 3, 4] rfl
        have hkc : 0 ≤ 0 := by decide
        have hks : 0 ≤ 0 := by decide
        refine va_callv (va_runV (C := "DiscMaker$SystemUse") (As := []) (rest := []) ⟨hx, hb, hml, hown, hts⟩ (c3_addRootsMark l D cB cI cJ cZ cN cF s.heap.size u0 pb pq en uc uk pL pf ef (by (try dsimp only); first | assumption | omega | trivial) (by (try dsimp only); first | assumption | omega | trivial) (by (try dsimp only); first | assumption | omega | trivial)) (cwV 0 hts (lg_goodV k1005 k1006 k1007 k122 kc_SystemUse_addRootsMark) rfl rfl rfl (by decide +kernel) ⟨Nat.le_of_ble_eq_true rfl, Nat.le_of_ble_eq_true rfl⟩) ⟨fun a U g mk q => by obtain ⟨q0, q1, qP, qK, qN, qD⟩ := q; exact ⟨q0, q1, qP, va_K.moved (u := U) (U := U.calling g mk a) (Vm.Alike.refl U.vm) qK, qN.calling, qD⟩, va_recv hK hP (ci := 8) (q0 := 1) rfl rfl, fun U hU hW => ⟨rfl, by rw [hU], by rw [hU]; exact hPc, va_K.moved hW.alike hK, NN.warm hW hN, hDc.weaken (fun _ _ _ _ => trivial)⟩⟩ rfl rfl hl.1 rfl (lv_room (Nat.le_of_ble_eq_true rfl)) d_Maker_buildParts_15 ⟨hkc, hks⟩) hS (fun q _ h => hFc q h) hFc (fun u t H1 locs ht hvm hp_r29 hB hz1 hk1 hS => ?_)
        obtain ⟨uc2_30, L2_31, g_32, ef2_33⟩ := u
        obtain ⟨hP1, hD1⟩ := hB
        rw [ht] at hP1
        obtain ⟨hP, hD⟩ := va_join (wr := [(m0, .inr (4, [.ref tr, .ref im, .ref fi, .ref se, .ref u0, .ref id, .ref ct, .int ra, .int ru, .int wg]))]) (w1 := [(u0, .inr (8, [.ref pb, .ref en, .int uc2_30, .int uk])), (pb, .inr (1, [.ref pq, .int L2_31])), (pq, .inl (cB, 400, .inl g_32)), (en, .inl (cI, 4, .inl ef2_33))]) hP hD [1, 2, 3, 4] [0] rfl rfl (by decide +kernel) (by decide +kernel) hk1 hFc hP1 hD1
        clear hPc hDc hFc hP1 hD1 hk1 hz1 hkc hks
        generalize H1 = H at hP hS ⊢
        have hP : va_P D CL [(m0, .inr (4, [.ref tr, .ref im, .ref fi, .ref se, .ref u0, .ref id, .ref ct, .int ra, .int ru, .int wg])), (u0, .inr (8, [.ref pb, .ref en, .int uc2_30, .int uk])), (pb, .inr (1, [.ref pq, .int L2_31])), (pq, .inl (cB, 400, .inl g_32)), (en, .inl (cI, 4, .inl ef2_33))] H := hP
        have hD : va_D A [(m0, .inr (4, [.ref tr, .ref im, .ref fi, .ref se, .ref u0, .ref id, .ref ct, .int ra, .int ru, .int wg])), (u0, .inr (8, [.ref pb, .ref en, .int uc2_30, .int uk])), (pb, .inr (1, [.ref pq, .int L2_31])), (pq, .inl (cB, 400, .inl g_32)), (en, .inl (cI, 4, .inl ef2_33))] := hD
        try dsimp only at hp_r29
        obtain ⟨hL2_34, huc2_35, hen2_36⟩ := hp_r29
        have hP := hP.sub (ws' := [(m0, .inr (4, [.ref tr, .ref im, .ref fi, .ref se, .ref u0, .ref id, .ref ct, .int ra, .int ru, .int wg])), (u0, .inr (8, [.ref pb, .ref en, .int uc2_30, .int uk])), (pb, .inr (1, [.ref pq, .int L2_31])), (pq, .inl (cB, 400, .inl g_32)), (en, .inl (cI, 4, .inl ef2_33))]) [0, 1, 2, 3, 4] rfl
        have hD := hD.sub (ws' := [(m0, .inr (4, [.ref tr, .ref im, .ref fi, .ref se, .ref u0, .ref id, .ref ct, .int ra, .int ru, .int wg])), (u0, .inr (8, [.ref pb, .ref en, .int uc2_30, .int uk])), (pb, .inr (1, [.ref pq, .int L2_31])), (pq, .inl (cB, 400, .inl g_32)), (en, .inl (cI, 4, .inl ef2_33))]) [0, 1, 2, 3, 4] (by decide +kernel) rfl
        have hl := lv_sub hl [0, 1, 2] rfl
        exact kk18 _ uc2_30 L2_31 g_32 ef2_33 _ _ _ rfl ((by (try dsimp only); first | assumption | omega | trivial)) ((by (try dsimp only); first | assumption | omega | trivial)) (hen2_36) hP hD hS hl

theorem d_Maker_writeRecord_0 : decode b_Maker_writeRecord 0 = .ok (.aload_n 2, 1) := by decide +kernel
theorem d_Maker_writeRecord_1 : decode b_Maker_writeRecord 1 = .ok (.getfield 150, 3) := by decide +kernel
theorem d_Maker_writeRecord_4 : decode b_Maker_writeRecord 4 = .ok (.ifCond .ne 7, 3) := by decide +kernel
theorem d_Maker_writeRecord_7 : decode b_Maker_writeRecord 7 = .ok (.iconst 1, 1) := by decide +kernel
theorem d_Maker_writeRecord_8 : decode b_Maker_writeRecord 8 = .ok (.goto 4, 3) := by decide +kernel
theorem d_Maker_writeRecord_11 : decode b_Maker_writeRecord 11 = .ok (.iconst 0, 1) := by decide +kernel
theorem d_Maker_writeRecord_12 : decode b_Maker_writeRecord 12 = .ok (.istore 5, 2) := by decide +kernel
theorem d_Maker_writeRecord_14 : decode b_Maker_writeRecord 14 = .ok (.aload_n 0, 1) := by decide +kernel
theorem d_Maker_writeRecord_15 : decode b_Maker_writeRecord 15 = .ok (.getfield 47, 3) := by decide +kernel
theorem d_Maker_writeRecord_18 : decode b_Maker_writeRecord 18 = .ok (.iload_n 3, 1) := by decide +kernel
theorem d_Maker_writeRecord_19 : decode b_Maker_writeRecord 19 = .ok (.iload 4, 2) := by decide +kernel
theorem d_Maker_writeRecord_21 : decode b_Maker_writeRecord 21 = .ok (.invokevirtual 196, 3) := by decide +kernel
theorem d_Maker_writeRecord_24 : decode b_Maker_writeRecord 24 = .ok (.aload_n 0, 1) := by decide +kernel
theorem d_Maker_writeRecord_25 : decode b_Maker_writeRecord 25 = .ok (.getfield 47, 3) := by decide +kernel
theorem d_Maker_writeRecord_28 : decode b_Maker_writeRecord 28 = .ok (.iload_n 3, 1) := by decide +kernel
theorem d_Maker_writeRecord_29 : decode b_Maker_writeRecord 29 = .ok (.iconst 2, 1) := by decide +kernel
theorem d_Maker_writeRecord_30 : decode b_Maker_writeRecord 30 = .ok (.iadd, 1) := by decide +kernel
theorem d_Maker_writeRecord_31 : decode b_Maker_writeRecord 31 = .ok (.iload 5, 2) := by decide +kernel
theorem d_Maker_writeRecord_33 : decode b_Maker_writeRecord 33 = .ok (.ifCond .eq 15, 3) := by decide +kernel
theorem d_Maker_writeRecord_36 : decode b_Maker_writeRecord 36 = .ok (.aload_n 1, 1) := by decide +kernel
theorem d_Maker_writeRecord_37 : decode b_Maker_writeRecord 37 = .ok (.getfield 137, 3) := by decide +kernel
theorem d_Maker_writeRecord_40 : decode b_Maker_writeRecord 40 = .ok (.aload_n 2, 1) := by decide +kernel
theorem d_Maker_writeRecord_41 : decode b_Maker_writeRecord 41 = .ok (.getfield 134, 3) := by decide +kernel
theorem d_Maker_writeRecord_44 : decode b_Maker_writeRecord 44 = .ok (.iaload, 1) := by decide +kernel
theorem d_Maker_writeRecord_45 : decode b_Maker_writeRecord 45 = .ok (.goto 12, 3) := by decide +kernel
theorem d_Maker_writeRecord_48 : decode b_Maker_writeRecord 48 = .ok (.aload_n 0, 1) := by decide +kernel
theorem d_Maker_writeRecord_49 : decode b_Maker_writeRecord 49 = .ok (.getfield 39, 3) := by decide +kernel
theorem d_Maker_writeRecord_52 : decode b_Maker_writeRecord 52 = .ok (.aload_n 2, 1) := by decide +kernel
theorem d_Maker_writeRecord_53 : decode b_Maker_writeRecord 53 = .ok (.getfield 134, 3) := by decide +kernel
theorem d_Maker_writeRecord_56 : decode b_Maker_writeRecord 56 = .ok (.iaload, 1) := by decide +kernel
theorem d_Maker_writeRecord_57 : decode b_Maker_writeRecord 57 = .ok (.iconst 4, 1) := by decide +kernel
theorem d_Maker_writeRecord_58 : decode b_Maker_writeRecord 58 = .ok (.invokevirtual 225, 3) := by decide +kernel
theorem d_Maker_writeRecord_61 : decode b_Maker_writeRecord 61 = .ok (.aload_n 0, 1) := by decide +kernel
theorem d_Maker_writeRecord_62 : decode b_Maker_writeRecord 62 = .ok (.getfield 47, 3) := by decide +kernel
theorem d_Maker_writeRecord_65 : decode b_Maker_writeRecord 65 = .ok (.iload_n 3, 1) := by decide +kernel
theorem d_Maker_writeRecord_66 : decode b_Maker_writeRecord 66 = .ok (.bipush 10, 2) := by decide +kernel
theorem d_Maker_writeRecord_68 : decode b_Maker_writeRecord 68 = .ok (.iadd, 1) := by decide +kernel
theorem d_Maker_writeRecord_69 : decode b_Maker_writeRecord 69 = .ok (.iload 5, 2) := by decide +kernel
theorem d_Maker_writeRecord_71 : decode b_Maker_writeRecord 71 = .ok (.ifCond .eq 19, 3) := by decide +kernel
theorem d_Maker_writeRecord_74 : decode b_Maker_writeRecord 74 = .ok (.aload_n 1, 1) := by decide +kernel
theorem d_Maker_writeRecord_75 : decode b_Maker_writeRecord 75 = .ok (.getfield 140, 3) := by decide +kernel
theorem d_Maker_writeRecord_78 : decode b_Maker_writeRecord 78 = .ok (.aload_n 2, 1) := by decide +kernel
theorem d_Maker_writeRecord_79 : decode b_Maker_writeRecord 79 = .ok (.getfield 134, 3) := by decide +kernel
theorem d_Maker_writeRecord_82 : decode b_Maker_writeRecord 82 = .ok (.iaload, 1) := by decide +kernel
theorem d_Maker_writeRecord_83 : decode b_Maker_writeRecord 83 = .ok (.sipush 2048, 3) := by decide +kernel
theorem d_Maker_writeRecord_86 : decode b_Maker_writeRecord 86 = .ok (.imul, 1) := by decide +kernel
theorem d_Maker_writeRecord_87 : decode b_Maker_writeRecord 87 = .ok (.goto 7, 3) := by decide +kernel
theorem d_Maker_writeRecord_90 : decode b_Maker_writeRecord 90 = .ok (.aload_n 2, 1) := by decide +kernel
theorem d_Maker_writeRecord_91 : decode b_Maker_writeRecord 91 = .ok (.getfield 147, 3) := by decide +kernel
theorem d_Maker_writeRecord_94 : decode b_Maker_writeRecord 94 = .ok (.iconst 4, 1) := by decide +kernel
theorem d_Maker_writeRecord_95 : decode b_Maker_writeRecord 95 = .ok (.invokevirtual 225, 3) := by decide +kernel
theorem d_Maker_writeRecord_98 : decode b_Maker_writeRecord 98 = .ok (.aload_n 0, 1) := by decide +kernel
theorem d_Maker_writeRecord_99 : decode b_Maker_writeRecord 99 = .ok (.getfield 47, 3) := by decide +kernel
theorem d_Maker_writeRecord_102 : decode b_Maker_writeRecord 102 = .ok (.iload_n 3, 1) := by decide +kernel
theorem d_Maker_writeRecord_103 : decode b_Maker_writeRecord 103 = .ok (.bipush 18, 2) := by decide +kernel
theorem d_Maker_writeRecord_105 : decode b_Maker_writeRecord 105 = .ok (.iadd, 1) := by decide +kernel
theorem d_Maker_writeRecord_106 : decode b_Maker_writeRecord 106 = .ok (.getstatic 229, 3) := by decide +kernel
theorem d_Maker_writeRecord_109 : decode b_Maker_writeRecord 109 = .ok (.invokevirtual 232, 3) := by decide +kernel
theorem d_Maker_writeRecord_112 : decode b_Maker_writeRecord 112 = .ok (.aload_n 0, 1) := by decide +kernel
theorem d_Maker_writeRecord_113 : decode b_Maker_writeRecord 113 = .ok (.getfield 47, 3) := by decide +kernel
theorem d_Maker_writeRecord_116 : decode b_Maker_writeRecord 116 = .ok (.iload_n 3, 1) := by decide +kernel
theorem d_Maker_writeRecord_117 : decode b_Maker_writeRecord 117 = .ok (.bipush 25, 2) := by decide +kernel
theorem d_Maker_writeRecord_119 : decode b_Maker_writeRecord 119 = .ok (.iadd, 1) := by decide +kernel
theorem d_Maker_writeRecord_120 : decode b_Maker_writeRecord 120 = .ok (.iload 5, 2) := by decide +kernel
theorem d_Maker_writeRecord_122 : decode b_Maker_writeRecord 122 = .ok (.ifCond .eq 7, 3) := by decide +kernel
theorem d_Maker_writeRecord_125 : decode b_Maker_writeRecord 125 = .ok (.iconst 2, 1) := by decide +kernel
theorem d_Maker_writeRecord_126 : decode b_Maker_writeRecord 126 = .ok (.goto 4, 3) := by decide +kernel
theorem d_Maker_writeRecord_129 : decode b_Maker_writeRecord 129 = .ok (.iconst 0, 1) := by decide +kernel
theorem d_Maker_writeRecord_130 : decode b_Maker_writeRecord 130 = .ok (.invokevirtual 196, 3) := by decide +kernel
theorem d_Maker_writeRecord_133 : decode b_Maker_writeRecord 133 = .ok (.aload_n 0, 1) := by decide +kernel
theorem d_Maker_writeRecord_134 : decode b_Maker_writeRecord 134 = .ok (.getfield 47, 3) := by decide +kernel
theorem d_Maker_writeRecord_137 : decode b_Maker_writeRecord 137 = .ok (.iload_n 3, 1) := by decide +kernel
theorem d_Maker_writeRecord_138 : decode b_Maker_writeRecord 138 = .ok (.bipush 28, 2) := by decide +kernel
theorem d_Maker_writeRecord_140 : decode b_Maker_writeRecord 140 = .ok (.iadd, 1) := by decide +kernel
theorem d_Maker_writeRecord_141 : decode b_Maker_writeRecord 141 = .ok (.iconst 1, 1) := by decide +kernel
theorem d_Maker_writeRecord_142 : decode b_Maker_writeRecord 142 = .ok (.iconst 2, 1) := by decide +kernel
theorem d_Maker_writeRecord_143 : decode b_Maker_writeRecord 143 = .ok (.invokevirtual 225, 3) := by decide +kernel
theorem d_Maker_writeRecord_146 : decode b_Maker_writeRecord 146 = .ok (.aload_n 0, 1) := by decide +kernel
theorem d_Maker_writeRecord_147 : decode b_Maker_writeRecord 147 = .ok (.getfield 47, 3) := by decide +kernel
theorem d_Maker_writeRecord_150 : decode b_Maker_writeRecord 150 = .ok (.iload_n 3, 1) := by decide +kernel
theorem d_Maker_writeRecord_151 : decode b_Maker_writeRecord 151 = .ok (.bipush 32, 2) := by decide +kernel
theorem d_Maker_writeRecord_153 : decode b_Maker_writeRecord 153 = .ok (.iadd, 1) := by decide +kernel
theorem d_Maker_writeRecord_154 : decode b_Maker_writeRecord 154 = .ok (.aload_n 0, 1) := by decide +kernel
theorem d_Maker_writeRecord_155 : decode b_Maker_writeRecord 155 = .ok (.getfield 35, 3) := by decide +kernel
theorem d_Maker_writeRecord_158 : decode b_Maker_writeRecord 158 = .ok (.getfield 60, 3) := by decide +kernel
theorem d_Maker_writeRecord_161 : decode b_Maker_writeRecord 161 = .ok (.invokevirtual 196, 3) := by decide +kernel
theorem d_Maker_writeRecord_164 : decode b_Maker_writeRecord 164 = .ok (.aload_n 0, 1) := by decide +kernel
theorem d_Maker_writeRecord_165 : decode b_Maker_writeRecord 165 = .ok (.getfield 35, 3) := by decide +kernel
theorem d_Maker_writeRecord_168 : decode b_Maker_writeRecord 168 = .ok (.aload_n 0, 1) := by decide +kernel
theorem d_Maker_writeRecord_169 : decode b_Maker_writeRecord 169 = .ok (.getfield 47, 3) := by decide +kernel
theorem d_Maker_writeRecord_172 : decode b_Maker_writeRecord 172 = .ok (.iconst 0, 1) := by decide +kernel
theorem d_Maker_writeRecord_173 : decode b_Maker_writeRecord 173 = .ok (.iload_n 3, 1) := by decide +kernel
theorem d_Maker_writeRecord_174 : decode b_Maker_writeRecord 174 = .ok (.bipush 33, 2) := by decide +kernel
theorem d_Maker_writeRecord_176 : decode b_Maker_writeRecord 176 = .ok (.iadd, 1) := by decide +kernel
theorem d_Maker_writeRecord_177 : decode b_Maker_writeRecord 177 = .ok (.aload_n 0, 1) := by decide +kernel
theorem d_Maker_writeRecord_178 : decode b_Maker_writeRecord 178 = .ok (.getfield 35, 3) := by decide +kernel
theorem d_Maker_writeRecord_181 : decode b_Maker_writeRecord 181 = .ok (.getfield 60, 3) := by decide +kernel
theorem d_Maker_writeRecord_184 : decode b_Maker_writeRecord 184 = .ok (.invokevirtual 236, 3) := by decide +kernel
theorem d_Maker_writeRecord_187 : decode b_Maker_writeRecord 187 = .ok (.return_, 1) := by decide +kernel
set_option maxHeartbeats 4000000 in
set_option maxRecDepth 100000 in
theorem c3_writeRecord (l : Launch) (D : va_G) (cB cI cJ cZ cN cF : ClassId) (sz : Nat) (m0 : Nat) (tr : Nat) (im : Nat) (fi : Nat) (se : Nat) (u0 : Nat) (id : Nat) (ct : Nat) (ra : Int32) (ru : Int32) (wg : Int32) (l0 : Nat) (lo : Nat) (lp : Nat) (lt : Nat) (lb : Nat) (le : Nat) (ln : Int32) (lds : Int32) (ltb : Int32) (lc : Int32) (ld : Int32) (fb : Nat → Int32) (fe : Nat → Int32) (cc : Nat → Int32) (jq : Nat) (il : Int32) (jf : Nat → Int32) (iq : Nat) (n : Nat) (L : Int32) (f : Nat → Int32) (h0 : Nat) (kna : Nat) (kke : Nat) (kta : Nat) (so : Int32) (nu : Int32) (pa : Int32) (ab : Int32) (mo : Int32) (ow : Int32) (gr : Int32) (si : Int32) (sd : Int32) (td : Nat) (ts : Nat) (tl : Nat) (gd : Nat → Int32) (gs : Nat → Int32) (gl : Nat → Int32) (x : Int32) (y : Int32) (hL : 0 ≤ L.toInt ∧ L.toInt ≤ n) (hn : n ≤ 3000000) (hil : 0 ≤ il.toInt ∧ il.toInt ≤ 60) (hnu : 0 ≤ nu.toInt ∧ nu.toInt < 40) : Met l y_Maker_writeRecord w_Maker_writeRecord ({ frames := 2, cells := 0, slots := 0, locals := 59 }) (va_Pc [.ref m0, .ref l0, .ref h0, .int x, .int y] (fun U => U.heap.size = sz ∧ va_P D CL [(m0, .inr (4, [.ref tr, .ref im, .ref fi, .ref se, .ref u0, .ref id, .ref ct, .int ra, .int ru, .int wg])), (l0, .inr (3, [.int ln, .int lds, .int ltb, .ref lo, .ref lp, .ref lt, .ref lb, .ref le, .int lc, .int ld])), (lb, .inl (cI, 40, .inl fb)), (le, .inl (cI, 40, .inl fe)), (ct, .inl (cI, 40, .inl cc)), (id, .inr (1, [.ref jq, .int il])), (jq, .inl (cB, 60, .inl jf)), (im, .inr (1, [.ref iq, .int L])), (iq, .inl (cB, n, .inl f))] U.heap ∧ va_K D CL (TY cB cI cJ cZ cN cF) U ∧ NN U ∧ va_D (fun _ => True) [(m0, .inr (4, [.ref tr, .ref im, .ref fi, .ref se, .ref u0, .ref id, .ref ct, .int ra, .int ru, .int wg])), (l0, .inr (3, [.int ln, .int lds, .int ltb, .ref lo, .ref lp, .ref lt, .ref lb, .ref le, .int lc, .int ld])), (lb, .inl (cI, 40, .inl fb)), (le, .inl (cI, 40, .inl fe)), (ct, .inl (cI, 40, .inl cc)), (id, .inr (1, [.ref jq, .int il])), (jq, .inl (cB, 60, .inl jf)), (im, .inr (1, [.ref iq, .int L])), (iq, .inl (cB, n, .inl f))] ∧ SZ td ts tl gd gs gl (va_A [(m0, .inr (4, [.ref tr, .ref im, .ref fi, .ref se, .ref u0, .ref id, .ref ct, .int ra, .int ru, .int wg])), (l0, .inr (3, [.int ln, .int lds, .int ltb, .ref lo, .ref lp, .ref lt, .ref lb, .ref le, .int lc, .int ld])), (lb, .inl (cI, 40, .inl fb)), (le, .inl (cI, 40, .inl fe)), (ct, .inl (cI, 40, .inl cc)), (id, .inr (1, [.ref jq, .int il])), (jq, .inl (cB, 60, .inl jf)), (im, .inr (1, [.ref iq, .int L])), (iq, .inl (cB, n, .inl f))] sz) U U.heap ∧ RO D [(h0, .inr (5, [.int so, .ref kna, .ref kke, .ref kta, .int nu, .int pa, .int ab, .int mo, .int ow, .int gr, .int si, .int sd]))] (va_A [(m0, .inr (4, [.ref tr, .ref im, .ref fi, .ref se, .ref u0, .ref id, .ref ct, .int ra, .int ru, .int wg])), (l0, .inr (3, [.int ln, .int lds, .int ltb, .ref lo, .ref lp, .ref lt, .ref lb, .ref le, .int lc, .int ld])), (lb, .inl (cI, 40, .inl fb)), (le, .inl (cI, 40, .inl fe)), (ct, .inl (cI, 40, .inl cc)), (id, .inr (1, [.ref jq, .int il])), (jq, .inl (cB, 60, .inl jf)), (im, .inr (1, [.ref iq, .int L])), (iq, .inl (cB, n, .inl f))] sz) U U.heap)) (va_Qv (fun (u : (Nat → Int32)) => True) (fun (u : (Nat → Int32)) (t : State) => match u with | g => va_P D CL [(m0, .inr (4, [.ref tr, .ref im, .ref fi, .ref se, .ref u0, .ref id, .ref ct, .int ra, .int ru, .int wg])), (l0, .inr (3, [.int ln, .int lds, .int ltb, .ref lo, .ref lp, .ref lt, .ref lb, .ref le, .int lc, .int ld])), (lb, .inl (cI, 40, .inl fb)), (le, .inl (cI, 40, .inl fe)), (ct, .inl (cI, 40, .inl cc)), (id, .inr (1, [.ref jq, .int il])), (jq, .inl (cB, 60, .inl jf)), (im, .inr (1, [.ref iq, .int L])), (iq, .inl (cB, n, .inl g))] t.heap ∧ va_D (va_A [(m0, .inr (4, [.ref tr, .ref im, .ref fi, .ref se, .ref u0, .ref id, .ref ct, .int ra, .int ru, .int wg])), (l0, .inr (3, [.int ln, .int lds, .int ltb, .ref lo, .ref lp, .ref lt, .ref lb, .ref le, .int lc, .int ld])), (lb, .inl (cI, 40, .inl fb)), (le, .inl (cI, 40, .inl fe)), (ct, .inl (cI, 40, .inl cc)), (id, .inr (1, [.ref jq, .int il])), (jq, .inl (cB, 60, .inl jf)), (im, .inr (1, [.ref iq, .int L])), (iq, .inl (cB, n, .inl f))] sz) [(m0, .inr (4, [.ref tr, .ref im, .ref fi, .ref se, .ref u0, .ref id, .ref ct, .int ra, .int ru, .int wg])), (l0, .inr (3, [.int ln, .int lds, .int ltb, .ref lo, .ref lp, .ref lt, .ref lb, .ref le, .int lc, .int ld])), (lb, .inl (cI, 40, .inl fb)), (le, .inl (cI, 40, .inl fe)), (ct, .inl (cI, 40, .inl cc)), (id, .inr (1, [.ref jq, .int il])), (jq, .inl (cB, 60, .inl jf)), (im, .inr (1, [.ref iq, .int L])), (iq, .inl (cB, n, .inl g))]) (va_A [(m0, .inr (4, [.ref tr, .ref im, .ref fi, .ref se, .ref u0, .ref id, .ref ct, .int ra, .int ru, .int wg])), (l0, .inr (3, [.int ln, .int lds, .int ltb, .ref lo, .ref lp, .ref lt, .ref lb, .ref le, .int lc, .int ld])), (lb, .inl (cI, 40, .inl fb)), (le, .inl (cI, 40, .inl fe)), (ct, .inl (cI, 40, .inl cc)), (id, .inr (1, [.ref jq, .int il])), (jq, .inl (cB, 60, .inl jf)), (im, .inr (1, [.ref iq, .int L])), (iq, .inl (cB, n, .inl f))] sz)) 0 0 (va_A [(m0, .inr (4, [.ref tr, .ref im, .ref fi, .ref se, .ref u0, .ref id, .ref ct, .int ra, .int ru, .int wg])), (l0, .inr (3, [.int ln, .int lds, .int ltb, .ref lo, .ref lp, .ref lt, .ref lb, .ref le, .int lc, .int ld])), (lb, .inl (cI, 40, .inl fb)), (le, .inl (cI, 40, .inl fe)), (ct, .inl (cI, 40, .inl cc)), (id, .inr (1, [.ref jq, .int il])), (jq, .inl (cB, 60, .inl jf)), (im, .inr (1, [.ref iq, .int L])), (iq, .inl (cB, n, .inl f))] sz) := by
  refine Met.ofW (cc := b_Maker_writeRecord) (maxL := 6) (ret := none) (by decide +kernel) rfl ?_
  intro p e s m args below meth c s₁ B hml hv
  obtain ⟨rfl, hsz, hP, hK, hN, hD0, hZs, hZr⟩ := hv
  have hx := B.exec
  have hb := B.bytes
  have hr := B.returns
  have hts := atoms_spec (ws := w_Maker_writeRecord) B.pre
  have ht9 := fun (w : Cond) (h : w ∈ lw_g) => hts w (List.mem_cons_of_mem _ h)
  have hown : s.vm.findClass "DiscMaker$Maker" = some m.cls := findClass_of_methodNamed B.named
  have hlocks := B.notSynchronized
  subst hsz
  have hD := hD0.self (sz := s.heap.size)
  generalize hAe : va_A [(m0, .inr (4, [.ref tr, .ref im, .ref fi, .ref se, .ref u0, .ref id, .ref ct, .int ra, .int ru, .int wg])), (l0, .inr (3, [.int ln, .int lds, .int ltb, .ref lo, .ref lp, .ref lt, .ref lb, .ref le, .int lc, .int ld])), (lb, .inl (cI, 40, .inl fb)), (le, .inl (cI, 40, .inl fe)), (ct, .inl (cI, 40, .inl cc)), (id, .inr (1, [.ref jq, .int il])), (jq, .inl (cB, 60, .inl jf)), (im, .inr (1, [.ref iq, .int L])), (iq, .inl (cB, n, .inl f))] s.heap.size = A at hD hZs hZr ⊢
  have hA : ∀ q : Nat, s.heap.size ≤ q → A q := fun q h => by rw [← hAe]; exact Or.inr h
  have hS : va_S A s.heap s.heap [] := va_S.rf
  have hP : va_P D CL [(m0, .inr (4, [.ref tr, .ref im, .ref fi, .ref se, .ref u0, .ref id, .ref ct, .int ra, .int ru, .int wg])), (l0, .inr (3, [.int ln, .int lds, .int ltb, .ref lo, .ref lp, .ref lt, .ref lb, .ref le, .int lc, .int ld])), (lb, .inl (cI, 40, .inl fb)), (le, .inl (cI, 40, .inl fe)), (ct, .inl (cI, 40, .inl cc)), (id, .inr (1, [.ref jq, .int il])), (jq, .inl (cB, 60, .inl jf)), (im, .inr (1, [.ref iq, .int L])), (iq, .inl (cB, n, .inl f))] s.heap := hP
  have hl := lv_entry [.ref m0, .ref l0, .ref h0, .int x, .int y] (n := 6) (Nat.le_of_ble_eq_true rfl)
  rw [lg_entry_eq]
  generalize (lg_sl [.ref m0, .ref l0, .ref h0, .int x, .int y] ++ List.replicate (6 - (lg_sl [.ref m0, .ref l0, .ref h0, .int x, .int y]).length) Slot.unset).toArray = ls at hl ⊢
  have hl : lv_has ls 6 [(0, .ref m0), (1, .ref l0), (2, .ref h0), (3, .int x), (4, .int y)] := hl
  have L_m1 : ((-1) : Int32).toInt = (-1) := by decide
  have L_0 : (0 : Int32).toInt = 0 := by decide
  have L_1 : (1 : Int32).toInt = 1 := by decide
  have L_2 : (2 : Int32).toInt = 2 := by decide
  have L_4 : (4 : Int32).toInt = 4 := by decide
  have L_10 : (10 : Int32).toInt = 10 := by decide
  have L_18 : (18 : Int32).toInt = 18 := by decide
  have L_25 : (25 : Int32).toInt = 25 := by decide
  have L_28 : (28 : Int32).toInt = 28 := by decide
  have L_32 : (32 : Int32).toInt = 32 := by decide
  have L_33 : (33 : Int32).toInt = 33 := by decide
  have L_2048 : (2048 : Int32).toInt = 2048 := by decide
  refine lv_aload_n hx hb d_Maker_writeRecord_0 rfl (lv_at hl 2 rfl) ?_
  have hPR := RO_at hZr hS
  refine va_getN (D := D) (ci := 5) (v := .int so) (C := "DiscMaker$Node") (T := F_Node) (N := 12) hx hb ht9 in_Node hown hK hPR 0 rfl rfl 0 (by decide) (va_Nw.use rfl (hN _ k181)) (fun _ h9 => h9) rfl d_Maker_writeRecord_1 ?_
  refine lv_if_ne (tgt := 11) hx hb d_Maker_writeRecord_4 (by decide) (fun h_9 => ?_) (fun h_9 => ?_)
  · skip
    have g4_3 : ¬ so.toInt = 0 := fun h8 => h_9 ((i_eq rfl (by decide)).mpr h8)
    refine lv_iconst (v := 0) hx hb d_Maker_writeRecord_11 (by decide) ?_
    refine lv_istore hx hb d_Maker_writeRecord_12 hl (by decide) rfl (fun ls hl => ?_)
    have hl : lv_has ls 6 [(5, .int 0), (0, .ref m0), (1, .ref l0), (2, .ref h0), (3, .int x), (4, .int y)] := hl
    refine lv_aload_n hx hb d_Maker_writeRecord_14 rfl (lv_at hl 1 rfl) ?_
    refine va_get (D := D) (ci := 4) (v := .ref im) (C := "DiscMaker$Maker") (T := F_Maker) (N := 10) hx hb ht9 in_Maker hown hK hP 0 rfl rfl 1 (by decide) (ht9 _ k348) (fun _ h9 => h9) rfl d_Maker_writeRecord_15 ?_
    refine lv_iload_n hx hb d_Maker_writeRecord_18 rfl (lv_at hl 4 rfl) ?_
    refine lv_iload hx hb d_Maker_writeRecord_19 (lv_at hl 5 rfl) ?_
    have hPc := hP.sub (ws' := [(im, .inr (1, [.ref iq, .int L])), (iq, .inl (cB, n, .inl f))]) [7, 8] rfl
    have hDc := hD.sub (ws' := [(im, .inr (1, [.ref iq, .int L])), (iq, .inl (cB, n, .inl f))]) [7, 8] (by decide +kernel) rfl
    have hFc := va_free (wc := [(im, .inr (1, [.ref iq, .int L])), (iq, .inl (cB, n, .inl f))]) hD hS hA [7, 8] rfl
    have hkc : 0 ≤ 0 := by decide
    have hks : 0 ≤ 0 := by decide
    refine va_callv (va_runV (C := "DiscMaker$Bytes") (As := [.int x, .int y]) (rest := []) ⟨hx, hb, hml, hown, hts⟩ (c3_put l D cB cI cJ cZ cN cF s.heap.size im iq n L f x y (by (try dsimp only); first | assumption | omega | trivial) (by (try dsimp only); first | assumption | omega | trivial)) (cwV 2 hts (lg_goodV k978 k912 k913 k119 kc_Bytes_put) rfl rfl rfl (by decide +kernel) ⟨Nat.le_of_ble_eq_true rfl, Nat.le_of_ble_eq_true rfl⟩) ⟨fun a U g mk q => by obtain ⟨q0, q1, qP, qK, qN, qD⟩ := q; exact ⟨q0, q1, qP, va_K.moved (u := U) (U := U.calling g mk a) (Vm.Alike.refl U.vm) qK, qN.calling, qD⟩, va_recv hK hP (ci := 1) (q0 := 7) rfl rfl, fun U hU hW => ⟨rfl, by rw [hU], by rw [hU]; exact hPc, va_K.moved hW.alike hK, NN.warm hW hN, hDc.weaken (fun _ _ _ _ => trivial)⟩⟩ rfl rfl hl.1 rfl (lv_room (Nat.le_of_ble_eq_true rfl)) d_Maker_writeRecord_21 ⟨hkc, hks⟩) hS (fun q _ h => hFc q h) hFc (fun u t H1 locs ht hvm hp_r1 hB hz1 hk1 hS => ?_)
    obtain ⟨g_2, rfl⟩ : ∃ z, z = u := ⟨_, rfl⟩
    obtain ⟨hP1, hD1⟩ := hB
    rw [ht] at hP1
    obtain ⟨hP, hD⟩ := va_join (wr := [(m0, .inr (4, [.ref tr, .ref im, .ref fi, .ref se, .ref u0, .ref id, .ref ct, .int ra, .int ru, .int wg])), (l0, .inr (3, [.int ln, .int lds, .int ltb, .ref lo, .ref lp, .ref lt, .ref lb, .ref le, .int lc, .int ld])), (lb, .inl (cI, 40, .inl fb)), (le, .inl (cI, 40, .inl fe)), (ct, .inl (cI, 40, .inl cc)), (id, .inr (1, [.ref jq, .int il])), (jq, .inl (cB, 60, .inl jf))]) (w1 := [(im, .inr (1, [.ref iq, .int L])), (iq, .inl (cB, n, .inl g_2))]) hP hD [7, 8] [0, 1, 2, 3, 4, 5, 6] rfl rfl (by decide +kernel) (by decide +kernel) hk1 hFc hP1 hD1
    clear hPc hDc hFc hP1 hD1 hk1 hz1 hkc hks
    generalize H1 = H at hP hS ⊢
    have hP : va_P D CL [(m0, .inr (4, [.ref tr, .ref im, .ref fi, .ref se, .ref u0, .ref id, .ref ct, .int ra, .int ru, .int wg])), (l0, .inr (3, [.int ln, .int lds, .int ltb, .ref lo, .ref lp, .ref lt, .ref lb, .ref le, .int lc, .int ld])), (lb, .inl (cI, 40, .inl fb)), (le, .inl (cI, 40, .inl fe)), (ct, .inl (cI, 40, .inl cc)), (id, .inr (1, [.ref jq, .int il])), (jq, .inl (cB, 60, .inl jf)), (im, .inr (1, [.ref iq, .int L])), (iq, .inl (cB, n, .inl g_2))] H := hP
    have hD : va_D A [(m0, .inr (4, [.ref tr, .ref im, .ref fi, .ref se, .ref u0, .ref id, .ref ct, .int ra, .int ru, .int wg])), (l0, .inr (3, [.int ln, .int lds, .int ltb, .ref lo, .ref lp, .ref lt, .ref lb, .ref le, .int lc, .int ld])), (lb, .inl (cI, 40, .inl fb)), (le, .inl (cI, 40, .inl fe)), (ct, .inl (cI, 40, .inl cc)), (id, .inr (1, [.ref jq, .int il])), (jq, .inl (cB, 60, .inl jf)), (im, .inr (1, [.ref iq, .int L])), (iq, .inl (cB, n, .inl g_2))] := hD
    refine lv_aload_n hx hb d_Maker_writeRecord_24 rfl (lv_at hl 1 rfl) ?_
    refine va_get (D := D) (ci := 4) (v := .ref im) (C := "DiscMaker$Maker") (T := F_Maker) (N := 10) hx hb ht9 in_Maker hown hK hP 0 rfl rfl 1 (by decide) (ht9 _ k348) (fun _ h9 => h9) rfl d_Maker_writeRecord_25 ?_
    refine lv_iload_n hx hb d_Maker_writeRecord_28 rfl (lv_at hl 4 rfl) ?_
    refine lv_iconst (v := 2) hx hb d_Maker_writeRecord_29 (by decide) ?_
    refine lv_iadd hx hb d_Maker_writeRecord_30 ?_
    refine lv_topi (fun v3 e_v3 => ?_)
    refine lv_iload hx hb d_Maker_writeRecord_31 (lv_at hl 0 rfl) ?_
    refine lv_if_eq (tgt := 48) hx hb d_Maker_writeRecord_33 (by decide) (fun _ => ?_) (fun h_9 => absurd (by decide) h_9)
    refine lv_aload_n hx hb d_Maker_writeRecord_48 rfl (lv_at hl 1 rfl) ?_
    refine va_get (D := D) (ci := 4) (v := .ref ct) (C := "DiscMaker$Maker") (T := F_Maker) (N := 10) hx hb ht9 in_Maker hown hK hP 0 rfl rfl 6 (by decide) (ht9 _ k353) (fun _ h9 => h9) rfl d_Maker_writeRecord_49 ?_
    refine lv_aload_n hx hb d_Maker_writeRecord_52 rfl (lv_at hl 3 rfl) ?_
    have hPR := RO_at hZr hS
    refine va_getN (D := D) (ci := 5) (v := .int nu) (C := "DiscMaker$Node") (T := F_Node) (N := 12) hx hb ht9 in_Node hown hK hPR 0 rfl rfl 4 (by decide) (va_Nw.use rfl (hN _ k195)) (fun _ h9 => h9) rfl d_Maker_writeRecord_53 ?_
    refine va_iald hx hb hK hP 4 1 rfl rfl (vp_in_iff.mpr ⟨by omega, by omega⟩) d_Maker_writeRecord_56 ?_
    refine lv_topi (fun v4 e_v4 => ?_)
    refine lv_iconst (v := 4) hx hb d_Maker_writeRecord_57 (by decide) ?_
    have hPc := hP.sub (ws' := [(im, .inr (1, [.ref iq, .int L])), (iq, .inl (cB, n, .inl g_2))]) [7, 8] rfl
    have hDc := hD.sub (ws' := [(im, .inr (1, [.ref iq, .int L])), (iq, .inl (cB, n, .inl g_2))]) [7, 8] (by decide +kernel) rfl
    have hFc := va_free (wc := [(im, .inr (1, [.ref iq, .int L])), (iq, .inl (cB, n, .inl g_2))]) hD hS hA [7, 8] rfl
    have hkc : 0 ≤ 0 := by decide
    have hks : 0 ≤ 0 := by decide
    refine va_callv (va_runV (C := "DiscMaker$Bytes") (As := [.int v3, .int v4, .int 4]) (rest := []) ⟨hx, hb, hml, hown, hts⟩ (c3_putBoth l D cB cI cJ cZ cN cF H.size im iq n L g_2 v3 v4 4 (by (try dsimp only); first | assumption | omega | trivial) (by (try dsimp only); first | assumption | omega | trivial) (by (try dsimp only); first | assumption | omega | trivial)) (cwV 3 hts (lg_goodV k1056 k1023 k1024 k119 kc_Bytes_putBoth) rfl rfl rfl (by decide +kernel) ⟨Nat.le_of_ble_eq_true rfl, Nat.le_of_ble_eq_true rfl⟩) ⟨fun a U g mk q => by obtain ⟨q0, q1, qP, qK, qN, qD⟩ := q; exact ⟨q0, q1, qP, va_K.moved (u := U) (U := U.calling g mk a) (Vm.Alike.refl U.vm) qK, qN.calling, qD⟩, va_recv hK hP (ci := 1) (q0 := 7) rfl rfl, fun U hU hW => ⟨rfl, by rw [hU], by rw [hU]; exact hPc, va_K.moved hW.alike hK, NN.warm hW hN, hDc.weaken (fun _ _ _ _ => trivial)⟩⟩ rfl rfl hl.1 rfl (lv_room (Nat.le_of_ble_eq_true rfl)) d_Maker_writeRecord_58 ⟨hkc, hks⟩) hS (fun q _ h => hFc q h) hFc (fun u t H1 locs ht hvm hp_r5 hB hz1 hk1 hS => ?_)
    obtain ⟨g_6, rfl⟩ : ∃ z, z = u := ⟨_, rfl⟩
    obtain ⟨hP1, hD1⟩ := hB
    rw [ht] at hP1
    obtain ⟨hP, hD⟩ := va_join (wr := [(m0, .inr (4, [.ref tr, .ref im, .ref fi, .ref se, .ref u0, .ref id, .ref ct, .int ra, .int ru, .int wg])), (l0, .inr (3, [.int ln, .int lds, .int ltb, .ref lo, .ref lp, .ref lt, .ref lb, .ref le, .int lc, .int ld])), (lb, .inl (cI, 40, .inl fb)), (le, .inl (cI, 40, .inl fe)), (ct, .inl (cI, 40, .inl cc)), (id, .inr (1, [.ref jq, .int il])), (jq, .inl (cB, 60, .inl jf))]) (w1 := [(im, .inr (1, [.ref iq, .int L])), (iq, .inl (cB, n, .inl g_6))]) hP hD [7, 8] [0, 1, 2, 3, 4, 5, 6] rfl rfl (by decide +kernel) (by decide +kernel) hk1 hFc hP1 hD1
    clear hPc hDc hFc hP1 hD1 hk1 hz1 hkc hks
    generalize H1 = H at hP hS ⊢
    have hP : va_P D CL [(m0, .inr (4, [.ref tr, .ref im, .ref fi, .ref se, .ref u0, .ref id, .ref ct, .int ra, .int ru, .int wg])), (l0, .inr (3, [.int ln, .int lds, .int ltb, .ref lo, .ref lp, .ref lt, .ref lb, .ref le, .int lc, .int ld])), (lb, .inl (cI, 40, .inl fb)), (le, .inl (cI, 40, .inl fe)), (ct, .inl (cI, 40, .inl cc)), (id, .inr (1, [.ref jq, .int il])), (jq, .inl (cB, 60, .inl jf)), (im, .inr (1, [.ref iq, .int L])), (iq, .inl (cB, n, .inl g_6))] H := hP
    have hD : va_D A [(m0, .inr (4, [.ref tr, .ref im, .ref fi, .ref se, .ref u0, .ref id, .ref ct, .int ra, .int ru, .int wg])), (l0, .inr (3, [.int ln, .int lds, .int ltb, .ref lo, .ref lp, .ref lt, .ref lb, .ref le, .int lc, .int ld])), (lb, .inl (cI, 40, .inl fb)), (le, .inl (cI, 40, .inl fe)), (ct, .inl (cI, 40, .inl cc)), (id, .inr (1, [.ref jq, .int il])), (jq, .inl (cB, 60, .inl jf)), (im, .inr (1, [.ref iq, .int L])), (iq, .inl (cB, n, .inl g_6))] := hD
    refine lv_aload_n hx hb d_Maker_writeRecord_61 rfl (lv_at hl 1 rfl) ?_
    refine va_get (D := D) (ci := 4) (v := .ref im) (C := "DiscMaker$Maker") (T := F_Maker) (N := 10) hx hb ht9 in_Maker hown hK hP 0 rfl rfl 1 (by decide) (ht9 _ k348) (fun _ h9 => h9) rfl d_Maker_writeRecord_62 ?_
    refine lv_iload_n hx hb d_Maker_writeRecord_65 rfl (lv_at hl 4 rfl) ?_
    refine lv_bipush (v := 10) hx hb d_Maker_writeRecord_66 (by decide) ?_
    refine lv_iadd hx hb d_Maker_writeRecord_68 ?_
    refine lv_topi (fun v7 e_v7 => ?_)
    refine lv_iload hx hb d_Maker_writeRecord_69 (lv_at hl 0 rfl) ?_
    refine lv_if_eq (tgt := 90) hx hb d_Maker_writeRecord_71 (by decide) (fun _ => ?_) (fun h_9 => absurd (by decide) h_9)
    refine lv_aload_n hx hb d_Maker_writeRecord_90 rfl (lv_at hl 3 rfl) ?_
    have hPR := RO_at hZr hS
    refine va_getN (D := D) (ci := 5) (v := .int si) (C := "DiscMaker$Node") (T := F_Node) (N := 12) hx hb ht9 in_Node hown hK hPR 0 rfl rfl 10 (by decide) (va_Nw.use rfl (hN _ k207)) (fun _ h9 => h9) rfl d_Maker_writeRecord_91 ?_
    refine lv_iconst (v := 4) hx hb d_Maker_writeRecord_94 (by decide) ?_
    have hPc := hP.sub (ws' := [(im, .inr (1, [.ref iq, .int L])), (iq, .inl (cB, n, .inl g_6))]) [7, 8] rfl
    have hDc := hD.sub (ws' := [(im, .inr (1, [.ref iq, .int L])), (iq, .inl (cB, n, .inl g_6))]) [7, 8] (by decide +kernel) rfl
    have hFc := va_free (wc := [(im, .inr (1, [.ref iq, .int L])), (iq, .inl (cB, n, .inl g_6))]) hD hS hA [7, 8] rfl
    have hkc : 0 ≤ 0 := by decide
    have hks : 0 ≤ 0 := by decide
    refine va_callv (va_runV (C := "DiscMaker$Bytes") (As := [.int v7, .int si, .int 4]) (rest := []) ⟨hx, hb, hml, hown, hts⟩ (c3_putBoth l D cB cI cJ cZ cN cF H.size im iq n L g_6 v7 si 4 (by (try dsimp only); first | assumption | omega | trivial) (by (try dsimp only); first | assumption | omega | trivial) (by (try dsimp only); first | assumption | omega | trivial)) (cwV 3 hts (lg_goodV k1056 k1023 k1024 k119 kc_Bytes_putBoth) rfl rfl rfl (by decide +kernel) ⟨Nat.le_of_ble_eq_true rfl, Nat.le_of_ble_eq_true rfl⟩) ⟨fun a U g mk q => by obtain ⟨q0, q1, qP, qK, qN, qD⟩ := q; exact ⟨q0, q1, qP, va_K.moved (u := U) (U := U.calling g mk a) (Vm.Alike.refl U.vm) qK, qN.calling, qD⟩, va_recv hK hP (ci := 1) (q0 := 7) rfl rfl, fun U hU hW => ⟨rfl, by rw [hU], by rw [hU]; exact hPc, va_K.moved hW.alike hK, NN.warm hW hN, hDc.weaken (fun _ _ _ _ => trivial)⟩⟩ rfl rfl hl.1 rfl (lv_room (Nat.le_of_ble_eq_true rfl)) d_Maker_writeRecord_95 ⟨hkc, hks⟩) hS (fun q _ h => hFc q h) hFc (fun u t H1 locs ht hvm hp_r8 hB hz1 hk1 hS => ?_)
    obtain ⟨g_9, rfl⟩ : ∃ z, z = u := ⟨_, rfl⟩
    obtain ⟨hP1, hD1⟩ := hB
    rw [ht] at hP1
    obtain ⟨hP, hD⟩ := va_join (wr := [(m0, .inr (4, [.ref tr, .ref im, .ref fi, .ref se, .ref u0, .ref id, .ref ct, .int ra, .int ru, .int wg])), (l0, .inr (3, [.int ln, .int lds, .int ltb, .ref lo, .ref lp, .ref lt, .ref lb, .ref le, .int lc, .int ld])), (lb, .inl (cI, 40, .inl fb)), (le, .inl (cI, 40, .inl fe)), (ct, .inl (cI, 40, .inl cc)), (id, .inr (1, [.ref jq, .int il])), (jq, .inl (cB, 60, .inl jf))]) (w1 := [(im, .inr (1, [.ref iq, .int L])), (iq, .inl (cB, n, .inl g_9))]) hP hD [7, 8] [0, 1, 2, 3, 4, 5, 6] rfl rfl (by decide +kernel) (by decide +kernel) hk1 hFc hP1 hD1
    clear hPc hDc hFc hP1 hD1 hk1 hz1 hkc hks
    generalize H1 = H at hP hS ⊢
    have hP : va_P D CL [(m0, .inr (4, [.ref tr, .ref im, .ref fi, .ref se, .ref u0, .ref id, .ref ct, .int ra, .int ru, .int wg])), (l0, .inr (3, [.int ln, .int lds, .int ltb, .ref lo, .ref lp, .ref lt, .ref lb, .ref le, .int lc, .int ld])), (lb, .inl (cI, 40, .inl fb)), (le, .inl (cI, 40, .inl fe)), (ct, .inl (cI, 40, .inl cc)), (id, .inr (1, [.ref jq, .int il])), (jq, .inl (cB, 60, .inl jf)), (im, .inr (1, [.ref iq, .int L])), (iq, .inl (cB, n, .inl g_9))] H := hP
    have hD : va_D A [(m0, .inr (4, [.ref tr, .ref im, .ref fi, .ref se, .ref u0, .ref id, .ref ct, .int ra, .int ru, .int wg])), (l0, .inr (3, [.int ln, .int lds, .int ltb, .ref lo, .ref lp, .ref lt, .ref lb, .ref le, .int lc, .int ld])), (lb, .inl (cI, 40, .inl fb)), (le, .inl (cI, 40, .inl fe)), (ct, .inl (cI, 40, .inl cc)), (id, .inr (1, [.ref jq, .int il])), (jq, .inl (cB, 60, .inl jf)), (im, .inr (1, [.ref iq, .int L])), (iq, .inl (cB, n, .inl g_9))] := hD
    refine lv_aload_n hx hb d_Maker_writeRecord_98 rfl (lv_at hl 1 rfl) ?_
    refine va_get (D := D) (ci := 4) (v := .ref im) (C := "DiscMaker$Maker") (T := F_Maker) (N := 10) hx hb ht9 in_Maker hown hK hP 0 rfl rfl 1 (by decide) (ht9 _ k348) (fun _ h9 => h9) rfl d_Maker_writeRecord_99 ?_
    refine lv_iload_n hx hb d_Maker_writeRecord_102 rfl (lv_at hl 4 rfl) ?_
    refine lv_bipush (v := 18) hx hb d_Maker_writeRecord_103 (by decide) ?_
    refine lv_iadd hx hb d_Maker_writeRecord_105 ?_
    refine lv_topi (fun v10 e_v10 => ?_)
    refine va_getsN (C := "DiscMaker") (n := "DAY") (d := "[B") (v := .ref td) hx hb (hZs.1.1) hS hown (va_Nw.use rfl (hN _ k1057)) (fun _ h9 => h9) d_Maker_writeRecord_106 ?_
    have hPc := hP.sub (ws' := [(im, .inr (1, [.ref iq, .int L])), (iq, .inl (cB, n, .inl g_9))]) [7, 8] rfl
    have hDc := hD.sub (ws' := [(im, .inr (1, [.ref iq, .int L])), (iq, .inl (cB, n, .inl g_9))]) [7, 8] (by decide +kernel) rfl
    have hFc := va_free (wc := [(im, .inr (1, [.ref iq, .int L])), (iq, .inl (cB, n, .inl g_9))]) hD hS hA [7, 8] rfl
    have hkc : 0 ≤ 0 := by decide
    have hks : 0 ≤ 0 := by decide
    refine va_callv (va_runV (C := "DiscMaker$Bytes") (As := [.int v10, .ref td]) (rest := []) ⟨hx, hb, hml, hown, hts⟩ (c3_putRowT l D cB cI cJ cZ cN cF H.size im iq n L g_9 td 7 gd v10 (by (try dsimp only); first | assumption | omega | trivial) (by (try dsimp only); first | assumption | omega | trivial) (by (try dsimp only); first | assumption | omega | trivial)) (cwV 2 hts (lg_goodV k1059 k1031 k1032 k119 kc_Bytes_putRow) rfl rfl rfl (by decide +kernel) ⟨Nat.le_of_ble_eq_true rfl, Nat.le_of_ble_eq_true rfl⟩) ⟨fun a U g mk q => by obtain ⟨q0, q1, qP, qK, qN, qD, qZ0⟩ := q; exact ⟨q0, q1, qP, va_K.moved (u := U) (U := U.calling g mk a) (Vm.Alike.refl U.vm) qK, qN.calling, qD, zT_blind qZ0⟩, va_recv hK hP (ci := 1) (q0 := 7) rfl rfl, fun U hU hW => ⟨rfl, by rw [hU], by rw [hU]; exact hPc, va_K.moved hW.alike hK, NN.warm hW hN, hDc.weaken (fun _ _ _ _ => trivial), zT_pass hZs.1.2 hS hFc hW.alike hU⟩⟩ rfl rfl hl.1 rfl (lv_room (Nat.le_of_ble_eq_true rfl)) d_Maker_writeRecord_109 ⟨hkc, hks⟩) hS (fun q _ h => hFc q h) hFc (fun u t H1 locs ht hvm hp_r11 hB hz1 hk1 hS => ?_)
    obtain ⟨g_12, rfl⟩ : ∃ z, z = u := ⟨_, rfl⟩
    obtain ⟨hP1, hD1⟩ := hB
    rw [ht] at hP1
    obtain ⟨hP, hD⟩ := va_join (wr := [(m0, .inr (4, [.ref tr, .ref im, .ref fi, .ref se, .ref u0, .ref id, .ref ct, .int ra, .int ru, .int wg])), (l0, .inr (3, [.int ln, .int lds, .int ltb, .ref lo, .ref lp, .ref lt, .ref lb, .ref le, .int lc, .int ld])), (lb, .inl (cI, 40, .inl fb)), (le, .inl (cI, 40, .inl fe)), (ct, .inl (cI, 40, .inl cc)), (id, .inr (1, [.ref jq, .int il])), (jq, .inl (cB, 60, .inl jf))]) (w1 := [(im, .inr (1, [.ref iq, .int L])), (iq, .inl (cB, n, .inl g_12))]) hP hD [7, 8] [0, 1, 2, 3, 4, 5, 6] rfl rfl (by decide +kernel) (by decide +kernel) hk1 hFc hP1 hD1
    clear hPc hDc hFc hP1 hD1 hk1 hz1 hkc hks
    generalize H1 = H at hP hS ⊢
    have hP : va_P D CL [(m0, .inr (4, [.ref tr, .ref im, .ref fi, .ref se, .ref u0, .ref id, .ref ct, .int ra, .int ru, .int wg])), (l0, .inr (3, [.int ln, .int lds, .int ltb, .ref lo, .ref lp, .ref lt, .ref lb, .ref le, .int lc, .int ld])), (lb, .inl (cI, 40, .inl fb)), (le, .inl (cI, 40, .inl fe)), (ct, .inl (cI, 40, .inl cc)), (id, .inr (1, [.ref jq, .int il])), (jq, .inl (cB, 60, .inl jf)), (im, .inr (1, [.ref iq, .int L])), (iq, .inl (cB, n, .inl g_12))] H := hP
    have hD : va_D A [(m0, .inr (4, [.ref tr, .ref im, .ref fi, .ref se, .ref u0, .ref id, .ref ct, .int ra, .int ru, .int wg])), (l0, .inr (3, [.int ln, .int lds, .int ltb, .ref lo, .ref lp, .ref lt, .ref lb, .ref le, .int lc, .int ld])), (lb, .inl (cI, 40, .inl fb)), (le, .inl (cI, 40, .inl fe)), (ct, .inl (cI, 40, .inl cc)), (id, .inr (1, [.ref jq, .int il])), (jq, .inl (cB, 60, .inl jf)), (im, .inr (1, [.ref iq, .int L])), (iq, .inl (cB, n, .inl g_12))] := hD
    refine lv_aload_n hx hb d_Maker_writeRecord_112 rfl (lv_at hl 1 rfl) ?_
    refine va_get (D := D) (ci := 4) (v := .ref im) (C := "DiscMaker$Maker") (T := F_Maker) (N := 10) hx hb ht9 in_Maker hown hK hP 0 rfl rfl 1 (by decide) (ht9 _ k348) (fun _ h9 => h9) rfl d_Maker_writeRecord_113 ?_
    refine lv_iload_n hx hb d_Maker_writeRecord_116 rfl (lv_at hl 4 rfl) ?_
    refine lv_bipush (v := 25) hx hb d_Maker_writeRecord_117 (by decide) ?_
    refine lv_iadd hx hb d_Maker_writeRecord_119 ?_
    refine lv_topi (fun v13 e_v13 => ?_)
    refine lv_iload hx hb d_Maker_writeRecord_120 (lv_at hl 0 rfl) ?_
    refine lv_if_eq (tgt := 129) hx hb d_Maker_writeRecord_122 (by decide) (fun _ => ?_) (fun h_9 => absurd (by decide) h_9)
    refine lv_iconst (v := 0) hx hb d_Maker_writeRecord_129 (by decide) ?_
    have hPc := hP.sub (ws' := [(im, .inr (1, [.ref iq, .int L])), (iq, .inl (cB, n, .inl g_12))]) [7, 8] rfl
    have hDc := hD.sub (ws' := [(im, .inr (1, [.ref iq, .int L])), (iq, .inl (cB, n, .inl g_12))]) [7, 8] (by decide +kernel) rfl
    have hFc := va_free (wc := [(im, .inr (1, [.ref iq, .int L])), (iq, .inl (cB, n, .inl g_12))]) hD hS hA [7, 8] rfl
    have hkc : 0 ≤ 0 := by decide
    have hks : 0 ≤ 0 := by decide
    refine va_callv (va_runV (C := "DiscMaker$Bytes") (As := [.int v13, .int 0]) (rest := []) ⟨hx, hb, hml, hown, hts⟩ (c3_put l D cB cI cJ cZ cN cF H.size im iq n L g_12 v13 0 (by (try dsimp only); first | assumption | omega | trivial) (by (try dsimp only); first | assumption | omega | trivial)) (cwV 2 hts (lg_goodV k978 k912 k913 k119 kc_Bytes_put) rfl rfl rfl (by decide +kernel) ⟨Nat.le_of_ble_eq_true rfl, Nat.le_of_ble_eq_true rfl⟩) ⟨fun a U g mk q => by obtain ⟨q0, q1, qP, qK, qN, qD⟩ := q; exact ⟨q0, q1, qP, va_K.moved (u := U) (U := U.calling g mk a) (Vm.Alike.refl U.vm) qK, qN.calling, qD⟩, va_recv hK hP (ci := 1) (q0 := 7) rfl rfl, fun U hU hW => ⟨rfl, by rw [hU], by rw [hU]; exact hPc, va_K.moved hW.alike hK, NN.warm hW hN, hDc.weaken (fun _ _ _ _ => trivial)⟩⟩ rfl rfl hl.1 rfl (lv_room (Nat.le_of_ble_eq_true rfl)) d_Maker_writeRecord_130 ⟨hkc, hks⟩) hS (fun q _ h => hFc q h) hFc (fun u t H1 locs ht hvm hp_r14 hB hz1 hk1 hS => ?_)
    obtain ⟨g_15, rfl⟩ : ∃ z, z = u := ⟨_, rfl⟩
    obtain ⟨hP1, hD1⟩ := hB
    rw [ht] at hP1
    obtain ⟨hP, hD⟩ := va_join (wr := [(m0, .inr (4, [.ref tr, .ref im, .ref fi, .ref se, .ref u0, .ref id, .ref ct, .int ra, .int ru, .int wg])), (l0, .inr (3, [.int ln, .int lds, .int ltb, .ref lo, .ref lp, .ref lt, .ref lb, .ref le, .int lc, .int ld])), (lb, .inl (cI, 40, .inl fb)), (le, .inl (cI, 40, .inl fe)), (ct, .inl (cI, 40, .inl cc)), (id, .inr (1, [.ref jq, .int il])), (jq, .inl (cB, 60, .inl jf))]) (w1 := [(im, .inr (1, [.ref iq, .int L])), (iq, .inl (cB, n, .inl g_15))]) hP hD [7, 8] [0, 1, 2, 3, 4, 5, 6] rfl rfl (by decide +kernel) (by decide +kernel) hk1 hFc hP1 hD1
    clear hPc hDc hFc hP1 hD1 hk1 hz1 hkc hks
    generalize H1 = H at hP hS ⊢
    have hP : va_P D CL [(m0, .inr (4, [.ref tr, .ref im, .ref fi, .ref se, .ref u0, .ref id, .ref ct, .int ra, .int ru, .int wg])), (l0, .inr (3, [.int ln, .int lds, .int ltb, .ref lo, .ref lp, .ref lt, .ref lb, .ref le, .int lc, .int ld])), (lb, .inl (cI, 40, .inl fb)), (le, .inl (cI, 40, .inl fe)), (ct, .inl (cI, 40, .inl cc)), (id, .inr (1, [.ref jq, .int il])), (jq, .inl (cB, 60, .inl jf)), (im, .inr (1, [.ref iq, .int L])), (iq, .inl (cB, n, .inl g_15))] H := hP
    have hD : va_D A [(m0, .inr (4, [.ref tr, .ref im, .ref fi, .ref se, .ref u0, .ref id, .ref ct, .int ra, .int ru, .int wg])), (l0, .inr (3, [.int ln, .int lds, .int ltb, .ref lo, .ref lp, .ref lt, .ref lb, .ref le, .int lc, .int ld])), (lb, .inl (cI, 40, .inl fb)), (le, .inl (cI, 40, .inl fe)), (ct, .inl (cI, 40, .inl cc)), (id, .inr (1, [.ref jq, .int il])), (jq, .inl (cB, 60, .inl jf)), (im, .inr (1, [.ref iq, .int L])), (iq, .inl (cB, n, .inl g_15))] := hD
    refine lv_aload_n hx hb d_Maker_writeRecord_133 rfl (lv_at hl 1 rfl) ?_
    refine va_get (D := D) (ci := 4) (v := .ref im) (C := "DiscMaker$Maker") (T := F_Maker) (N := 10) hx hb ht9 in_Maker hown hK hP 0 rfl rfl 1 (by decide) (ht9 _ k348) (fun _ h9 => h9) rfl d_Maker_writeRecord_134 ?_
    refine lv_iload_n hx hb d_Maker_writeRecord_137 rfl (lv_at hl 4 rfl) ?_
    refine lv_bipush (v := 28) hx hb d_Maker_writeRecord_138 (by decide) ?_
    refine lv_iadd hx hb d_Maker_writeRecord_140 ?_
    refine lv_topi (fun v16 e_v16 => ?_)
    refine lv_iconst (v := 1) hx hb d_Maker_writeRecord_141 (by decide) ?_
    refine lv_iconst (v := 2) hx hb d_Maker_writeRecord_142 (by decide) ?_
    have hPc := hP.sub (ws' := [(im, .inr (1, [.ref iq, .int L])), (iq, .inl (cB, n, .inl g_15))]) [7, 8] rfl
    have hDc := hD.sub (ws' := [(im, .inr (1, [.ref iq, .int L])), (iq, .inl (cB, n, .inl g_15))]) [7, 8] (by decide +kernel) rfl
    have hFc := va_free (wc := [(im, .inr (1, [.ref iq, .int L])), (iq, .inl (cB, n, .inl g_15))]) hD hS hA [7, 8] rfl
    have hkc : 0 ≤ 0 := by decide
    have hks : 0 ≤ 0 := by decide
    refine va_callv (va_runV (C := "DiscMaker$Bytes") (As := [.int v16, .int 1, .int 2]) (rest := []) ⟨hx, hb, hml, hown, hts⟩ (c3_putBoth l D cB cI cJ cZ cN cF H.size im iq n L g_15 v16 1 2 (by (try dsimp only); first | assumption | omega | trivial) (by (try dsimp only); first | assumption | omega | trivial) (by (try dsimp only); first | assumption | omega | trivial)) (cwV 3 hts (lg_goodV k1056 k1023 k1024 k119 kc_Bytes_putBoth) rfl rfl rfl (by decide +kernel) ⟨Nat.le_of_ble_eq_true rfl, Nat.le_of_ble_eq_true rfl⟩) ⟨fun a U g mk q => by obtain ⟨q0, q1, qP, qK, qN, qD⟩ := q; exact ⟨q0, q1, qP, va_K.moved (u := U) (U := U.calling g mk a) (Vm.Alike.refl U.vm) qK, qN.calling, qD⟩, va_recv hK hP (ci := 1) (q0 := 7) rfl rfl, fun U hU hW => ⟨rfl, by rw [hU], by rw [hU]; exact hPc, va_K.moved hW.alike hK, NN.warm hW hN, hDc.weaken (fun _ _ _ _ => trivial)⟩⟩ rfl rfl hl.1 rfl (lv_room (Nat.le_of_ble_eq_true rfl)) d_Maker_writeRecord_143 ⟨hkc, hks⟩) hS (fun q _ h => hFc q h) hFc (fun u t H1 locs ht hvm hp_r17 hB hz1 hk1 hS => ?_)
    obtain ⟨g_18, rfl⟩ : ∃ z, z = u := ⟨_, rfl⟩
    obtain ⟨hP1, hD1⟩ := hB
    rw [ht] at hP1
    obtain ⟨hP, hD⟩ := va_join (wr := [(m0, .inr (4, [.ref tr, .ref im, .ref fi, .ref se, .ref u0, .ref id, .ref ct, .int ra, .int ru, .int wg])), (l0, .inr (3, [.int ln, .int lds, .int ltb, .ref lo, .ref lp, .ref lt, .ref lb, .ref le, .int lc, .int ld])), (lb, .inl (cI, 40, .inl fb)), (le, .inl (cI, 40, .inl fe)), (ct, .inl (cI, 40, .inl cc)), (id, .inr (1, [.ref jq, .int il])), (jq, .inl (cB, 60, .inl jf))]) (w1 := [(im, .inr (1, [.ref iq, .int L])), (iq, .inl (cB, n, .inl g_18))]) hP hD [7, 8] [0, 1, 2, 3, 4, 5, 6] rfl rfl (by decide +kernel) (by decide +kernel) hk1 hFc hP1 hD1
    clear hPc hDc hFc hP1 hD1 hk1 hz1 hkc hks
    generalize H1 = H at hP hS ⊢
    have hP : va_P D CL [(m0, .inr (4, [.ref tr, .ref im, .ref fi, .ref se, .ref u0, .ref id, .ref ct, .int ra, .int ru, .int wg])), (l0, .inr (3, [.int ln, .int lds, .int ltb, .ref lo, .ref lp, .ref lt, .ref lb, .ref le, .int lc, .int ld])), (lb, .inl (cI, 40, .inl fb)), (le, .inl (cI, 40, .inl fe)), (ct, .inl (cI, 40, .inl cc)), (id, .inr (1, [.ref jq, .int il])), (jq, .inl (cB, 60, .inl jf)), (im, .inr (1, [.ref iq, .int L])), (iq, .inl (cB, n, .inl g_18))] H := hP
    have hD : va_D A [(m0, .inr (4, [.ref tr, .ref im, .ref fi, .ref se, .ref u0, .ref id, .ref ct, .int ra, .int ru, .int wg])), (l0, .inr (3, [.int ln, .int lds, .int ltb, .ref lo, .ref lp, .ref lt, .ref lb, .ref le, .int lc, .int ld])), (lb, .inl (cI, 40, .inl fb)), (le, .inl (cI, 40, .inl fe)), (ct, .inl (cI, 40, .inl cc)), (id, .inr (1, [.ref jq, .int il])), (jq, .inl (cB, 60, .inl jf)), (im, .inr (1, [.ref iq, .int L])), (iq, .inl (cB, n, .inl g_18))] := hD
    refine lv_aload_n hx hb d_Maker_writeRecord_146 rfl (lv_at hl 1 rfl) ?_
    refine va_get (D := D) (ci := 4) (v := .ref im) (C := "DiscMaker$Maker") (T := F_Maker) (N := 10) hx hb ht9 in_Maker hown hK hP 0 rfl rfl 1 (by decide) (ht9 _ k348) (fun _ h9 => h9) rfl d_Maker_writeRecord_147 ?_
    refine lv_iload_n hx hb d_Maker_writeRecord_150 rfl (lv_at hl 4 rfl) ?_
    refine lv_bipush (v := 32) hx hb d_Maker_writeRecord_151 (by decide) ?_
    refine lv_iadd hx hb d_Maker_writeRecord_153 ?_
    refine lv_topi (fun v19 e_v19 => ?_)
    refine lv_aload_n hx hb d_Maker_writeRecord_154 rfl (lv_at hl 1 rfl) ?_
    refine va_get (D := D) (ci := 4) (v := .ref id) (C := "DiscMaker$Maker") (T := F_Maker) (N := 10) hx hb ht9 in_Maker hown hK hP 0 rfl rfl 5 (by decide) (ht9 _ k352) (fun _ h9 => h9) rfl d_Maker_writeRecord_155 ?_
    refine va_getN (D := D) (ci := 1) (v := .int il) (C := "DiscMaker$Bytes") (T := F_Bytes) (N := 2) hx hb ht9 in_Bytes hown hK hP 5 rfl rfl 1 (by decide) (va_Nw.use rfl (hN _ k257)) (fun _ h9 => h9) rfl d_Maker_writeRecord_158 ?_
    have hPc := hP.sub (ws' := [(im, .inr (1, [.ref iq, .int L])), (iq, .inl (cB, n, .inl g_18))]) [7, 8] rfl
    have hDc := hD.sub (ws' := [(im, .inr (1, [.ref iq, .int L])), (iq, .inl (cB, n, .inl g_18))]) [7, 8] (by decide +kernel) rfl
    have hFc := va_free (wc := [(im, .inr (1, [.ref iq, .int L])), (iq, .inl (cB, n, .inl g_18))]) hD hS hA [7, 8] rfl
    have hkc : 0 ≤ 0 := by decide
    have hks : 0 ≤ 0 := by decide
    refine va_callv (va_runV (C := "DiscMaker$Bytes") (As := [.int v19, .int il]) (rest := []) ⟨hx, hb, hml, hown, hts⟩ (c3_put l D cB cI cJ cZ cN cF H.size im iq n L g_18 v19 il (by (try dsimp only); first | assumption | omega | trivial) (by (try dsimp only); first | assumption | omega | trivial)) (cwV 2 hts (lg_goodV k978 k912 k913 k119 kc_Bytes_put) rfl rfl rfl (by decide +kernel) ⟨Nat.le_of_ble_eq_true rfl, Nat.le_of_ble_eq_true rfl⟩) ⟨fun a U g mk q => by obtain ⟨q0, q1, qP, qK, qN, qD⟩ := q; exact ⟨q0, q1, qP, va_K.moved (u := U) (U := U.calling g mk a) (Vm.Alike.refl U.vm) qK, qN.calling, qD⟩, va_recv hK hP (ci := 1) (q0 := 7) rfl rfl, fun U hU hW => ⟨rfl, by rw [hU], by rw [hU]; exact hPc, va_K.moved hW.alike hK, NN.warm hW hN, hDc.weaken (fun _ _ _ _ => trivial)⟩⟩ rfl rfl hl.1 rfl (lv_room (Nat.le_of_ble_eq_true rfl)) d_Maker_writeRecord_161 ⟨hkc, hks⟩) hS (fun q _ h => hFc q h) hFc (fun u t H1 locs ht hvm hp_r20 hB hz1 hk1 hS => ?_)
    obtain ⟨g_21, rfl⟩ : ∃ z, z = u := ⟨_, rfl⟩
    obtain ⟨hP1, hD1⟩ := hB
    rw [ht] at hP1
    obtain ⟨hP, hD⟩ := va_join (wr := [(m0, .inr (4, [.ref tr, .ref im, .ref fi, .ref se, .ref u0, .ref id, .ref ct, .int ra, .int ru, .int wg])), (l0, .inr (3, [.int ln, .int lds, .int ltb, .ref lo, .ref lp, .ref lt, .ref lb, .ref le, .int lc, .int ld])), (lb, .inl (cI, 40, .inl fb)), (le, .inl (cI, 40, .inl fe)), (ct, .inl (cI, 40, .inl cc)), (id, .inr (1, [.ref jq, .int il])), (jq, .inl (cB, 60, .inl jf))]) (w1 := [(im, .inr (1, [.ref iq, .int L])), (iq, .inl (cB, n, .inl g_21))]) hP hD [7, 8] [0, 1, 2, 3, 4, 5, 6] rfl rfl (by decide +kernel) (by decide +kernel) hk1 hFc hP1 hD1
    clear hPc hDc hFc hP1 hD1 hk1 hz1 hkc hks
    generalize H1 = H at hP hS ⊢
    have hP : va_P D CL [(m0, .inr (4, [.ref tr, .ref im, .ref fi, .ref se, .ref u0, .ref id, .ref ct, .int ra, .int ru, .int wg])), (l0, .inr (3, [.int ln, .int lds, .int ltb, .ref lo, .ref lp, .ref lt, .ref lb, .ref le, .int lc, .int ld])), (lb, .inl (cI, 40, .inl fb)), (le, .inl (cI, 40, .inl fe)), (ct, .inl (cI, 40, .inl cc)), (id, .inr (1, [.ref jq, .int il])), (jq, .inl (cB, 60, .inl jf)), (im, .inr (1, [.ref iq, .int L])), (iq, .inl (cB, n, .inl g_21))] H := hP
    have hD : va_D A [(m0, .inr (4, [.ref tr, .ref im, .ref fi, .ref se, .ref u0, .ref id, .ref ct, .int ra, .int ru, .int wg])), (l0, .inr (3, [.int ln, .int lds, .int ltb, .ref lo, .ref lp, .ref lt, .ref lb, .ref le, .int lc, .int ld])), (lb, .inl (cI, 40, .inl fb)), (le, .inl (cI, 40, .inl fe)), (ct, .inl (cI, 40, .inl cc)), (id, .inr (1, [.ref jq, .int il])), (jq, .inl (cB, 60, .inl jf)), (im, .inr (1, [.ref iq, .int L])), (iq, .inl (cB, n, .inl g_21))] := hD
    refine lv_aload_n hx hb d_Maker_writeRecord_164 rfl (lv_at hl 1 rfl) ?_
    refine va_get (D := D) (ci := 4) (v := .ref id) (C := "DiscMaker$Maker") (T := F_Maker) (N := 10) hx hb ht9 in_Maker hown hK hP 0 rfl rfl 5 (by decide) (ht9 _ k352) (fun _ h9 => h9) rfl d_Maker_writeRecord_165 ?_
    refine lv_aload_n hx hb d_Maker_writeRecord_168 rfl (lv_at hl 1 rfl) ?_
    refine va_get (D := D) (ci := 4) (v := .ref im) (C := "DiscMaker$Maker") (T := F_Maker) (N := 10) hx hb ht9 in_Maker hown hK hP 0 rfl rfl 1 (by decide) (ht9 _ k348) (fun _ h9 => h9) rfl d_Maker_writeRecord_169 ?_
    refine lv_iconst (v := 0) hx hb d_Maker_writeRecord_172 (by decide) ?_
    refine lv_iload_n hx hb d_Maker_writeRecord_173 rfl (lv_at hl 4 rfl) ?_
    refine lv_bipush (v := 33) hx hb d_Maker_writeRecord_174 (by decide) ?_
    refine lv_iadd hx hb d_Maker_writeRecord_176 ?_
    refine lv_topi (fun v22 e_v22 => ?_)
    refine lv_aload_n hx hb d_Maker_writeRecord_177 rfl (lv_at hl 1 rfl) ?_
    refine va_get (D := D) (ci := 4) (v := .ref id) (C := "DiscMaker$Maker") (T := F_Maker) (N := 10) hx hb ht9 in_Maker hown hK hP 0 rfl rfl 5 (by decide) (ht9 _ k352) (fun _ h9 => h9) rfl d_Maker_writeRecord_178 ?_
    refine va_getN (D := D) (ci := 1) (v := .int il) (C := "DiscMaker$Bytes") (T := F_Bytes) (N := 2) hx hb ht9 in_Bytes hown hK hP 5 rfl rfl 1 (by decide) (va_Nw.use rfl (hN _ k257)) (fun _ h9 => h9) rfl d_Maker_writeRecord_181 ?_
    have hPc := hP.sub (ws' := [(id, .inr (1, [.ref jq, .int il])), (jq, .inl (cB, 60, .inl jf)), (im, .inr (1, [.ref iq, .int L])), (iq, .inl (cB, n, .inl g_21))]) [5, 6, 7, 8] rfl
    have hDc := hD.sub (ws' := [(id, .inr (1, [.ref jq, .int il])), (jq, .inl (cB, 60, .inl jf)), (im, .inr (1, [.ref iq, .int L])), (iq, .inl (cB, n, .inl g_21))]) [5, 6, 7, 8] (by decide +kernel) rfl
    have hFc := va_free (wc := [(id, .inr (1, [.ref jq, .int il])), (jq, .inl (cB, 60, .inl jf)), (im, .inr (1, [.ref iq, .int L])), (iq, .inl (cB, n, .inl g_21))]) hD hS hA [5, 6, 7, 8] rfl
    have hkc : 0 ≤ 0 := by decide
    have hks : 0 ≤ 0 := by decide
    refine va_callv (va_runV (C := "DiscMaker$Bytes") (As := [.ref im, .int 0, .int v22, .int il]) (rest := []) ⟨hx, hb, hml, hown, hts⟩ (c3_copyTo l D cB cI cJ cZ cN cF H.size id jq 60 il jf im iq n L g_21 0 v22 il (by (try dsimp only); first | assumption | omega | trivial) (by (try dsimp only); first | assumption | omega | trivial) (by (try dsimp only); first | assumption | omega | trivial) (by (try dsimp only); first | assumption | omega | trivial)) (cwV 4 hts (lg_goodV k1060 k1061 k1062 k119 kc_Bytes_copyTo) rfl rfl rfl (by decide +kernel) ⟨Nat.le_of_ble_eq_true rfl, Nat.le_of_ble_eq_true rfl⟩) ⟨fun a U g mk q => by obtain ⟨q0, q1, qP, qK, qN, qD⟩ := q; exact ⟨q0, q1, qP, va_K.moved (u := U) (U := U.calling g mk a) (Vm.Alike.refl U.vm) qK, qN.calling, qD⟩, va_recv hK hP (ci := 1) (q0 := 5) rfl rfl, fun U hU hW => ⟨rfl, by rw [hU], by rw [hU]; exact hPc, va_K.moved hW.alike hK, NN.warm hW hN, hDc.weaken (fun _ _ _ _ => trivial)⟩⟩ rfl rfl hl.1 rfl (lv_room (Nat.le_of_ble_eq_true rfl)) d_Maker_writeRecord_184 ⟨hkc, hks⟩) hS (fun q _ h => hFc q h) hFc (fun u t H1 locs ht hvm hp_r23 hB hz1 hk1 hS => ?_)
    obtain ⟨g_24, rfl⟩ : ∃ z, z = u := ⟨_, rfl⟩
    obtain ⟨hP1, hD1⟩ := hB
    rw [ht] at hP1
    obtain ⟨hP, hD⟩ := va_join (wr := [(m0, .inr (4, [.ref tr, .ref im, .ref fi, .ref se, .ref u0, .ref id, .ref ct, .int ra, .int ru, .int wg])), (l0, .inr (3, [.int ln, .int lds, .int ltb, .ref lo, .ref lp, .ref lt, .ref lb, .ref le, .int lc, .int ld])), (lb, .inl (cI, 40, .inl fb)), (le, .inl (cI, 40, .inl fe)), (ct, .inl (cI, 40, .inl cc))]) (w1 := [(id, .inr (1, [.ref jq, .int il])), (jq, .inl (cB, 60, .inl jf)), (im, .inr (1, [.ref iq, .int L])), (iq, .inl (cB, n, .inl g_24))]) hP hD [5, 6, 7, 8] [0, 1, 2, 3, 4] rfl rfl (by decide +kernel) (by decide +kernel) hk1 hFc hP1 hD1
    clear hPc hDc hFc hP1 hD1 hk1 hz1 hkc hks
    generalize H1 = H at hP hS ⊢
    have hP : va_P D CL [(m0, .inr (4, [.ref tr, .ref im, .ref fi, .ref se, .ref u0, .ref id, .ref ct, .int ra, .int ru, .int wg])), (l0, .inr (3, [.int ln, .int lds, .int ltb, .ref lo, .ref lp, .ref lt, .ref lb, .ref le, .int lc, .int ld])), (lb, .inl (cI, 40, .inl fb)), (le, .inl (cI, 40, .inl fe)), (ct, .inl (cI, 40, .inl cc)), (id, .inr (1, [.ref jq, .int il])), (jq, .inl (cB, 60, .inl jf)), (im, .inr (1, [.ref iq, .int L])), (iq, .inl (cB, n, .inl g_24))] H := hP
    have hD : va_D A [(m0, .inr (4, [.ref tr, .ref im, .ref fi, .ref se, .ref u0, .ref id, .ref ct, .int ra, .int ru, .int wg])), (l0, .inr (3, [.int ln, .int lds, .int ltb, .ref lo, .ref lp, .ref lt, .ref lb, .ref le, .int lc, .int ld])), (lb, .inl (cI, 40, .inl fb)), (le, .inl (cI, 40, .inl fe)), (ct, .inl (cI, 40, .inl cc)), (id, .inr (1, [.ref jq, .int il])), (jq, .inl (cB, 60, .inl jf)), (im, .inr (1, [.ref iq, .int L])), (iq, .inl (cB, n, .inl g_24))] := hD
    have hP9 := hP.sub (ws' := [(m0, .inr (4, [.ref tr, .ref im, .ref fi, .ref se, .ref u0, .ref id, .ref ct, .int ra, .int ru, .int wg])), (l0, .inr (3, [.int ln, .int lds, .int ltb, .ref lo, .ref lp, .ref lt, .ref lb, .ref le, .int lc, .int ld])), (lb, .inl (cI, 40, .inl fb)), (le, .inl (cI, 40, .inl fe)), (ct, .inl (cI, 40, .inl cc)), (id, .inr (1, [.ref jq, .int il])), (jq, .inl (cB, 60, .inl jf)), (im, .inr (1, [.ref iq, .int L])), (iq, .inl (cB, n, .inl g_24))]) [0, 1, 2, 3, 4, 5, 6, 7, 8] rfl
    have hD9 := hD.sub (ws' := [(m0, .inr (4, [.ref tr, .ref im, .ref fi, .ref se, .ref u0, .ref id, .ref ct, .int ra, .int ru, .int wg])), (l0, .inr (3, [.int ln, .int lds, .int ltb, .ref lo, .ref lp, .ref lt, .ref lb, .ref le, .int lc, .int ld])), (lb, .inl (cI, 40, .inl fb)), (le, .inl (cI, 40, .inl fe)), (ct, .inl (cI, 40, .inl cc)), (id, .inr (1, [.ref jq, .int il])), (jq, .inl (cB, 60, .inl jf)), (im, .inr (1, [.ref iq, .int L])), (iq, .inl (cB, n, .inl g_24))]) [0, 1, 2, 3, 4, 5, 6, 7, 8] (by decide +kernel) rfl
    exact W.vret hx hb hr (fun t ht hW => ⟨⟨g_24, rfl, trivial, by rw [ht]; exact hP9, hD9⟩, hS.F ht⟩) hS.2.2 d_Maker_writeRecord_187
  · skip
    have g4_3 : so.toInt = 0 := (i_eq rfl (by decide)).mp h_9
    refine lv_iconst (v := 1) hx hb d_Maker_writeRecord_7 (by decide) ?_
    refine lv_goto (tgt := 12) hx hb d_Maker_writeRecord_8 (by decide) ?_
    refine lv_istore hx hb d_Maker_writeRecord_12 hl (by decide) rfl (fun ls hl => ?_)
    have hl : lv_has ls 6 [(5, .int 1), (0, .ref m0), (1, .ref l0), (2, .ref h0), (3, .int x), (4, .int y)] := hl
    refine lv_aload_n hx hb d_Maker_writeRecord_14 rfl (lv_at hl 1 rfl) ?_
    refine va_get (D := D) (ci := 4) (v := .ref im) (C := "DiscMaker$Maker") (T := F_Maker) (N := 10) hx hb ht9 in_Maker hown hK hP 0 rfl rfl 1 (by decide) (ht9 _ k348) (fun _ h9 => h9) rfl d_Maker_writeRecord_15 ?_
    refine lv_iload_n hx hb d_Maker_writeRecord_18 rfl (lv_at hl 4 rfl) ?_
    refine lv_iload hx hb d_Maker_writeRecord_19 (lv_at hl 5 rfl) ?_
    have hPc := hP.sub (ws' := [(im, .inr (1, [.ref iq, .int L])), (iq, .inl (cB, n, .inl f))]) [7, 8] rfl
    have hDc := hD.sub (ws' := [(im, .inr (1, [.ref iq, .int L])), (iq, .inl (cB, n, .inl f))]) [7, 8] (by decide +kernel) rfl
    have hFc := va_free (wc := [(im, .inr (1, [.ref iq, .int L])), (iq, .inl (cB, n, .inl f))]) hD hS hA [7, 8] rfl
    have hkc : 0 ≤ 0 := by decide
    have hks : 0 ≤ 0 := by decide
    refine va_callv (va_runV (C := "DiscMaker$Bytes") (As := [.int x, .int y]) (rest := []) ⟨hx, hb, hml, hown, hts⟩ (c3_put l D cB cI cJ cZ cN cF s.heap.size im iq n L f x y (by (try dsimp only); first | assumption | omega | trivial) (by (try dsimp only); first | assumption | omega | trivial)) (cwV 2 hts (lg_goodV k978 k912 k913 k119 kc_Bytes_put) rfl rfl rfl (by decide +kernel) ⟨Nat.le_of_ble_eq_true rfl, Nat.le_of_ble_eq_true rfl⟩) ⟨fun a U g mk q => by obtain ⟨q0, q1, qP, qK, qN, qD⟩ := q; exact ⟨q0, q1, qP, va_K.moved (u := U) (U := U.calling g mk a) (Vm.Alike.refl U.vm) qK, qN.calling, qD⟩, va_recv hK hP (ci := 1) (q0 := 7) rfl rfl, fun U hU hW => ⟨rfl, by rw [hU], by rw [hU]; exact hPc, va_K.moved hW.alike hK, NN.warm hW hN, hDc.weaken (fun _ _ _ _ => trivial)⟩⟩ rfl rfl hl.1 rfl (lv_room (Nat.le_of_ble_eq_true rfl)) d_Maker_writeRecord_21 ⟨hkc, hks⟩) hS (fun q _ h => hFc q h) hFc (fun u t H1 locs ht hvm hp_r25 hB hz1 hk1 hS => ?_)
    obtain ⟨g_26, rfl⟩ : ∃ z, z = u := ⟨_, rfl⟩
    obtain ⟨hP1, hD1⟩ := hB
    rw [ht] at hP1
    obtain ⟨hP, hD⟩ := va_join (wr := [(m0, .inr (4, [.ref tr, .ref im, .ref fi, .ref se, .ref u0, .ref id, .ref ct, .int ra, .int ru, .int wg])), (l0, .inr (3, [.int ln, .int lds, .int ltb, .ref lo, .ref lp, .ref lt, .ref lb, .ref le, .int lc, .int ld])), (lb, .inl (cI, 40, .inl fb)), (le, .inl (cI, 40, .inl fe)), (ct, .inl (cI, 40, .inl cc)), (id, .inr (1, [.ref jq, .int il])), (jq, .inl (cB, 60, .inl jf))]) (w1 := [(im, .inr (1, [.ref iq, .int L])), (iq, .inl (cB, n, .inl g_26))]) hP hD [7, 8] [0, 1, 2, 3, 4, 5, 6] rfl rfl (by decide +kernel) (by decide +kernel) hk1 hFc hP1 hD1
    clear hPc hDc hFc hP1 hD1 hk1 hz1 hkc hks
    generalize H1 = H at hP hS ⊢
    have hP : va_P D CL [(m0, .inr (4, [.ref tr, .ref im, .ref fi, .ref se, .ref u0, .ref id, .ref ct, .int ra, .int ru, .int wg])), (l0, .inr (3, [.int ln, .int lds, .int ltb, .ref lo, .ref lp, .ref lt, .ref lb, .ref le, .int lc, .int ld])), (lb, .inl (cI, 40, .inl fb)), (le, .inl (cI, 40, .inl fe)), (ct, .inl (cI, 40, .inl cc)), (id, .inr (1, [.ref jq, .int il])), (jq, .inl (cB, 60, .inl jf)), (im, .inr (1, [.ref iq, .int L])), (iq, .inl (cB, n, .inl g_26))] H := hP
    have hD : va_D A [(m0, .inr (4, [.ref tr, .ref im, .ref fi, .ref se, .ref u0, .ref id, .ref ct, .int ra, .int ru, .int wg])), (l0, .inr (3, [.int ln, .int lds, .int ltb, .ref lo, .ref lp, .ref lt, .ref lb, .ref le, .int lc, .int ld])), (lb, .inl (cI, 40, .inl fb)), (le, .inl (cI, 40, .inl fe)), (ct, .inl (cI, 40, .inl cc)), (id, .inr (1, [.ref jq, .int il])), (jq, .inl (cB, 60, .inl jf)), (im, .inr (1, [.ref iq, .int L])), (iq, .inl (cB, n, .inl g_26))] := hD
    refine lv_aload_n hx hb d_Maker_writeRecord_24 rfl (lv_at hl 1 rfl) ?_
    refine va_get (D := D) (ci := 4) (v := .ref im) (C := "DiscMaker$Maker") (T := F_Maker) (N := 10) hx hb ht9 in_Maker hown hK hP 0 rfl rfl 1 (by decide) (ht9 _ k348) (fun _ h9 => h9) rfl d_Maker_writeRecord_25 ?_
    refine lv_iload_n hx hb d_Maker_writeRecord_28 rfl (lv_at hl 4 rfl) ?_
    refine lv_iconst (v := 2) hx hb d_Maker_writeRecord_29 (by decide) ?_
    refine lv_iadd hx hb d_Maker_writeRecord_30 ?_
    refine lv_topi (fun v27 e_v27 => ?_)
    refine lv_iload hx hb d_Maker_writeRecord_31 (lv_at hl 0 rfl) ?_
    refine lv_if_eq (tgt := 48) hx hb d_Maker_writeRecord_33 (by decide) (fun h_9 => absurd h_9 (by decide)) (fun _ => ?_)
    refine lv_aload_n hx hb d_Maker_writeRecord_36 rfl (lv_at hl 2 rfl) ?_
    refine va_getN (D := D) (ci := 3) (v := .ref lb) (C := "DiscMaker$Layout") (T := F_Layout) (N := 10) hx hb ht9 in_Layout hown hK hP 1 rfl rfl 6 (by decide) (va_Nw.use rfl (hN _ k293)) (fun _ h9 => h9) rfl d_Maker_writeRecord_37 ?_
    refine lv_aload_n hx hb d_Maker_writeRecord_40 rfl (lv_at hl 3 rfl) ?_
    have hPR := RO_at hZr hS
    refine va_getN (D := D) (ci := 5) (v := .int nu) (C := "DiscMaker$Node") (T := F_Node) (N := 12) hx hb ht9 in_Node hown hK hPR 0 rfl rfl 4 (by decide) (va_Nw.use rfl (hN _ k195)) (fun _ h9 => h9) rfl d_Maker_writeRecord_41 ?_
    refine va_iald hx hb hK hP 2 1 rfl rfl (vp_in_iff.mpr ⟨by omega, by omega⟩) d_Maker_writeRecord_44 ?_
    refine lv_topi (fun v28 e_v28 => ?_)
    refine lv_goto (tgt := 57) hx hb d_Maker_writeRecord_45 (by decide) ?_
    refine lv_iconst (v := 4) hx hb d_Maker_writeRecord_57 (by decide) ?_
    have hPc := hP.sub (ws' := [(im, .inr (1, [.ref iq, .int L])), (iq, .inl (cB, n, .inl g_26))]) [7, 8] rfl
    have hDc := hD.sub (ws' := [(im, .inr (1, [.ref iq, .int L])), (iq, .inl (cB, n, .inl g_26))]) [7, 8] (by decide +kernel) rfl
    have hFc := va_free (wc := [(im, .inr (1, [.ref iq, .int L])), (iq, .inl (cB, n, .inl g_26))]) hD hS hA [7, 8] rfl
    have hkc : 0 ≤ 0 := by decide
    have hks : 0 ≤ 0 := by decide
    refine va_callv (va_runV (C := "DiscMaker$Bytes") (As := [.int v27, .int v28, .int 4]) (rest := []) ⟨hx, hb, hml, hown, hts⟩ (c3_putBoth l D cB cI cJ cZ cN cF H.size im iq n L g_26 v27 v28 4 (by (try dsimp only); first | assumption | omega | trivial) (by (try dsimp only); first | assumption | omega | trivial) (by (try dsimp only); first | assumption | omega | trivial)) (cwV 3 hts (lg_goodV k1056 k1023 k1024 k119 kc_Bytes_putBoth) rfl rfl rfl (by decide +kernel) ⟨Nat.le_of_ble_eq_true rfl, Nat.le_of_ble_eq_true rfl⟩) ⟨fun a U g mk q => by obtain ⟨q0, q1, qP, qK, qN, qD⟩ := q; exact ⟨q0, q1, qP, va_K.moved (u := U) (U := U.calling g mk a) (Vm.Alike.refl U.vm) qK, qN.calling, qD⟩, va_recv hK hP (ci := 1) (q0 := 7) rfl rfl, fun U hU hW => ⟨rfl, by rw [hU], by rw [hU]; exact hPc, va_K.moved hW.alike hK, NN.warm hW hN, hDc.weaken (fun _ _ _ _ => trivial)⟩⟩ rfl rfl hl.1 rfl (lv_room (Nat.le_of_ble_eq_true rfl)) d_Maker_writeRecord_58 ⟨hkc, hks⟩) hS (fun q _ h => hFc q h) hFc (fun u t H1 locs ht hvm hp_r29 hB hz1 hk1 hS => ?_)
    obtain ⟨g_30, rfl⟩ : ∃ z, z = u := ⟨_, rfl⟩
    obtain ⟨hP1, hD1⟩ := hB
    rw [ht] at hP1
    obtain ⟨hP, hD⟩ := va_join (wr := [(m0, .inr (4, [.ref tr, .ref im, .ref fi, .ref se, .ref u0, .ref id, .ref ct, .int ra, .int ru, .int wg])), (l0, .inr (3, [.int ln, .int lds, .int ltb, .ref lo, .ref lp, .ref lt, .ref lb, .ref le, .int lc, .int ld])), (lb, .inl (cI, 40, .inl fb)), (le, .inl (cI, 40, .inl fe)), (ct, .inl (cI, 40, .inl cc)), (id, .inr (1, [.ref jq, .int il])), (jq, .inl (cB, 60, .inl jf))]) (w1 := [(im, .inr (1, [.ref iq, .int L])), (iq, .inl (cB, n, .inl g_30))]) hP hD [7, 8] [0, 1, 2, 3, 4, 5, 6] rfl rfl (by decide +kernel) (by decide +kernel) hk1 hFc hP1 hD1
    clear hPc hDc hFc hP1 hD1 hk1 hz1 hkc hks
    generalize H1 = H at hP hS ⊢
    have hP : va_P D CL [(m0, .inr (4, [.ref tr, .ref im, .ref fi, .ref se, .ref u0, .ref id, .ref ct, .int ra, .int ru, .int wg])), (l0, .inr (3, [.int ln, .int lds, .int ltb, .ref lo, .ref lp, .ref lt, .ref lb, .ref le, .int lc, .int ld])), (lb, .inl (cI, 40, .inl fb)), (le, .inl (cI, 40, .inl fe)), (ct, .inl (cI, 40, .inl cc)), (id, .inr (1, [.ref jq, .int il])), (jq, .inl (cB, 60, .inl jf)), (im, .inr (1, [.ref iq, .int L])), (iq, .inl (cB, n, .inl g_30))] H := hP
    have hD : va_D A [(m0, .inr (4, [.ref tr, .ref im, .ref fi, .ref se, .ref u0, .ref id, .ref ct, .int ra, .int ru, .int wg])), (l0, .inr (3, [.int ln, .int lds, .int ltb, .ref lo, .ref lp, .ref lt, .ref lb, .ref le, .int lc, .int ld])), (lb, .inl (cI, 40, .inl fb)), (le, .inl (cI, 40, .inl fe)), (ct, .inl (cI, 40, .inl cc)), (id, .inr (1, [.ref jq, .int il])), (jq, .inl (cB, 60, .inl jf)), (im, .inr (1, [.ref iq, .int L])), (iq, .inl (cB, n, .inl g_30))] := hD
    refine lv_aload_n hx hb d_Maker_writeRecord_61 rfl (lv_at hl 1 rfl) ?_
    refine va_get (D := D) (ci := 4) (v := .ref im) (C := "DiscMaker$Maker") (T := F_Maker) (N := 10) hx hb ht9 in_Maker hown hK hP 0 rfl rfl 1 (by decide) (ht9 _ k348) (fun _ h9 => h9) rfl d_Maker_writeRecord_62 ?_
    refine lv_iload_n hx hb d_Maker_writeRecord_65 rfl (lv_at hl 4 rfl) ?_
    refine lv_bipush (v := 10) hx hb d_Maker_writeRecord_66 (by decide) ?_
    refine lv_iadd hx hb d_Maker_writeRecord_68 ?_
    refine lv_topi (fun v31 e_v31 => ?_)
    refine lv_iload hx hb d_Maker_writeRecord_69 (lv_at hl 0 rfl) ?_
    refine lv_if_eq (tgt := 90) hx hb d_Maker_writeRecord_71 (by decide) (fun h_9 => absurd h_9 (by decide)) (fun _ => ?_)
    refine lv_aload_n hx hb d_Maker_writeRecord_74 rfl (lv_at hl 2 rfl) ?_
    refine va_getN (D := D) (ci := 3) (v := .ref le) (C := "DiscMaker$Layout") (T := F_Layout) (N := 10) hx hb ht9 in_Layout hown hK hP 1 rfl rfl 7 (by decide) (va_Nw.use rfl (hN _ k295)) (fun _ h9 => h9) rfl d_Maker_writeRecord_75 ?_
    refine lv_aload_n hx hb d_Maker_writeRecord_78 rfl (lv_at hl 3 rfl) ?_
    have hPR := RO_at hZr hS
    refine va_getN (D := D) (ci := 5) (v := .int nu) (C := "DiscMaker$Node") (T := F_Node) (N := 12) hx hb ht9 in_Node hown hK hPR 0 rfl rfl 4 (by decide) (va_Nw.use rfl (hN _ k195)) (fun _ h9 => h9) rfl d_Maker_writeRecord_79 ?_
    refine va_iald hx hb hK hP 3 1 rfl rfl (vp_in_iff.mpr ⟨by omega, by omega⟩) d_Maker_writeRecord_82 ?_
    refine lv_topi (fun v32 e_v32 => ?_)
    refine lv_sipush (v := 2048) hx hb d_Maker_writeRecord_83 (by decide) ?_
    refine lv_imul hx hb d_Maker_writeRecord_86 ?_
    refine lv_topi (fun v33 e_v33 => ?_)
    refine lv_goto (tgt := 94) hx hb d_Maker_writeRecord_87 (by decide) ?_
    refine lv_iconst (v := 4) hx hb d_Maker_writeRecord_94 (by decide) ?_
    have hPc := hP.sub (ws' := [(im, .inr (1, [.ref iq, .int L])), (iq, .inl (cB, n, .inl g_30))]) [7, 8] rfl
    have hDc := hD.sub (ws' := [(im, .inr (1, [.ref iq, .int L])), (iq, .inl (cB, n, .inl g_30))]) [7, 8] (by decide +kernel) rfl
    have hFc := va_free (wc := [(im, .inr (1, [.ref iq, .int L])), (iq, .inl (cB, n, .inl g_30))]) hD hS hA [7, 8] rfl
    have hkc : 0 ≤ 0 := by decide
    have hks : 0 ≤ 0 := by decide
    refine va_callv (va_runV (C := "DiscMaker$Bytes") (As := [.int v31, .int v33, .int 4]) (rest := []) ⟨hx, hb, hml, hown, hts⟩ (c3_putBoth l D cB cI cJ cZ cN cF H.size im iq n L g_30 v31 v33 4 (by (try dsimp only); first | assumption | omega | trivial) (by (try dsimp only); first | assumption | omega | trivial) (by (try dsimp only); first | assumption | omega | trivial)) (cwV 3 hts (lg_goodV k1056 k1023 k1024 k119 kc_Bytes_putBoth) rfl rfl rfl (by decide +kernel) ⟨Nat.le_of_ble_eq_true rfl, Nat.le_of_ble_eq_true rfl⟩) ⟨fun a U g mk q => by obtain ⟨q0, q1, qP, qK, qN, qD⟩ := q; exact ⟨q0, q1, qP, va_K.moved (u := U) (U := U.calling g mk a) (Vm.Alike.refl U.vm) qK, qN.calling, qD⟩, va_recv hK hP (ci := 1) (q0 := 7) rfl rfl, fun U hU hW => ⟨rfl, by rw [hU], by rw [hU]; exact hPc, va_K.moved hW.alike hK, NN.warm hW hN, hDc.weaken (fun _ _ _ _ => trivial)⟩⟩ rfl rfl hl.1 rfl (lv_room (Nat.le_of_ble_eq_true rfl)) d_Maker_writeRecord_95 ⟨hkc, hks⟩) hS (fun q _ h => hFc q h) hFc (fun u t H1 locs ht hvm hp_r34 hB hz1 hk1 hS => ?_)
    obtain ⟨g_35, rfl⟩ : ∃ z, z = u := ⟨_, rfl⟩
    obtain ⟨hP1, hD1⟩ := hB
    rw [ht] at hP1
    obtain ⟨hP, hD⟩ := va_join (wr := [(m0, .inr (4, [.ref tr, .ref im, .ref fi, .ref se, .ref u0, .ref id, .ref ct, .int ra, .int ru, .int wg])), (l0, .inr (3, [.int ln, .int lds, .int ltb, .ref lo, .ref lp, .ref lt, .ref lb, .ref le, .int lc, .int ld])), (lb, .inl (cI, 40, .inl fb)), (le, .inl (cI, 40, .inl fe)), (ct, .inl (cI, 40, .inl cc)), (id, .inr (1, [.ref jq, .int il])), (jq, .inl (cB, 60, .inl jf))]) (w1 := [(im, .inr (1, [.ref iq, .int L])), (iq, .inl (cB, n, .inl g_35))]) hP hD [7, 8] [0, 1, 2, 3, 4, 5, 6] rfl rfl (by decide +kernel) (by decide +kernel) hk1 hFc hP1 hD1
    clear hPc hDc hFc hP1 hD1 hk1 hz1 hkc hks
    generalize H1 = H at hP hS ⊢
    have hP : va_P D CL [(m0, .inr (4, [.ref tr, .ref im, .ref fi, .ref se, .ref u0, .ref id, .ref ct, .int ra, .int ru, .int wg])), (l0, .inr (3, [.int ln, .int lds, .int ltb, .ref lo, .ref lp, .ref lt, .ref lb, .ref le, .int lc, .int ld])), (lb, .inl (cI, 40, .inl fb)), (le, .inl (cI, 40, .inl fe)), (ct, .inl (cI, 40, .inl cc)), (id, .inr (1, [.ref jq, .int il])), (jq, .inl (cB, 60, .inl jf)), (im, .inr (1, [.ref iq, .int L])), (iq, .inl (cB, n, .inl g_35))] H := hP
    have hD : va_D A [(m0, .inr (4, [.ref tr, .ref im, .ref fi, .ref se, .ref u0, .ref id, .ref ct, .int ra, .int ru, .int wg])), (l0, .inr (3, [.int ln, .int lds, .int ltb, .ref lo, .ref lp, .ref lt, .ref lb, .ref le, .int lc, .int ld])), (lb, .inl (cI, 40, .inl fb)), (le, .inl (cI, 40, .inl fe)), (ct, .inl (cI, 40, .inl cc)), (id, .inr (1, [.ref jq, .int il])), (jq, .inl (cB, 60, .inl jf)), (im, .inr (1, [.ref iq, .int L])), (iq, .inl (cB, n, .inl g_35))] := hD
    refine lv_aload_n hx hb d_Maker_writeRecord_98 rfl (lv_at hl 1 rfl) ?_
    refine va_get (D := D) (ci := 4) (v := .ref im) (C := "DiscMaker$Maker") (T := F_Maker) (N := 10) hx hb ht9 in_Maker hown hK hP 0 rfl rfl 1 (by decide) (ht9 _ k348) (fun _ h9 => h9) rfl d_Maker_writeRecord_99 ?_
    refine lv_iload_n hx hb d_Maker_writeRecord_102 rfl (lv_at hl 4 rfl) ?_
    refine lv_bipush (v := 18) hx hb d_Maker_writeRecord_103 (by decide) ?_
    refine lv_iadd hx hb d_Maker_writeRecord_105 ?_
    refine lv_topi (fun v36 e_v36 => ?_)
    refine va_getsN (C := "DiscMaker") (n := "DAY") (d := "[B") (v := .ref td) hx hb (hZs.1.1) hS hown (va_Nw.use rfl (hN _ k1057)) (fun _ h9 => h9) d_Maker_writeRecord_106 ?_
    have hPc := hP.sub (ws' := [(im, .inr (1, [.ref iq, .int L])), (iq, .inl (cB, n, .inl g_35))]) [7, 8] rfl
    have hDc := hD.sub (ws' := [(im, .inr (1, [.ref iq, .int L])), (iq, .inl (cB, n, .inl g_35))]) [7, 8] (by decide +kernel) rfl
    have hFc := va_free (wc := [(im, .inr (1, [.ref iq, .int L])), (iq, .inl (cB, n, .inl g_35))]) hD hS hA [7, 8] rfl
    have hkc : 0 ≤ 0 := by decide
    have hks : 0 ≤ 0 := by decide
    refine va_callv (va_runV (C := "DiscMaker$Bytes") (As := [.int v36, .ref td]) (rest := []) ⟨hx, hb, hml, hown, hts⟩ (c3_putRowT l D cB cI cJ cZ cN cF H.size im iq n L g_35 td 7 gd v36 (by (try dsimp only); first | assumption | omega | trivial) (by (try dsimp only); first | assumption | omega | trivial) (by (try dsimp only); first | assumption | omega | trivial)) (cwV 2 hts (lg_goodV k1059 k1031 k1032 k119 kc_Bytes_putRow) rfl rfl rfl (by decide +kernel) ⟨Nat.le_of_ble_eq_true rfl, Nat.le_of_ble_eq_true rfl⟩) ⟨fun a U g mk q => by obtain ⟨q0, q1, qP, qK, qN, qD, qZ0⟩ := q; exact ⟨q0, q1, qP, va_K.moved (u := U) (U := U.calling g mk a) (Vm.Alike.refl U.vm) qK, qN.calling, qD, zT_blind qZ0⟩, va_recv hK hP (ci := 1) (q0 := 7) rfl rfl, fun U hU hW => ⟨rfl, by rw [hU], by rw [hU]; exact hPc, va_K.moved hW.alike hK, NN.warm hW hN, hDc.weaken (fun _ _ _ _ => trivial), zT_pass hZs.1.2 hS hFc hW.alike hU⟩⟩ rfl rfl hl.1 rfl (lv_room (Nat.le_of_ble_eq_true rfl)) d_Maker_writeRecord_109 ⟨hkc, hks⟩) hS (fun q _ h => hFc q h) hFc (fun u t H1 locs ht hvm hp_r37 hB hz1 hk1 hS => ?_)
    obtain ⟨g_38, rfl⟩ : ∃ z, z = u := ⟨_, rfl⟩
    obtain ⟨hP1, hD1⟩ := hB
    rw [ht] at hP1
    obtain ⟨hP, hD⟩ := va_join (wr := [(m0, .inr (4, [.ref tr, .ref im, .ref fi, .ref se, .ref u0, .ref id, .ref ct, .int ra, .int ru, .int wg])), (l0, .inr (3, [.int ln, .int lds, .int ltb, .ref lo, .ref lp, .ref lt, .ref lb, .ref le, .int lc, .int ld])), (lb, .inl (cI, 40, .inl fb)), (le, .inl (cI, 40, .inl fe)), (ct, .inl (cI, 40, .inl cc)), (id, .inr (1, [.ref jq, .int il])), (jq, .inl (cB, 60, .inl jf))]) (w1 := [(im, .inr (1, [.ref iq, .int L])), (iq, .inl (cB, n, .inl g_38))]) hP hD [7, 8] [0, 1, 2, 3, 4, 5, 6] rfl rfl (by decide +kernel) (by decide +kernel) hk1 hFc hP1 hD1
    clear hPc hDc hFc hP1 hD1 hk1 hz1 hkc hks
    generalize H1 = H at hP hS ⊢
    have hP : va_P D CL [(m0, .inr (4, [.ref tr, .ref im, .ref fi, .ref se, .ref u0, .ref id, .ref ct, .int ra, .int ru, .int wg])), (l0, .inr (3, [.int ln, .int lds, .int ltb, .ref lo, .ref lp, .ref lt, .ref lb, .ref le, .int lc, .int ld])), (lb, .inl (cI, 40, .inl fb)), (le, .inl (cI, 40, .inl fe)), (ct, .inl (cI, 40, .inl cc)), (id, .inr (1, [.ref jq, .int il])), (jq, .inl (cB, 60, .inl jf)), (im, .inr (1, [.ref iq, .int L])), (iq, .inl (cB, n, .inl g_38))] H := hP
    have hD : va_D A [(m0, .inr (4, [.ref tr, .ref im, .ref fi, .ref se, .ref u0, .ref id, .ref ct, .int ra, .int ru, .int wg])), (l0, .inr (3, [.int ln, .int lds, .int ltb, .ref lo, .ref lp, .ref lt, .ref lb, .ref le, .int lc, .int ld])), (lb, .inl (cI, 40, .inl fb)), (le, .inl (cI, 40, .inl fe)), (ct, .inl (cI, 40, .inl cc)), (id, .inr (1, [.ref jq, .int il])), (jq, .inl (cB, 60, .inl jf)), (im, .inr (1, [.ref iq, .int L])), (iq, .inl (cB, n, .inl g_38))] := hD
    refine lv_aload_n hx hb d_Maker_writeRecord_112 rfl (lv_at hl 1 rfl) ?_
    refine va_get (D := D) (ci := 4) (v := .ref im) (C := "DiscMaker$Maker") (T := F_Maker) (N := 10) hx hb ht9 in_Maker hown hK hP 0 rfl rfl 1 (by decide) (ht9 _ k348) (fun _ h9 => h9) rfl d_Maker_writeRecord_113 ?_
    refine lv_iload_n hx hb d_Maker_writeRecord_116 rfl (lv_at hl 4 rfl) ?_
    refine lv_bipush (v := 25) hx hb d_Maker_writeRecord_117 (by decide) ?_
    refine lv_iadd hx hb d_Maker_writeRecord_119 ?_
    refine lv_topi (fun v39 e_v39 => ?_)
    refine lv_iload hx hb d_Maker_writeRecord_120 (lv_at hl 0 rfl) ?_
    refine lv_if_eq (tgt := 129) hx hb d_Maker_writeRecord_122 (by decide) (fun h_9 => absurd h_9 (by decide)) (fun _ => ?_)
    refine lv_iconst (v := 2) hx hb d_Maker_writeRecord_125 (by decide) ?_
    refine lv_goto (tgt := 130) hx hb d_Maker_writeRecord_126 (by decide) ?_
    have hPc := hP.sub (ws' := [(im, .inr (1, [.ref iq, .int L])), (iq, .inl (cB, n, .inl g_38))]) [7, 8] rfl
    have hDc := hD.sub (ws' := [(im, .inr (1, [.ref iq, .int L])), (iq, .inl (cB, n, .inl g_38))]) [7, 8] (by decide +kernel) rfl
    have hFc := va_free (wc := [(im, .inr (1, [.ref iq, .int L])), (iq, .inl (cB, n, .inl g_38))]) hD hS hA [7, 8] rfl
    have hkc : 0 ≤ 0 := by decide
    have hks : 0 ≤ 0 := by decide
    refine va_callv (va_runV (C := "DiscMaker$Bytes") (As := [.int v39, .int 2]) (rest := []) ⟨hx, hb, hml, hown, hts⟩ (c3_put l D cB cI cJ cZ cN cF H.size im iq n L g_38 v39 2 (by (try dsimp only); first | assumption | omega | trivial) (by (try dsimp only); first | assumption | omega | trivial)) (cwV 2 hts (lg_goodV k978 k912 k913 k119 kc_Bytes_put) rfl rfl rfl (by decide +kernel) ⟨Nat.le_of_ble_eq_true rfl, Nat.le_of_ble_eq_true rfl⟩) ⟨fun a U g mk q => by obtain ⟨q0, q1, qP, qK, qN, qD⟩ := q; exact ⟨q0, q1, qP, va_K.moved (u := U) (U := U.calling g mk a) (Vm.Alike.refl U.vm) qK, qN.calling, qD⟩, va_recv hK hP (ci := 1) (q0 := 7) rfl rfl, fun U hU hW => ⟨rfl, by rw [hU], by rw [hU]; exact hPc, va_K.moved hW.alike hK, NN.warm hW hN, hDc.weaken (fun _ _ _ _ => trivial)⟩⟩ rfl rfl hl.1 rfl (lv_room (Nat.le_of_ble_eq_true rfl)) d_Maker_writeRecord_130 ⟨hkc, hks⟩) hS (fun q _ h => hFc q h) hFc (fun u t H1 locs ht hvm hp_r40 hB hz1 hk1 hS => ?_)
    obtain ⟨g_41, rfl⟩ : ∃ z, z = u := ⟨_, rfl⟩
    obtain ⟨hP1, hD1⟩ := hB
    rw [ht] at hP1
    obtain ⟨hP, hD⟩ := va_join (wr := [(m0, .inr (4, [.ref tr, .ref im, .ref fi, .ref se, .ref u0, .ref id, .ref ct, .int ra, .int ru, .int wg])), (l0, .inr (3, [.int ln, .int lds, .int ltb, .ref lo, .ref lp, .ref lt, .ref lb, .ref le, .int lc, .int ld])), (lb, .inl (cI, 40, .inl fb)), (le, .inl (cI, 40, .inl fe)), (ct, .inl (cI, 40, .inl cc)), (id, .inr (1, [.ref jq, .int il])), (jq, .inl (cB, 60, .inl jf))]) (w1 := [(im, .inr (1, [.ref iq, .int L])), (iq, .inl (cB, n, .inl g_41))]) hP hD [7, 8] [0, 1, 2, 3, 4, 5, 6] rfl rfl (by decide +kernel) (by decide +kernel) hk1 hFc hP1 hD1
    clear hPc hDc hFc hP1 hD1 hk1 hz1 hkc hks
    generalize H1 = H at hP hS ⊢
    have hP : va_P D CL [(m0, .inr (4, [.ref tr, .ref im, .ref fi, .ref se, .ref u0, .ref id, .ref ct, .int ra, .int ru, .int wg])), (l0, .inr (3, [.int ln, .int lds, .int ltb, .ref lo, .ref lp, .ref lt, .ref lb, .ref le, .int lc, .int ld])), (lb, .inl (cI, 40, .inl fb)), (le, .inl (cI, 40, .inl fe)), (ct, .inl (cI, 40, .inl cc)), (id, .inr (1, [.ref jq, .int il])), (jq, .inl (cB, 60, .inl jf)), (im, .inr (1, [.ref iq, .int L])), (iq, .inl (cB, n, .inl g_41))] H := hP
    have hD : va_D A [(m0, .inr (4, [.ref tr, .ref im, .ref fi, .ref se, .ref u0, .ref id, .ref ct, .int ra, .int ru, .int wg])), (l0, .inr (3, [.int ln, .int lds, .int ltb, .ref lo, .ref lp, .ref lt, .ref lb, .ref le, .int lc, .int ld])), (lb, .inl (cI, 40, .inl fb)), (le, .inl (cI, 40, .inl fe)), (ct, .inl (cI, 40, .inl cc)), (id, .inr (1, [.ref jq, .int il])), (jq, .inl (cB, 60, .inl jf)), (im, .inr (1, [.ref iq, .int L])), (iq, .inl (cB, n, .inl g_41))] := hD
    refine lv_aload_n hx hb d_Maker_writeRecord_133 rfl (lv_at hl 1 rfl) ?_
    refine va_get (D := D) (ci := 4) (v := .ref im) (C := "DiscMaker$Maker") (T := F_Maker) (N := 10) hx hb ht9 in_Maker hown hK hP 0 rfl rfl 1 (by decide) (ht9 _ k348) (fun _ h9 => h9) rfl d_Maker_writeRecord_134 ?_
    refine lv_iload_n hx hb d_Maker_writeRecord_137 rfl (lv_at hl 4 rfl) ?_
    refine lv_bipush (v := 28) hx hb d_Maker_writeRecord_138 (by decide) ?_
    refine lv_iadd hx hb d_Maker_writeRecord_140 ?_
    refine lv_topi (fun v42 e_v42 => ?_)
    refine lv_iconst (v := 1) hx hb d_Maker_writeRecord_141 (by decide) ?_
    refine lv_iconst (v := 2) hx hb d_Maker_writeRecord_142 (by decide) ?_
    have hPc := hP.sub (ws' := [(im, .inr (1, [.ref iq, .int L])), (iq, .inl (cB, n, .inl g_41))]) [7, 8] rfl
    have hDc := hD.sub (ws' := [(im, .inr (1, [.ref iq, .int L])), (iq, .inl (cB, n, .inl g_41))]) [7, 8] (by decide +kernel) rfl
    have hFc := va_free (wc := [(im, .inr (1, [.ref iq, .int L])), (iq, .inl (cB, n, .inl g_41))]) hD hS hA [7, 8] rfl
    have hkc : 0 ≤ 0 := by decide
    have hks : 0 ≤ 0 := by decide
    refine va_callv (va_runV (C := "DiscMaker$Bytes") (As := [.int v42, .int 1, .int 2]) (rest := []) ⟨hx, hb, hml, hown, hts⟩ (c3_putBoth l D cB cI cJ cZ cN cF H.size im iq n L g_41 v42 1 2 (by (try dsimp only); first | assumption | omega | trivial) (by (try dsimp only); first | assumption | omega | trivial) (by (try dsimp only); first | assumption | omega | trivial)) (cwV 3 hts (lg_goodV k1056 k1023 k1024 k119 kc_Bytes_putBoth) rfl rfl rfl (by decide +kernel) ⟨Nat.le_of_ble_eq_true rfl, Nat.le_of_ble_eq_true rfl⟩) ⟨fun a U g mk q => by obtain ⟨q0, q1, qP, qK, qN, qD⟩ := q; exact ⟨q0, q1, qP, va_K.moved (u := U) (U := U.calling g mk a) (Vm.Alike.refl U.vm) qK, qN.calling, qD⟩, va_recv hK hP (ci := 1) (q0 := 7) rfl rfl, fun U hU hW => ⟨rfl, by rw [hU], by rw [hU]; exact hPc, va_K.moved hW.alike hK, NN.warm hW hN, hDc.weaken (fun _ _ _ _ => trivial)⟩⟩ rfl rfl hl.1 rfl (lv_room (Nat.le_of_ble_eq_true rfl)) d_Maker_writeRecord_143 ⟨hkc, hks⟩) hS (fun q _ h => hFc q h) hFc (fun u t H1 locs ht hvm hp_r43 hB hz1 hk1 hS => ?_)
    obtain ⟨g_44, rfl⟩ : ∃ z, z = u := ⟨_, rfl⟩
    obtain ⟨hP1, hD1⟩ := hB
    rw [ht] at hP1
    obtain ⟨hP, hD⟩ := va_join (wr := [(m0, .inr (4, [.ref tr, .ref im, .ref fi, .ref se, .ref u0, .ref id, .ref ct, .int ra, .int ru, .int wg])), (l0, .inr (3, [.int ln, .int lds, .int ltb, .ref lo, .ref lp, .ref lt, .ref lb, .ref le, .int lc, .int ld])), (lb, .inl (cI, 40, .inl fb)), (le, .inl (cI, 40, .inl fe)), (ct, .inl (cI, 40, .inl cc)), (id, .inr (1, [.ref jq, .int il])), (jq, .inl (cB, 60, .inl jf))]) (w1 := [(im, .inr (1, [.ref iq, .int L])), (iq, .inl (cB, n, .inl g_44))]) hP hD [7, 8] [0, 1, 2, 3, 4, 5, 6] rfl rfl (by decide +kernel) (by decide +kernel) hk1 hFc hP1 hD1
    clear hPc hDc hFc hP1 hD1 hk1 hz1 hkc hks
    generalize H1 = H at hP hS ⊢
    have hP : va_P D CL [(m0, .inr (4, [.ref tr, .ref im, .ref fi, .ref se, .ref u0, .ref id, .ref ct, .int ra, .int ru, .int wg])), (l0, .inr (3, [.int ln, .int lds, .int ltb, .ref lo, .ref lp, .ref lt, .ref lb, .ref le, .int lc, .int ld])), (lb, .inl (cI, 40, .inl fb)), (le, .inl (cI, 40, .inl fe)), (ct, .inl (cI, 40, .inl cc)), (id, .inr (1, [.ref jq, .int il])), (jq, .inl (cB, 60, .inl jf)), (im, .inr (1, [.ref iq, .int L])), (iq, .inl (cB, n, .inl g_44))] H := hP
    have hD : va_D A [(m0, .inr (4, [.ref tr, .ref im, .ref fi, .ref se, .ref u0, .ref id, .ref ct, .int ra, .int ru, .int wg])), (l0, .inr (3, [.int ln, .int lds, .int ltb, .ref lo, .ref lp, .ref lt, .ref lb, .ref le, .int lc, .int ld])), (lb, .inl (cI, 40, .inl fb)), (le, .inl (cI, 40, .inl fe)), (ct, .inl (cI, 40, .inl cc)), (id, .inr (1, [.ref jq, .int il])), (jq, .inl (cB, 60, .inl jf)), (im, .inr (1, [.ref iq, .int L])), (iq, .inl (cB, n, .inl g_44))] := hD
    refine lv_aload_n hx hb d_Maker_writeRecord_146 rfl (lv_at hl 1 rfl) ?_
    refine va_get (D := D) (ci := 4) (v := .ref im) (C := "DiscMaker$Maker") (T := F_Maker) (N := 10) hx hb ht9 in_Maker hown hK hP 0 rfl rfl 1 (by decide) (ht9 _ k348) (fun _ h9 => h9) rfl d_Maker_writeRecord_147 ?_
    refine lv_iload_n hx hb d_Maker_writeRecord_150 rfl (lv_at hl 4 rfl) ?_
    refine lv_bipush (v := 32) hx hb d_Maker_writeRecord_151 (by decide) ?_
    refine lv_iadd hx hb d_Maker_writeRecord_153 ?_
    refine lv_topi (fun v45 e_v45 => ?_)
    refine lv_aload_n hx hb d_Maker_writeRecord_154 rfl (lv_at hl 1 rfl) ?_
    refine va_get (D := D) (ci := 4) (v := .ref id) (C := "DiscMaker$Maker") (T := F_Maker) (N := 10) hx hb ht9 in_Maker hown hK hP 0 rfl rfl 5 (by decide) (ht9 _ k352) (fun _ h9 => h9) rfl d_Maker_writeRecord_155 ?_
    refine va_getN (D := D) (ci := 1) (v := .int il) (C := "DiscMaker$Bytes") (T := F_Bytes) (N := 2) hx hb ht9 in_Bytes hown hK hP 5 rfl rfl 1 (by decide) (va_Nw.use rfl (hN _ k257)) (fun _ h9 => h9) rfl d_Maker_writeRecord_158 ?_
    have hPc := hP.sub (ws' := [(im, .inr (1, [.ref iq, .int L])), (iq, .inl (cB, n, .inl g_44))]) [7, 8] rfl
    have hDc := hD.sub (ws' := [(im, .inr (1, [.ref iq, .int L])), (iq, .inl (cB, n, .inl g_44))]) [7, 8] (by decide +kernel) rfl
    have hFc := va_free (wc := [(im, .inr (1, [.ref iq, .int L])), (iq, .inl (cB, n, .inl g_44))]) hD hS hA [7, 8] rfl
    have hkc : 0 ≤ 0 := by decide
    have hks : 0 ≤ 0 := by decide
    refine va_callv (va_runV (C := "DiscMaker$Bytes") (As := [.int v45, .int il]) (rest := []) ⟨hx, hb, hml, hown, hts⟩ (c3_put l D cB cI cJ cZ cN cF H.size im iq n L g_44 v45 il (by (try dsimp only); first | assumption | omega | trivial) (by (try dsimp only); first | assumption | omega | trivial)) (cwV 2 hts (lg_goodV k978 k912 k913 k119 kc_Bytes_put) rfl rfl rfl (by decide +kernel) ⟨Nat.le_of_ble_eq_true rfl, Nat.le_of_ble_eq_true rfl⟩) ⟨fun a U g mk q => by obtain ⟨q0, q1, qP, qK, qN, qD⟩ := q; exact ⟨q0, q1, qP, va_K.moved (u := U) (U := U.calling g mk a) (Vm.Alike.refl U.vm) qK, qN.calling, qD⟩, va_recv hK hP (ci := 1) (q0 := 7) rfl rfl, fun U hU hW => ⟨rfl, by rw [hU], by rw [hU]; exact hPc, va_K.moved hW.alike hK, NN.warm hW hN, hDc.weaken (fun _ _ _ _ => trivial)⟩⟩ rfl rfl hl.1 rfl (lv_room (Nat.le_of_ble_eq_true rfl)) d_Maker_writeRecord_161 ⟨hkc, hks⟩) hS (fun q _ h => hFc q h) hFc (fun u t H1 locs ht hvm hp_r46 hB hz1 hk1 hS => ?_)
    obtain ⟨g_47, rfl⟩ : ∃ z, z = u := ⟨_, rfl⟩
    obtain ⟨hP1, hD1⟩ := hB
    rw [ht] at hP1
    obtain ⟨hP, hD⟩ := va_join (wr := [(m0, .inr (4, [.ref tr, .ref im, .ref fi, .ref se, .ref u0, .ref id, .ref ct, .int ra, .int ru, .int wg])), (l0, .inr (3, [.int ln, .int lds, .int ltb, .ref lo, .ref lp, .ref lt, .ref lb, .ref le, .int lc, .int ld])), (lb, .inl (cI, 40, .inl fb)), (le, .inl (cI, 40, .inl fe)), (ct, .inl (cI, 40, .inl cc)), (id, .inr (1, [.ref jq, .int il])), (jq, .inl (cB, 60, .inl jf))]) (w1 := [(im, .inr (1, [.ref iq, .int L])), (iq, .inl (cB, n, .inl g_47))]) hP hD [7, 8] [0, 1, 2, 3, 4, 5, 6] rfl rfl (by decide +kernel) (by decide +kernel) hk1 hFc hP1 hD1
    clear hPc hDc hFc hP1 hD1 hk1 hz1 hkc hks
    generalize H1 = H at hP hS ⊢
    have hP : va_P D CL [(m0, .inr (4, [.ref tr, .ref im, .ref fi, .ref se, .ref u0, .ref id, .ref ct, .int ra, .int ru, .int wg])), (l0, .inr (3, [.int ln, .int lds, .int ltb, .ref lo, .ref lp, .ref lt, .ref lb, .ref le, .int lc, .int ld])), (lb, .inl (cI, 40, .inl fb)), (le, .inl (cI, 40, .inl fe)), (ct, .inl (cI, 40, .inl cc)), (id, .inr (1, [.ref jq, .int il])), (jq, .inl (cB, 60, .inl jf)), (im, .inr (1, [.ref iq, .int L])), (iq, .inl (cB, n, .inl g_47))] H := hP
    have hD : va_D A [(m0, .inr (4, [.ref tr, .ref im, .ref fi, .ref se, .ref u0, .ref id, .ref ct, .int ra, .int ru, .int wg])), (l0, .inr (3, [.int ln, .int lds, .int ltb, .ref lo, .ref lp, .ref lt, .ref lb, .ref le, .int lc, .int ld])), (lb, .inl (cI, 40, .inl fb)), (le, .inl (cI, 40, .inl fe)), (ct, .inl (cI, 40, .inl cc)), (id, .inr (1, [.ref jq, .int il])), (jq, .inl (cB, 60, .inl jf)), (im, .inr (1, [.ref iq, .int L])), (iq, .inl (cB, n, .inl g_47))] := hD
    refine lv_aload_n hx hb d_Maker_writeRecord_164 rfl (lv_at hl 1 rfl) ?_
    refine va_get (D := D) (ci := 4) (v := .ref id) (C := "DiscMaker$Maker") (T := F_Maker) (N := 10) hx hb ht9 in_Maker hown hK hP 0 rfl rfl 5 (by decide) (ht9 _ k352) (fun _ h9 => h9) rfl d_Maker_writeRecord_165 ?_
    refine lv_aload_n hx hb d_Maker_writeRecord_168 rfl (lv_at hl 1 rfl) ?_
    refine va_get (D := D) (ci := 4) (v := .ref im) (C := "DiscMaker$Maker") (T := F_Maker) (N := 10) hx hb ht9 in_Maker hown hK hP 0 rfl rfl 1 (by decide) (ht9 _ k348) (fun _ h9 => h9) rfl d_Maker_writeRecord_169 ?_
    refine lv_iconst (v := 0) hx hb d_Maker_writeRecord_172 (by decide) ?_
    refine lv_iload_n hx hb d_Maker_writeRecord_173 rfl (lv_at hl 4 rfl) ?_
    refine lv_bipush (v := 33) hx hb d_Maker_writeRecord_174 (by decide) ?_
    refine lv_iadd hx hb d_Maker_writeRecord_176 ?_
    refine lv_topi (fun v48 e_v48 => ?_)
    refine lv_aload_n hx hb d_Maker_writeRecord_177 rfl (lv_at hl 1 rfl) ?_
    refine va_get (D := D) (ci := 4) (v := .ref id) (C := "DiscMaker$Maker") (T := F_Maker) (N := 10) hx hb ht9 in_Maker hown hK hP 0 rfl rfl 5 (by decide) (ht9 _ k352) (fun _ h9 => h9) rfl d_Maker_writeRecord_178 ?_
    refine va_getN (D := D) (ci := 1) (v := .int il) (C := "DiscMaker$Bytes") (T := F_Bytes) (N := 2) hx hb ht9 in_Bytes hown hK hP 5 rfl rfl 1 (by decide) (va_Nw.use rfl (hN _ k257)) (fun _ h9 => h9) rfl d_Maker_writeRecord_181 ?_
    have hPc := hP.sub (ws' := [(id, .inr (1, [.ref jq, .int il])), (jq, .inl (cB, 60, .inl jf)), (im, .inr (1, [.ref iq, .int L])), (iq, .inl (cB, n, .inl g_47))]) [5, 6, 7, 8] rfl
    have hDc := hD.sub (ws' := [(id, .inr (1, [.ref jq, .int il])), (jq, .inl (cB, 60, .inl jf)), (im, .inr (1, [.ref iq, .int L])), (iq, .inl (cB, n, .inl g_47))]) [5, 6, 7, 8] (by decide +kernel) rfl
    have hFc := va_free (wc := [(id, .inr (1, [.ref jq, .int il])), (jq, .inl (cB, 60, .inl jf)), (im, .inr (1, [.ref iq, .int L])), (iq, .inl (cB, n, .inl g_47))]) hD hS hA [5, 6, 7, 8] rfl
    have hkc : 0 ≤ 0 := by decide
    have hks : 0 ≤ 0 := by decide
    refine va_callv (va_runV (C := "DiscMaker$Bytes") (As := [.ref im, .int 0, .int v48, .int il]) (rest := []) ⟨hx, hb, hml, hown, hts⟩ (c3_copyTo l D cB cI cJ cZ cN cF H.size id jq 60 il jf im iq n L g_47 0 v48 il (by (try dsimp only); first | assumption | omega | trivial) (by (try dsimp only); first | assumption | omega | trivial) (by (try dsimp only); first | assumption | omega | trivial) (by (try dsimp only); first | assumption | omega | trivial)) (cwV 4 hts (lg_goodV k1060 k1061 k1062 k119 kc_Bytes_copyTo) rfl rfl rfl (by decide +kernel) ⟨Nat.le_of_ble_eq_true rfl, Nat.le_of_ble_eq_true rfl⟩) ⟨fun a U g mk q => by obtain ⟨q0, q1, qP, qK, qN, qD⟩ := q; exact ⟨q0, q1, qP, va_K.moved (u := U) (U := U.calling g mk a) (Vm.Alike.refl U.vm) qK, qN.calling, qD⟩, va_recv hK hP (ci := 1) (q0 := 5) rfl rfl, fun U hU hW => ⟨rfl, by rw [hU], by rw [hU]; exact hPc, va_K.moved hW.alike hK, NN.warm hW hN, hDc.weaken (fun _ _ _ _ => trivial)⟩⟩ rfl rfl hl.1 rfl (lv_room (Nat.le_of_ble_eq_true rfl)) d_Maker_writeRecord_184 ⟨hkc, hks⟩) hS (fun q _ h => hFc q h) hFc (fun u t H1 locs ht hvm hp_r49 hB hz1 hk1 hS => ?_)
    obtain ⟨g_50, rfl⟩ : ∃ z, z = u := ⟨_, rfl⟩
    obtain ⟨hP1, hD1⟩ := hB
    rw [ht] at hP1
    obtain ⟨hP, hD⟩ := va_join (wr := [(m0, .inr (4, [.ref tr, .ref im, .ref fi, .ref se, .ref u0, .ref id, .ref ct, .int ra, .int ru, .int wg])), (l0, .inr (3, [.int ln, .int lds, .int ltb, .ref lo, .ref lp, .ref lt, .ref lb, .ref le, .int lc, .int ld])), (lb, .inl (cI, 40, .inl fb)), (le, .inl (cI, 40, .inl fe)), (ct, .inl (cI, 40, .inl cc))]) (w1 := [(id, .inr (1, [.ref jq, .int il])), (jq, .inl (cB, 60, .inl jf)), (im, .inr (1, [.ref iq, .int L])), (iq, .inl (cB, n, .inl g_50))]) hP hD [5, 6, 7, 8] [0, 1, 2, 3, 4] rfl rfl (by decide +kernel) (by decide +kernel) hk1 hFc hP1 hD1
    clear hPc hDc hFc hP1 hD1 hk1 hz1 hkc hks
    generalize H1 = H at hP hS ⊢
    have hP : va_P D CL [(m0, .inr (4, [.ref tr, .ref im, .ref fi, .ref se, .ref u0, .ref id, .ref ct, .int ra, .int ru, .int wg])), (l0, .inr (3, [.int ln, .int lds, .int ltb, .ref lo, .ref lp, .ref lt, .ref lb, .ref le, .int lc, .int ld])), (lb, .inl (cI, 40, .inl fb)), (le, .inl (cI, 40, .inl fe)), (ct, .inl (cI, 40, .inl cc)), (id, .inr (1, [.ref jq, .int il])), (jq, .inl (cB, 60, .inl jf)), (im, .inr (1, [.ref iq, .int L])), (iq, .inl (cB, n, .inl g_50))] H := hP
    have hD : va_D A [(m0, .inr (4, [.ref tr, .ref im, .ref fi, .ref se, .ref u0, .ref id, .ref ct, .int ra, .int ru, .int wg])), (l0, .inr (3, [.int ln, .int lds, .int ltb, .ref lo, .ref lp, .ref lt, .ref lb, .ref le, .int lc, .int ld])), (lb, .inl (cI, 40, .inl fb)), (le, .inl (cI, 40, .inl fe)), (ct, .inl (cI, 40, .inl cc)), (id, .inr (1, [.ref jq, .int il])), (jq, .inl (cB, 60, .inl jf)), (im, .inr (1, [.ref iq, .int L])), (iq, .inl (cB, n, .inl g_50))] := hD
    have hP9 := hP.sub (ws' := [(m0, .inr (4, [.ref tr, .ref im, .ref fi, .ref se, .ref u0, .ref id, .ref ct, .int ra, .int ru, .int wg])), (l0, .inr (3, [.int ln, .int lds, .int ltb, .ref lo, .ref lp, .ref lt, .ref lb, .ref le, .int lc, .int ld])), (lb, .inl (cI, 40, .inl fb)), (le, .inl (cI, 40, .inl fe)), (ct, .inl (cI, 40, .inl cc)), (id, .inr (1, [.ref jq, .int il])), (jq, .inl (cB, 60, .inl jf)), (im, .inr (1, [.ref iq, .int L])), (iq, .inl (cB, n, .inl g_50))]) [0, 1, 2, 3, 4, 5, 6, 7, 8] rfl
    have hD9 := hD.sub (ws' := [(m0, .inr (4, [.ref tr, .ref im, .ref fi, .ref se, .ref u0, .ref id, .ref ct, .int ra, .int ru, .int wg])), (l0, .inr (3, [.int ln, .int lds, .int ltb, .ref lo, .ref lp, .ref lt, .ref lb, .ref le, .int lc, .int ld])), (lb, .inl (cI, 40, .inl fb)), (le, .inl (cI, 40, .inl fe)), (ct, .inl (cI, 40, .inl cc)), (id, .inr (1, [.ref jq, .int il])), (jq, .inl (cB, 60, .inl jf)), (im, .inr (1, [.ref iq, .int L])), (iq, .inl (cB, n, .inl g_50))]) [0, 1, 2, 3, 4, 5, 6, 7, 8] (by decide +kernel) rfl
    exact W.vret hx hb hr (fun t ht hW => ⟨⟨g_50, rfl, trivial, by rw [ht]; exact hP9, hD9⟩, hS.F ht⟩) hS.2.2 d_Maker_writeRecord_187

theorem d_Maker_writeParts_0 : decode b_Maker_writeParts 0 = .ok (.aload_n 0, 1) := by decide +kernel
theorem d_Maker_writeParts_1 : decode b_Maker_writeParts 1 = .ok (.getfield 26, 3) := by decide +kernel
theorem d_Maker_writeParts_4 : decode b_Maker_writeParts 4 = .ok (.getfield 57, 3) := by decide +kernel
theorem d_Maker_writeParts_7 : decode b_Maker_writeParts 7 = .ok (.aload_n 0, 1) := by decide +kernel
theorem d_Maker_writeParts_8 : decode b_Maker_writeParts 8 = .ok (.getfield 47, 3) := by decide +kernel
theorem d_Maker_writeParts_11 : decode b_Maker_writeParts 11 = .ok (.iconst 0, 1) := by decide +kernel
theorem d_Maker_writeParts_12 : decode b_Maker_writeParts 12 = .ok (.iload_n 1, 1) := by decide +kernel
theorem d_Maker_writeParts_13 : decode b_Maker_writeParts 13 = .ok (.aload_n 0, 1) := by decide +kernel
theorem d_Maker_writeParts_14 : decode b_Maker_writeParts 14 = .ok (.getfield 26, 3) := by decide +kernel
theorem d_Maker_writeParts_17 : decode b_Maker_writeParts 17 = .ok (.getfield 240, 3) := by decide +kernel
theorem d_Maker_writeParts_20 : decode b_Maker_writeParts 20 = .ok (.invokevirtual 236, 3) := by decide +kernel
theorem d_Maker_writeParts_23 : decode b_Maker_writeParts 23 = .ok (.aload_n 0, 1) := by decide +kernel
theorem d_Maker_writeParts_24 : decode b_Maker_writeParts 24 = .ok (.getfield 26, 3) := by decide +kernel
theorem d_Maker_writeParts_27 : decode b_Maker_writeParts 27 = .ok (.invokevirtual 180, 3) := by decide +kernel
theorem d_Maker_writeParts_30 : decode b_Maker_writeParts 30 = .ok (.istore_n 2, 1) := by decide +kernel
theorem d_Maker_writeParts_31 : decode b_Maker_writeParts 31 = .ok (.iload_n 2, 1) := by decide +kernel
theorem d_Maker_writeParts_32 : decode b_Maker_writeParts 32 = .ok (.ifCond .le 126, 3) := by decide +kernel
theorem d_Maker_writeParts_35 : decode b_Maker_writeParts 35 = .ok (.iload_n 1, 1) := by decide +kernel
theorem d_Maker_writeParts_36 : decode b_Maker_writeParts 36 = .ok (.aload_n 0, 1) := by decide +kernel
theorem d_Maker_writeParts_37 : decode b_Maker_writeParts 37 = .ok (.getfield 26, 3) := by decide +kernel
theorem d_Maker_writeParts_40 : decode b_Maker_writeParts 40 = .ok (.getfield 240, 3) := by decide +kernel
theorem d_Maker_writeParts_43 : decode b_Maker_writeParts 43 = .ok (.iadd, 1) := by decide +kernel
theorem d_Maker_writeParts_44 : decode b_Maker_writeParts 44 = .ok (.istore_n 3, 1) := by decide +kernel
theorem d_Maker_writeParts_45 : decode b_Maker_writeParts 45 = .ok (.aload_n 0, 1) := by decide +kernel
theorem d_Maker_writeParts_46 : decode b_Maker_writeParts 46 = .ok (.getfield 47, 3) := by decide +kernel
theorem d_Maker_writeParts_49 : decode b_Maker_writeParts 49 = .ok (.iload_n 3, 1) := by decide +kernel
theorem d_Maker_writeParts_50 : decode b_Maker_writeParts 50 = .ok (.sipush 17221, 3) := by decide +kernel
theorem d_Maker_writeParts_53 : decode b_Maker_writeParts 53 = .ok (.iconst 2, 1) := by decide +kernel
theorem d_Maker_writeParts_54 : decode b_Maker_writeParts 54 = .ok (.invokevirtual 243, 3) := by decide +kernel
theorem d_Maker_writeParts_57 : decode b_Maker_writeParts 57 = .ok (.aload_n 0, 1) := by decide +kernel
theorem d_Maker_writeParts_58 : decode b_Maker_writeParts 58 = .ok (.getfield 47, 3) := by decide +kernel
theorem d_Maker_writeParts_61 : decode b_Maker_writeParts 61 = .ok (.iload_n 3, 1) := by decide +kernel
theorem d_Maker_writeParts_62 : decode b_Maker_writeParts 62 = .ok (.iconst 2, 1) := by decide +kernel
theorem d_Maker_writeParts_63 : decode b_Maker_writeParts 63 = .ok (.iadd, 1) := by decide +kernel
theorem d_Maker_writeParts_64 : decode b_Maker_writeParts 64 = .ok (.bipush 28, 2) := by decide +kernel
theorem d_Maker_writeParts_66 : decode b_Maker_writeParts 66 = .ok (.invokevirtual 196, 3) := by decide +kernel
theorem d_Maker_writeParts_69 : decode b_Maker_writeParts 69 = .ok (.aload_n 0, 1) := by decide +kernel
theorem d_Maker_writeParts_70 : decode b_Maker_writeParts 70 = .ok (.getfield 47, 3) := by decide +kernel
theorem d_Maker_writeParts_73 : decode b_Maker_writeParts 73 = .ok (.iload_n 3, 1) := by decide +kernel
theorem d_Maker_writeParts_74 : decode b_Maker_writeParts 74 = .ok (.iconst 3, 1) := by decide +kernel
theorem d_Maker_writeParts_75 : decode b_Maker_writeParts 75 = .ok (.iadd, 1) := by decide +kernel
theorem d_Maker_writeParts_76 : decode b_Maker_writeParts 76 = .ok (.iconst 1, 1) := by decide +kernel
theorem d_Maker_writeParts_77 : decode b_Maker_writeParts 77 = .ok (.invokevirtual 196, 3) := by decide +kernel
theorem d_Maker_writeParts_80 : decode b_Maker_writeParts 80 = .ok (.aload_n 0, 1) := by decide +kernel
theorem d_Maker_writeParts_81 : decode b_Maker_writeParts 81 = .ok (.getfield 47, 3) := by decide +kernel
theorem d_Maker_writeParts_84 : decode b_Maker_writeParts 84 = .ok (.iload_n 3, 1) := by decide +kernel
theorem d_Maker_writeParts_85 : decode b_Maker_writeParts 85 = .ok (.iconst 4, 1) := by decide +kernel
theorem d_Maker_writeParts_86 : decode b_Maker_writeParts 86 = .ok (.iadd, 1) := by decide +kernel
theorem d_Maker_writeParts_87 : decode b_Maker_writeParts 87 = .ok (.aload_n 0, 1) := by decide +kernel
theorem d_Maker_writeParts_88 : decode b_Maker_writeParts 88 = .ok (.getfield 72, 3) := by decide +kernel
theorem d_Maker_writeParts_91 : decode b_Maker_writeParts 91 = .ok (.sipush 2048, 3) := by decide +kernel
theorem d_Maker_writeParts_94 : decode b_Maker_writeParts 94 = .ok (.idiv, 1) := by decide +kernel
theorem d_Maker_writeParts_95 : decode b_Maker_writeParts 95 = .ok (.iconst 4, 1) := by decide +kernel
theorem d_Maker_writeParts_96 : decode b_Maker_writeParts 96 = .ok (.invokevirtual 225, 3) := by decide +kernel
theorem d_Maker_writeParts_99 : decode b_Maker_writeParts 99 = .ok (.aload_n 0, 1) := by decide +kernel
theorem d_Maker_writeParts_100 : decode b_Maker_writeParts 100 = .ok (.getfield 47, 3) := by decide +kernel
theorem d_Maker_writeParts_103 : decode b_Maker_writeParts 103 = .ok (.iload_n 3, 1) := by decide +kernel
theorem d_Maker_writeParts_104 : decode b_Maker_writeParts 104 = .ok (.bipush 12, 2) := by decide +kernel
theorem d_Maker_writeParts_106 : decode b_Maker_writeParts 106 = .ok (.iadd, 1) := by decide +kernel
theorem d_Maker_writeParts_107 : decode b_Maker_writeParts 107 = .ok (.aload_n 0, 1) := by decide +kernel
theorem d_Maker_writeParts_108 : decode b_Maker_writeParts 108 = .ok (.getfield 72, 3) := by decide +kernel
theorem d_Maker_writeParts_111 : decode b_Maker_writeParts 111 = .ok (.sipush 2048, 3) := by decide +kernel
theorem d_Maker_writeParts_114 : decode b_Maker_writeParts 114 = .ok (.irem, 1) := by decide +kernel
theorem d_Maker_writeParts_115 : decode b_Maker_writeParts 115 = .ok (.iconst 4, 1) := by decide +kernel
theorem d_Maker_writeParts_116 : decode b_Maker_writeParts 116 = .ok (.invokevirtual 225, 3) := by decide +kernel
theorem d_Maker_writeParts_119 : decode b_Maker_writeParts 119 = .ok (.aload_n 0, 1) := by decide +kernel
theorem d_Maker_writeParts_120 : decode b_Maker_writeParts 120 = .ok (.getfield 47, 3) := by decide +kernel
theorem d_Maker_writeParts_123 : decode b_Maker_writeParts 123 = .ok (.iload_n 3, 1) := by decide +kernel
theorem d_Maker_writeParts_124 : decode b_Maker_writeParts 124 = .ok (.bipush 20, 2) := by decide +kernel
theorem d_Maker_writeParts_126 : decode b_Maker_writeParts 126 = .ok (.iadd, 1) := by decide +kernel
theorem d_Maker_writeParts_127 : decode b_Maker_writeParts 127 = .ok (.iload_n 2, 1) := by decide +kernel
theorem d_Maker_writeParts_128 : decode b_Maker_writeParts 128 = .ok (.iconst 4, 1) := by decide +kernel
theorem d_Maker_writeParts_129 : decode b_Maker_writeParts 129 = .ok (.invokevirtual 225, 3) := by decide +kernel
theorem d_Maker_writeParts_132 : decode b_Maker_writeParts 132 = .ok (.aload_n 0, 1) := by decide +kernel
theorem d_Maker_writeParts_133 : decode b_Maker_writeParts 133 = .ok (.getfield 26, 3) := by decide +kernel
theorem d_Maker_writeParts_136 : decode b_Maker_writeParts 136 = .ok (.getfield 57, 3) := by decide +kernel
theorem d_Maker_writeParts_139 : decode b_Maker_writeParts 139 = .ok (.aload_n 0, 1) := by decide +kernel
theorem d_Maker_writeParts_140 : decode b_Maker_writeParts 140 = .ok (.getfield 47, 3) := by decide +kernel
theorem d_Maker_writeParts_143 : decode b_Maker_writeParts 143 = .ok (.aload_n 0, 1) := by decide +kernel
theorem d_Maker_writeParts_144 : decode b_Maker_writeParts 144 = .ok (.getfield 26, 3) := by decide +kernel
theorem d_Maker_writeParts_147 : decode b_Maker_writeParts 147 = .ok (.getfield 240, 3) := by decide +kernel
theorem d_Maker_writeParts_150 : decode b_Maker_writeParts 150 = .ok (.aload_n 0, 1) := by decide +kernel
theorem d_Maker_writeParts_151 : decode b_Maker_writeParts 151 = .ok (.getfield 72, 3) := by decide +kernel
theorem d_Maker_writeParts_154 : decode b_Maker_writeParts 154 = .ok (.iload_n 2, 1) := by decide +kernel
theorem d_Maker_writeParts_155 : decode b_Maker_writeParts 155 = .ok (.invokevirtual 236, 3) := by decide +kernel
theorem d_Maker_writeParts_158 : decode b_Maker_writeParts 158 = .ok (.return_, 1) := by decide +kernel
set_option maxHeartbeats 4000000 in
set_option maxRecDepth 100000 in
theorem c3_writeParts (l : Launch) (D : va_G) (cB cI cJ cZ cN cF : ClassId) (sz : Nat) (m0 : Nat) (tr : Nat) (im : Nat) (fi : Nat) (se : Nat) (u0 : Nat) (id : Nat) (ct : Nat) (ra : Int32) (ru : Int32) (wg : Int32) (pb : Nat) (pq : Nat) (en : Nat) (uc : Int32) (uk : Int32) (pL : Int32) (pf : Nat → Int32) (iq : Nat) (n : Nat) (L : Int32) (f : Nat → Int32) (x : Int32) (hL : 0 ≤ L.toInt ∧ L.toInt ≤ n) (hn : n ≤ 3000000) (hPL : 0 ≤ pL.toInt ∧ pL.toInt ≤ 400) (huk : 0 ≤ uk.toInt ∧ uk.toInt ≤ pL.toInt) : Met l y_Maker_writeParts w_Maker_writeParts ({ frames := 2, cells := 0, slots := 0, locals := 59 }) (va_Pc [.ref m0, .int x] (fun U => U.heap.size = sz ∧ va_P D CL [(m0, .inr (4, [.ref tr, .ref im, .ref fi, .ref se, .ref u0, .ref id, .ref ct, .int ra, .int ru, .int wg])), (u0, .inr (8, [.ref pb, .ref en, .int uc, .int uk])), (pb, .inr (1, [.ref pq, .int pL])), (pq, .inl (cB, 400, .inl pf)), (im, .inr (1, [.ref iq, .int L])), (iq, .inl (cB, n, .inl f))] U.heap ∧ va_K D CL (TY cB cI cJ cZ cN cF) U ∧ NN U ∧ va_D (fun _ => True) [(m0, .inr (4, [.ref tr, .ref im, .ref fi, .ref se, .ref u0, .ref id, .ref ct, .int ra, .int ru, .int wg])), (u0, .inr (8, [.ref pb, .ref en, .int uc, .int uk])), (pb, .inr (1, [.ref pq, .int pL])), (pq, .inl (cB, 400, .inl pf)), (im, .inr (1, [.ref iq, .int L])), (iq, .inl (cB, n, .inl f))])) (va_Qv (fun (u : (Nat → Int32)) => True) (fun (u : (Nat → Int32)) (t : State) => match u with | g => va_P D CL [(m0, .inr (4, [.ref tr, .ref im, .ref fi, .ref se, .ref u0, .ref id, .ref ct, .int ra, .int ru, .int wg])), (u0, .inr (8, [.ref pb, .ref en, .int uc, .int uk])), (pb, .inr (1, [.ref pq, .int pL])), (pq, .inl (cB, 400, .inl pf)), (im, .inr (1, [.ref iq, .int L])), (iq, .inl (cB, n, .inl g))] t.heap ∧ va_D (va_A [(m0, .inr (4, [.ref tr, .ref im, .ref fi, .ref se, .ref u0, .ref id, .ref ct, .int ra, .int ru, .int wg])), (u0, .inr (8, [.ref pb, .ref en, .int uc, .int uk])), (pb, .inr (1, [.ref pq, .int pL])), (pq, .inl (cB, 400, .inl pf)), (im, .inr (1, [.ref iq, .int L])), (iq, .inl (cB, n, .inl f))] sz) [(m0, .inr (4, [.ref tr, .ref im, .ref fi, .ref se, .ref u0, .ref id, .ref ct, .int ra, .int ru, .int wg])), (u0, .inr (8, [.ref pb, .ref en, .int uc, .int uk])), (pb, .inr (1, [.ref pq, .int pL])), (pq, .inl (cB, 400, .inl pf)), (im, .inr (1, [.ref iq, .int L])), (iq, .inl (cB, n, .inl g))]) (va_A [(m0, .inr (4, [.ref tr, .ref im, .ref fi, .ref se, .ref u0, .ref id, .ref ct, .int ra, .int ru, .int wg])), (u0, .inr (8, [.ref pb, .ref en, .int uc, .int uk])), (pb, .inr (1, [.ref pq, .int pL])), (pq, .inl (cB, 400, .inl pf)), (im, .inr (1, [.ref iq, .int L])), (iq, .inl (cB, n, .inl f))] sz)) 0 0 (va_A [(m0, .inr (4, [.ref tr, .ref im, .ref fi, .ref se, .ref u0, .ref id, .ref ct, .int ra, .int ru, .int wg])), (u0, .inr (8, [.ref pb, .ref en, .int uc, .int uk])), (pb, .inr (1, [.ref pq, .int pL])), (pq, .inl (cB, 400, .inl pf)), (im, .inr (1, [.ref iq, .int L])), (iq, .inl (cB, n, .inl f))] sz) := by
  refine Met.ofW (cc := b_Maker_writeParts) (maxL := 4) (ret := none) (by decide +kernel) rfl ?_
  intro p e s m args below meth c s₁ B hml hv
  obtain ⟨rfl, hsz, hP, hK, hN, hD0⟩ := hv
  have hx := B.exec
  have hb := B.bytes
  have hr := B.returns
  have hts := atoms_spec (ws := w_Maker_writeParts) B.pre
  have ht9 := fun (w : Cond) (h : w ∈ lw_g) => hts w (List.mem_cons_of_mem _ h)
  have hown : s.vm.findClass "DiscMaker$Maker" = some m.cls := findClass_of_methodNamed B.named
  have hlocks := B.notSynchronized
  subst hsz
  have hD := hD0.self (sz := s.heap.size)
  generalize hAe : va_A [(m0, .inr (4, [.ref tr, .ref im, .ref fi, .ref se, .ref u0, .ref id, .ref ct, .int ra, .int ru, .int wg])), (u0, .inr (8, [.ref pb, .ref en, .int uc, .int uk])), (pb, .inr (1, [.ref pq, .int pL])), (pq, .inl (cB, 400, .inl pf)), (im, .inr (1, [.ref iq, .int L])), (iq, .inl (cB, n, .inl f))] s.heap.size = A at hD ⊢
  have hA : ∀ q : Nat, s.heap.size ≤ q → A q := fun q h => by rw [← hAe]; exact Or.inr h
  have hS : va_S A s.heap s.heap [] := va_S.rf
  have hP : va_P D CL [(m0, .inr (4, [.ref tr, .ref im, .ref fi, .ref se, .ref u0, .ref id, .ref ct, .int ra, .int ru, .int wg])), (u0, .inr (8, [.ref pb, .ref en, .int uc, .int uk])), (pb, .inr (1, [.ref pq, .int pL])), (pq, .inl (cB, 400, .inl pf)), (im, .inr (1, [.ref iq, .int L])), (iq, .inl (cB, n, .inl f))] s.heap := hP
  have hl := lv_entry [.ref m0, .int x] (n := 4) (Nat.le_of_ble_eq_true rfl)
  rw [lg_entry_eq]
  generalize (lg_sl [.ref m0, .int x] ++ List.replicate (4 - (lg_sl [.ref m0, .int x]).length) Slot.unset).toArray = ls at hl ⊢
  have hl : lv_has ls 4 [(0, .ref m0), (1, .int x)] := hl
  have L_m1 : ((-1) : Int32).toInt = (-1) := by decide
  have L_0 : (0 : Int32).toInt = 0 := by decide
  have L_1 : (1 : Int32).toInt = 1 := by decide
  have L_2 : (2 : Int32).toInt = 2 := by decide
  have L_3 : (3 : Int32).toInt = 3 := by decide
  have L_4 : (4 : Int32).toInt = 4 := by decide
  have L_12 : (12 : Int32).toInt = 12 := by decide
  have L_20 : (20 : Int32).toInt = 20 := by decide
  have L_28 : (28 : Int32).toInt = 28 := by decide
  have L_2048 : (2048 : Int32).toInt = 2048 := by decide
  have L_17221 : (17221 : Int32).toInt = 17221 := by decide
  refine lv_aload_n hx hb d_Maker_writeParts_0 rfl (lv_at hl 0 rfl) ?_
  refine va_get (D := D) (ci := 4) (v := .ref u0) (C := "DiscMaker$Maker") (T := F_Maker) (N := 10) hx hb ht9 in_Maker hown hK hP 0 rfl rfl 4 (by decide) (ht9 _ k351) (fun _ h9 => h9) rfl d_Maker_writeParts_1 ?_
  refine va_getN (D := D) (ci := 8) (v := .ref pb) (C := "DiscMaker$SystemUse") (T := F_SystemUse) (N := 4) hx hb ht9 in_SystemUse hown hK hP 1 rfl rfl 0 (by decide) (va_Nw.use rfl (hN _ k331)) (fun _ h9 => h9) rfl d_Maker_writeParts_4 ?_
  refine lv_aload_n hx hb d_Maker_writeParts_7 rfl (lv_at hl 0 rfl) ?_
  refine va_get (D := D) (ci := 4) (v := .ref im) (C := "DiscMaker$Maker") (T := F_Maker) (N := 10) hx hb ht9 in_Maker hown hK hP 0 rfl rfl 1 (by decide) (ht9 _ k348) (fun _ h9 => h9) rfl d_Maker_writeParts_8 ?_
  refine lv_iconst (v := 0) hx hb d_Maker_writeParts_11 (by decide) ?_
  refine lv_iload_n hx hb d_Maker_writeParts_12 rfl (lv_at hl 1 rfl) ?_
  refine lv_aload_n hx hb d_Maker_writeParts_13 rfl (lv_at hl 0 rfl) ?_
  refine va_get (D := D) (ci := 4) (v := .ref u0) (C := "DiscMaker$Maker") (T := F_Maker) (N := 10) hx hb ht9 in_Maker hown hK hP 0 rfl rfl 4 (by decide) (ht9 _ k351) (fun _ h9 => h9) rfl d_Maker_writeParts_14 ?_
  refine va_getN (D := D) (ci := 8) (v := .int uk) (C := "DiscMaker$SystemUse") (T := F_SystemUse) (N := 4) hx hb ht9 in_SystemUse hown hK hP 1 rfl rfl 3 (by decide) (va_Nw.use rfl (hN _ k335)) (fun _ h9 => h9) rfl d_Maker_writeParts_17 ?_
  have hPc := hP.sub (ws' := [(pb, .inr (1, [.ref pq, .int pL])), (pq, .inl (cB, 400, .inl pf)), (im, .inr (1, [.ref iq, .int L])), (iq, .inl (cB, n, .inl f))]) [2, 3, 4, 5] rfl
  have hDc := hD.sub (ws' := [(pb, .inr (1, [.ref pq, .int pL])), (pq, .inl (cB, 400, .inl pf)), (im, .inr (1, [.ref iq, .int L])), (iq, .inl (cB, n, .inl f))]) [2, 3, 4, 5] (by decide +kernel) rfl
  have hFc := va_free (wc := [(pb, .inr (1, [.ref pq, .int pL])), (pq, .inl (cB, 400, .inl pf)), (im, .inr (1, [.ref iq, .int L])), (iq, .inl (cB, n, .inl f))]) hD hS hA [2, 3, 4, 5] rfl
  have hkc : 0 ≤ 0 := by decide
  have hks : 0 ≤ 0 := by decide
  refine va_callv (va_runV (C := "DiscMaker$Bytes") (As := [.ref im, .int 0, .int x, .int uk]) (rest := []) ⟨hx, hb, hml, hown, hts⟩ (c3_copyTo l D cB cI cJ cZ cN cF s.heap.size pb pq 400 pL pf im iq n L f 0 x uk (by (try dsimp only); first | assumption | omega | trivial) (by (try dsimp only); first | assumption | omega | trivial) (by (try dsimp only); first | assumption | omega | trivial) (by (try dsimp only); first | assumption | omega | trivial)) (cwV 4 hts (lg_goodV k1060 k1061 k1062 k119 kc_Bytes_copyTo) rfl rfl rfl (by decide +kernel) ⟨Nat.le_of_ble_eq_true rfl, Nat.le_of_ble_eq_true rfl⟩) ⟨fun a U g mk q => by obtain ⟨q0, q1, qP, qK, qN, qD⟩ := q; exact ⟨q0, q1, qP, va_K.moved (u := U) (U := U.calling g mk a) (Vm.Alike.refl U.vm) qK, qN.calling, qD⟩, va_recv hK hP (ci := 1) (q0 := 2) rfl rfl, fun U hU hW => ⟨rfl, by rw [hU], by rw [hU]; exact hPc, va_K.moved hW.alike hK, NN.warm hW hN, hDc.weaken (fun _ _ _ _ => trivial)⟩⟩ rfl rfl hl.1 rfl (lv_room (Nat.le_of_ble_eq_true rfl)) d_Maker_writeParts_20 ⟨hkc, hks⟩) hS (fun q _ h => hFc q h) hFc (fun u t H1 locs ht hvm hp_r1 hB hz1 hk1 hS => ?_)
  obtain ⟨g_2, rfl⟩ : ∃ z, z = u := ⟨_, rfl⟩
  obtain ⟨hP1, hD1⟩ := hB
  rw [ht] at hP1
  obtain ⟨hP, hD⟩ := va_join (wr := [(m0, .inr (4, [.ref tr, .ref im, .ref fi, .ref se, .ref u0, .ref id, .ref ct, .int ra, .int ru, .int wg])), (u0, .inr (8, [.ref pb, .ref en, .int uc, .int uk]))]) (w1 := [(pb, .inr (1, [.ref pq, .int pL])), (pq, .inl (cB, 400, .inl pf)), (im, .inr (1, [.ref iq, .int L])), (iq, .inl (cB, n, .inl g_2))]) hP hD [2, 3, 4, 5] [0, 1] rfl rfl (by decide +kernel) (by decide +kernel) hk1 hFc hP1 hD1
  clear hPc hDc hFc hP1 hD1 hk1 hz1 hkc hks
  generalize H1 = H at hP hS ⊢
  have hP : va_P D CL [(m0, .inr (4, [.ref tr, .ref im, .ref fi, .ref se, .ref u0, .ref id, .ref ct, .int ra, .int ru, .int wg])), (u0, .inr (8, [.ref pb, .ref en, .int uc, .int uk])), (pb, .inr (1, [.ref pq, .int pL])), (pq, .inl (cB, 400, .inl pf)), (im, .inr (1, [.ref iq, .int L])), (iq, .inl (cB, n, .inl g_2))] H := hP
  have hD : va_D A [(m0, .inr (4, [.ref tr, .ref im, .ref fi, .ref se, .ref u0, .ref id, .ref ct, .int ra, .int ru, .int wg])), (u0, .inr (8, [.ref pb, .ref en, .int uc, .int uk])), (pb, .inr (1, [.ref pq, .int pL])), (pq, .inl (cB, 400, .inl pf)), (im, .inr (1, [.ref iq, .int L])), (iq, .inl (cB, n, .inl g_2))] := hD
  refine lv_aload_n hx hb d_Maker_writeParts_23 rfl (lv_at hl 0 rfl) ?_
  refine va_get (D := D) (ci := 4) (v := .ref u0) (C := "DiscMaker$Maker") (T := F_Maker) (N := 10) hx hb ht9 in_Maker hown hK hP 0 rfl rfl 4 (by decide) (ht9 _ k351) (fun _ h9 => h9) rfl d_Maker_writeParts_24 ?_
  have hPc := hP.sub (ws' := [(u0, .inr (8, [.ref pb, .ref en, .int uc, .int uk])), (pb, .inr (1, [.ref pq, .int pL])), (pq, .inl (cB, 400, .inl pf))]) [1, 2, 3] rfl
  have hDc := hD.sub (ws' := [(u0, .inr (8, [.ref pb, .ref en, .int uc, .int uk])), (pb, .inr (1, [.ref pq, .int pL])), (pq, .inl (cB, 400, .inl pf))]) [1, 2, 3] (by decide +kernel) rfl
  have hFc := va_free (wc := [(u0, .inr (8, [.ref pb, .ref en, .int uc, .int uk])), (pb, .inr (1, [.ref pq, .int pL])), (pq, .inl (cB, 400, .inl pf))]) hD hS hA [1, 2, 3] rfl
  have hkc : 0 ≤ 0 := by decide
  have hks : 0 ≤ 0 := by decide
  refine va_calli (va_runV (C := "DiscMaker$SystemUse") (As := []) (rest := []) ⟨hx, hb, hml, hown, hts⟩ (c3_bytesBehind l D cB cI cJ cZ cN cF H.size u0 pb pq en uc uk pL pf (by (try dsimp only); first | assumption | omega | trivial) (by (try dsimp only); first | assumption | omega | trivial)) (cwV 0 hts (lg_goodV k1048 k1049 k1050 k122 kc_SystemUse_bytesBehind) rfl rfl rfl (by decide +kernel) ⟨Nat.le_of_ble_eq_true rfl, Nat.le_of_ble_eq_true rfl⟩) ⟨fun a U g mk q => by obtain ⟨q0, q1, qP, qK, qN, qD⟩ := q; exact ⟨q0, q1, qP, va_K.moved (u := U) (U := U.calling g mk a) (Vm.Alike.refl U.vm) qK, qN.calling, qD⟩, va_recv hK hP (ci := 8) (q0 := 1) rfl rfl, fun U hU hW => ⟨rfl, by rw [hU], by rw [hU]; exact hPc, va_K.moved hW.alike hK, NN.warm hW hN, hDc.weaken (fun _ _ _ _ => trivial)⟩⟩ rfl rfl hl.1 rfl (lv_room (Nat.le_of_ble_eq_true rfl)) d_Maker_writeParts_27 ⟨hkc, hks⟩) hS (fun q _ h => hFc q h) hFc (fun r3 u t H1 locs ht hvm hp_r3 hB hz1 hk1 hS => ?_)
  obtain ⟨hP1, hD1⟩ := hB
  rw [ht] at hP1
  obtain ⟨hP, hD⟩ := va_join (wr := [(m0, .inr (4, [.ref tr, .ref im, .ref fi, .ref se, .ref u0, .ref id, .ref ct, .int ra, .int ru, .int wg])), (im, .inr (1, [.ref iq, .int L])), (iq, .inl (cB, n, .inl g_2))]) (w1 := [(u0, .inr (8, [.ref pb, .ref en, .int uc, .int uk])), (pb, .inr (1, [.ref pq, .int pL])), (pq, .inl (cB, 400, .inl pf))]) hP hD [1, 2, 3] [0, 4, 5] rfl rfl (by decide +kernel) (by decide +kernel) hk1 hFc hP1 hD1
  clear hPc hDc hFc hP1 hD1 hk1 hz1 hkc hks
  generalize H1 = H at hP hS ⊢
  have hP : va_P D CL [(m0, .inr (4, [.ref tr, .ref im, .ref fi, .ref se, .ref u0, .ref id, .ref ct, .int ra, .int ru, .int wg])), (im, .inr (1, [.ref iq, .int L])), (iq, .inl (cB, n, .inl g_2)), (u0, .inr (8, [.ref pb, .ref en, .int uc, .int uk])), (pb, .inr (1, [.ref pq, .int pL])), (pq, .inl (cB, 400, .inl pf))] H := hP
  have hD : va_D A [(m0, .inr (4, [.ref tr, .ref im, .ref fi, .ref se, .ref u0, .ref id, .ref ct, .int ra, .int ru, .int wg])), (im, .inr (1, [.ref iq, .int L])), (iq, .inl (cB, n, .inl g_2)), (u0, .inr (8, [.ref pb, .ref en, .int uc, .int uk])), (pb, .inr (1, [.ref pq, .int pL])), (pq, .inl (cB, 400, .inl pf))] := hD
  try dsimp only at hp_r3
  have hr_4 := hp_r3
  refine lv_istore_n hx hb d_Maker_writeParts_30 rfl hl (by decide) rfl (fun ls hl => ?_)
  have hl : lv_has ls 4 [(2, .int r3), (0, .ref m0), (1, .int x)] := hl
  refine lv_iload_n hx hb d_Maker_writeParts_31 rfl (lv_at hl 0 rfl) ?_
  refine lv_if_le (tgt := 158) hx hb d_Maker_writeParts_32 (by decide) (fun h_9 => ?_) (fun h_9 => ?_)
  · skip
    have g32_17 : r3.toInt ≤ 0 := (i_le rfl (by decide)).mp h_9
    have hP9 := hP.sub (ws' := [(m0, .inr (4, [.ref tr, .ref im, .ref fi, .ref se, .ref u0, .ref id, .ref ct, .int ra, .int ru, .int wg])), (u0, .inr (8, [.ref pb, .ref en, .int uc, .int uk])), (pb, .inr (1, [.ref pq, .int pL])), (pq, .inl (cB, 400, .inl pf)), (im, .inr (1, [.ref iq, .int L])), (iq, .inl (cB, n, .inl g_2))]) [0, 3, 4, 5, 1, 2] rfl
    have hD9 := hD.sub (ws' := [(m0, .inr (4, [.ref tr, .ref im, .ref fi, .ref se, .ref u0, .ref id, .ref ct, .int ra, .int ru, .int wg])), (u0, .inr (8, [.ref pb, .ref en, .int uc, .int uk])), (pb, .inr (1, [.ref pq, .int pL])), (pq, .inl (cB, 400, .inl pf)), (im, .inr (1, [.ref iq, .int L])), (iq, .inl (cB, n, .inl g_2))]) [0, 3, 4, 5, 1, 2] (by decide +kernel) rfl
    exact W.vret hx hb hr (fun t ht hW => ⟨⟨g_2, rfl, trivial, by rw [ht]; exact hP9, hD9⟩, hS.F ht⟩) hS.2.2 d_Maker_writeParts_158
  · skip
    have g32_17 : ¬ r3.toInt ≤ 0 := fun h8 => h_9 ((i_le rfl (by decide)).mpr h8)
    refine lv_iload_n hx hb d_Maker_writeParts_35 rfl (lv_at hl 2 rfl) ?_
    refine lv_aload_n hx hb d_Maker_writeParts_36 rfl (lv_at hl 1 rfl) ?_
    refine va_get (D := D) (ci := 4) (v := .ref u0) (C := "DiscMaker$Maker") (T := F_Maker) (N := 10) hx hb ht9 in_Maker hown hK hP 0 rfl rfl 4 (by decide) (ht9 _ k351) (fun _ h9 => h9) rfl d_Maker_writeParts_37 ?_
    refine va_getN (D := D) (ci := 8) (v := .int uk) (C := "DiscMaker$SystemUse") (T := F_SystemUse) (N := 4) hx hb ht9 in_SystemUse hown hK hP 3 rfl rfl 3 (by decide) (va_Nw.use rfl (hN _ k335)) (fun _ h9 => h9) rfl d_Maker_writeParts_40 ?_
    refine lv_iadd hx hb d_Maker_writeParts_43 ?_
    refine lv_topi (fun v5 e_v5 => ?_)
    refine lv_istore_n hx hb d_Maker_writeParts_44 rfl hl (by decide) rfl (fun ls hl => ?_)
    have hl : lv_has ls 4 [(3, .int v5), (2, .int r3), (0, .ref m0), (1, .int x)] := hl
    refine lv_aload_n hx hb d_Maker_writeParts_45 rfl (lv_at hl 2 rfl) ?_
    refine va_get (D := D) (ci := 4) (v := .ref im) (C := "DiscMaker$Maker") (T := F_Maker) (N := 10) hx hb ht9 in_Maker hown hK hP 0 rfl rfl 1 (by decide) (ht9 _ k348) (fun _ h9 => h9) rfl d_Maker_writeParts_46 ?_
    refine lv_iload_n hx hb d_Maker_writeParts_49 rfl (lv_at hl 0 rfl) ?_
    refine lv_sipush (v := 17221) hx hb d_Maker_writeParts_50 (by decide) ?_
    refine lv_iconst (v := 2) hx hb d_Maker_writeParts_53 (by decide) ?_
    have hPc := hP.sub (ws' := [(im, .inr (1, [.ref iq, .int L])), (iq, .inl (cB, n, .inl g_2))]) [1, 2] rfl
    have hDc := hD.sub (ws' := [(im, .inr (1, [.ref iq, .int L])), (iq, .inl (cB, n, .inl g_2))]) [1, 2] (by decide +kernel) rfl
    have hFc := va_free (wc := [(im, .inr (1, [.ref iq, .int L])), (iq, .inl (cB, n, .inl g_2))]) hD hS hA [1, 2] rfl
    have hkc : 0 ≤ 0 := by decide
    have hks : 0 ≤ 0 := by decide
    refine va_callv (va_runV (C := "DiscMaker$Bytes") (As := [.int v5, .int 17221, .int 2]) (rest := []) ⟨hx, hb, hml, hown, hts⟩ (c3_putHigh l D cB cI cJ cZ cN cF H.size im iq n L g_2 v5 17221 2 (by (try dsimp only); first | assumption | omega | trivial) (by (try dsimp only); first | assumption | omega | trivial) (by (try dsimp only); first | assumption | omega | trivial)) (cwV 3 hts (lg_goodV k1072 k985 k986 k119 kc_Bytes_putHigh) rfl rfl rfl (by decide +kernel) ⟨Nat.le_of_ble_eq_true rfl, Nat.le_of_ble_eq_true rfl⟩) ⟨fun a U g mk q => by obtain ⟨q0, q1, qP, qK, qN, qD⟩ := q; exact ⟨q0, q1, qP, va_K.moved (u := U) (U := U.calling g mk a) (Vm.Alike.refl U.vm) qK, qN.calling, qD⟩, va_recv hK hP (ci := 1) (q0 := 1) rfl rfl, fun U hU hW => ⟨rfl, by rw [hU], by rw [hU]; exact hPc, va_K.moved hW.alike hK, NN.warm hW hN, hDc.weaken (fun _ _ _ _ => trivial)⟩⟩ rfl rfl hl.1 rfl (lv_room (Nat.le_of_ble_eq_true rfl)) d_Maker_writeParts_54 ⟨hkc, hks⟩) hS (fun q _ h => hFc q h) hFc (fun u t H1 locs ht hvm hp_r6 hB hz1 hk1 hS => ?_)
    obtain ⟨g_7, rfl⟩ : ∃ z, z = u := ⟨_, rfl⟩
    obtain ⟨hP1, hD1⟩ := hB
    rw [ht] at hP1
    obtain ⟨hP, hD⟩ := va_join (wr := [(m0, .inr (4, [.ref tr, .ref im, .ref fi, .ref se, .ref u0, .ref id, .ref ct, .int ra, .int ru, .int wg])), (u0, .inr (8, [.ref pb, .ref en, .int uc, .int uk])), (pb, .inr (1, [.ref pq, .int pL])), (pq, .inl (cB, 400, .inl pf))]) (w1 := [(im, .inr (1, [.ref iq, .int L])), (iq, .inl (cB, n, .inl g_7))]) hP hD [1, 2] [0, 3, 4, 5] rfl rfl (by decide +kernel) (by decide +kernel) hk1 hFc hP1 hD1
    clear hPc hDc hFc hP1 hD1 hk1 hz1 hkc hks
    generalize H1 = H at hP hS ⊢
    have hP : va_P D CL [(m0, .inr (4, [.ref tr, .ref im, .ref fi, .ref se, .ref u0, .ref id, .ref ct, .int ra, .int ru, .int wg])), (u0, .inr (8, [.ref pb, .ref en, .int uc, .int uk])), (pb, .inr (1, [.ref pq, .int pL])), (pq, .inl (cB, 400, .inl pf)), (im, .inr (1, [.ref iq, .int L])), (iq, .inl (cB, n, .inl g_7))] H := hP
    have hD : va_D A [(m0, .inr (4, [.ref tr, .ref im, .ref fi, .ref se, .ref u0, .ref id, .ref ct, .int ra, .int ru, .int wg])), (u0, .inr (8, [.ref pb, .ref en, .int uc, .int uk])), (pb, .inr (1, [.ref pq, .int pL])), (pq, .inl (cB, 400, .inl pf)), (im, .inr (1, [.ref iq, .int L])), (iq, .inl (cB, n, .inl g_7))] := hD
    refine lv_aload_n hx hb d_Maker_writeParts_57 rfl (lv_at hl 2 rfl) ?_
    refine va_get (D := D) (ci := 4) (v := .ref im) (C := "DiscMaker$Maker") (T := F_Maker) (N := 10) hx hb ht9 in_Maker hown hK hP 0 rfl rfl 1 (by decide) (ht9 _ k348) (fun _ h9 => h9) rfl d_Maker_writeParts_58 ?_
    refine lv_iload_n hx hb d_Maker_writeParts_61 rfl (lv_at hl 0 rfl) ?_
    refine lv_iconst (v := 2) hx hb d_Maker_writeParts_62 (by decide) ?_
    refine lv_iadd hx hb d_Maker_writeParts_63 ?_
    refine lv_topi (fun v8 e_v8 => ?_)
    refine lv_bipush (v := 28) hx hb d_Maker_writeParts_64 (by decide) ?_
    have hPc := hP.sub (ws' := [(im, .inr (1, [.ref iq, .int L])), (iq, .inl (cB, n, .inl g_7))]) [4, 5] rfl
    have hDc := hD.sub (ws' := [(im, .inr (1, [.ref iq, .int L])), (iq, .inl (cB, n, .inl g_7))]) [4, 5] (by decide +kernel) rfl
    have hFc := va_free (wc := [(im, .inr (1, [.ref iq, .int L])), (iq, .inl (cB, n, .inl g_7))]) hD hS hA [4, 5] rfl
    have hkc : 0 ≤ 0 := by decide
    have hks : 0 ≤ 0 := by decide
    refine va_callv (va_runV (C := "DiscMaker$Bytes") (As := [.int v8, .int 28]) (rest := []) ⟨hx, hb, hml, hown, hts⟩ (c3_put l D cB cI cJ cZ cN cF H.size im iq n L g_7 v8 28 (by (try dsimp only); first | assumption | omega | trivial) (by (try dsimp only); first | assumption | omega | trivial)) (cwV 2 hts (lg_goodV k978 k912 k913 k119 kc_Bytes_put) rfl rfl rfl (by decide +kernel) ⟨Nat.le_of_ble_eq_true rfl, Nat.le_of_ble_eq_true rfl⟩) ⟨fun a U g mk q => by obtain ⟨q0, q1, qP, qK, qN, qD⟩ := q; exact ⟨q0, q1, qP, va_K.moved (u := U) (U := U.calling g mk a) (Vm.Alike.refl U.vm) qK, qN.calling, qD⟩, va_recv hK hP (ci := 1) (q0 := 4) rfl rfl, fun U hU hW => ⟨rfl, by rw [hU], by rw [hU]; exact hPc, va_K.moved hW.alike hK, NN.warm hW hN, hDc.weaken (fun _ _ _ _ => trivial)⟩⟩ rfl rfl hl.1 rfl (lv_room (Nat.le_of_ble_eq_true rfl)) d_Maker_writeParts_66 ⟨hkc, hks⟩) hS (fun q _ h => hFc q h) hFc (fun u t H1 locs ht hvm hp_r9 hB hz1 hk1 hS => ?_)
    obtain ⟨g_10, rfl⟩ : ∃ z, z = u := ⟨_, rfl⟩
    obtain ⟨hP1, hD1⟩ := hB
    rw [ht] at hP1
    obtain ⟨hP, hD⟩ := va_join (wr := [(m0, .inr (4, [.ref tr, .ref im, .ref fi, .ref se, .ref u0, .ref id, .ref ct, .int ra, .int ru, .int wg])), (u0, .inr (8, [.ref pb, .ref en, .int uc, .int uk])), (pb, .inr (1, [.ref pq, .int pL])), (pq, .inl (cB, 400, .inl pf))]) (w1 := [(im, .inr (1, [.ref iq, .int L])), (iq, .inl (cB, n, .inl g_10))]) hP hD [4, 5] [0, 1, 2, 3] rfl rfl (by decide +kernel) (by decide +kernel) hk1 hFc hP1 hD1
    clear hPc hDc hFc hP1 hD1 hk1 hz1 hkc hks
    generalize H1 = H at hP hS ⊢
    have hP : va_P D CL [(m0, .inr (4, [.ref tr, .ref im, .ref fi, .ref se, .ref u0, .ref id, .ref ct, .int ra, .int ru, .int wg])), (u0, .inr (8, [.ref pb, .ref en, .int uc, .int uk])), (pb, .inr (1, [.ref pq, .int pL])), (pq, .inl (cB, 400, .inl pf)), (im, .inr (1, [.ref iq, .int L])), (iq, .inl (cB, n, .inl g_10))] H := hP
    have hD : va_D A [(m0, .inr (4, [.ref tr, .ref im, .ref fi, .ref se, .ref u0, .ref id, .ref ct, .int ra, .int ru, .int wg])), (u0, .inr (8, [.ref pb, .ref en, .int uc, .int uk])), (pb, .inr (1, [.ref pq, .int pL])), (pq, .inl (cB, 400, .inl pf)), (im, .inr (1, [.ref iq, .int L])), (iq, .inl (cB, n, .inl g_10))] := hD
    refine lv_aload_n hx hb d_Maker_writeParts_69 rfl (lv_at hl 2 rfl) ?_
    refine va_get (D := D) (ci := 4) (v := .ref im) (C := "DiscMaker$Maker") (T := F_Maker) (N := 10) hx hb ht9 in_Maker hown hK hP 0 rfl rfl 1 (by decide) (ht9 _ k348) (fun _ h9 => h9) rfl d_Maker_writeParts_70 ?_
    refine lv_iload_n hx hb d_Maker_writeParts_73 rfl (lv_at hl 0 rfl) ?_
    refine lv_iconst (v := 3) hx hb d_Maker_writeParts_74 (by decide) ?_
    refine lv_iadd hx hb d_Maker_writeParts_75 ?_
    refine lv_topi (fun v11 e_v11 => ?_)
    refine lv_iconst (v := 1) hx hb d_Maker_writeParts_76 (by decide) ?_
    have hPc := hP.sub (ws' := [(im, .inr (1, [.ref iq, .int L])), (iq, .inl (cB, n, .inl g_10))]) [4, 5] rfl
    have hDc := hD.sub (ws' := [(im, .inr (1, [.ref iq, .int L])), (iq, .inl (cB, n, .inl g_10))]) [4, 5] (by decide +kernel) rfl
    have hFc := va_free (wc := [(im, .inr (1, [.ref iq, .int L])), (iq, .inl (cB, n, .inl g_10))]) hD hS hA [4, 5] rfl
    have hkc : 0 ≤ 0 := by decide
    have hks : 0 ≤ 0 := by decide
    refine va_callv (va_runV (C := "DiscMaker$Bytes") (As := [.int v11, .int 1]) (rest := []) ⟨hx, hb, hml, hown, hts⟩ (c3_put l D cB cI cJ cZ cN cF H.size im iq n L g_10 v11 1 (by (try dsimp only); first | assumption | omega | trivial) (by (try dsimp only); first | assumption | omega | trivial)) (cwV 2 hts (lg_goodV k978 k912 k913 k119 kc_Bytes_put) rfl rfl rfl (by decide +kernel) ⟨Nat.le_of_ble_eq_true rfl, Nat.le_of_ble_eq_true rfl⟩) ⟨fun a U g mk q => by obtain ⟨q0, q1, qP, qK, qN, qD⟩ := q; exact ⟨q0, q1, qP, va_K.moved (u := U) (U := U.calling g mk a) (Vm.Alike.refl U.vm) qK, qN.calling, qD⟩, va_recv hK hP (ci := 1) (q0 := 4) rfl rfl, fun U hU hW => ⟨rfl, by rw [hU], by rw [hU]; exact hPc, va_K.moved hW.alike hK, NN.warm hW hN, hDc.weaken (fun _ _ _ _ => trivial)⟩⟩ rfl rfl hl.1 rfl (lv_room (Nat.le_of_ble_eq_true rfl)) d_Maker_writeParts_77 ⟨hkc, hks⟩) hS (fun q _ h => hFc q h) hFc (fun u t H1 locs ht hvm hp_r12 hB hz1 hk1 hS => ?_)
    obtain ⟨g_13, rfl⟩ : ∃ z, z = u := ⟨_, rfl⟩
    obtain ⟨hP1, hD1⟩ := hB
    rw [ht] at hP1
    obtain ⟨hP, hD⟩ := va_join (wr := [(m0, .inr (4, [.ref tr, .ref im, .ref fi, .ref se, .ref u0, .ref id, .ref ct, .int ra, .int ru, .int wg])), (u0, .inr (8, [.ref pb, .ref en, .int uc, .int uk])), (pb, .inr (1, [.ref pq, .int pL])), (pq, .inl (cB, 400, .inl pf))]) (w1 := [(im, .inr (1, [.ref iq, .int L])), (iq, .inl (cB, n, .inl g_13))]) hP hD [4, 5] [0, 1, 2, 3] rfl rfl (by decide +kernel) (by decide +kernel) hk1 hFc hP1 hD1
    clear hPc hDc hFc hP1 hD1 hk1 hz1 hkc hks
    generalize H1 = H at hP hS ⊢
    have hP : va_P D CL [(m0, .inr (4, [.ref tr, .ref im, .ref fi, .ref se, .ref u0, .ref id, .ref ct, .int ra, .int ru, .int wg])), (u0, .inr (8, [.ref pb, .ref en, .int uc, .int uk])), (pb, .inr (1, [.ref pq, .int pL])), (pq, .inl (cB, 400, .inl pf)), (im, .inr (1, [.ref iq, .int L])), (iq, .inl (cB, n, .inl g_13))] H := hP
    have hD : va_D A [(m0, .inr (4, [.ref tr, .ref im, .ref fi, .ref se, .ref u0, .ref id, .ref ct, .int ra, .int ru, .int wg])), (u0, .inr (8, [.ref pb, .ref en, .int uc, .int uk])), (pb, .inr (1, [.ref pq, .int pL])), (pq, .inl (cB, 400, .inl pf)), (im, .inr (1, [.ref iq, .int L])), (iq, .inl (cB, n, .inl g_13))] := hD
    refine lv_aload_n hx hb d_Maker_writeParts_80 rfl (lv_at hl 2 rfl) ?_
    refine va_get (D := D) (ci := 4) (v := .ref im) (C := "DiscMaker$Maker") (T := F_Maker) (N := 10) hx hb ht9 in_Maker hown hK hP 0 rfl rfl 1 (by decide) (ht9 _ k348) (fun _ h9 => h9) rfl d_Maker_writeParts_81 ?_
    refine lv_iload_n hx hb d_Maker_writeParts_84 rfl (lv_at hl 0 rfl) ?_
    refine lv_iconst (v := 4) hx hb d_Maker_writeParts_85 (by decide) ?_
    refine lv_iadd hx hb d_Maker_writeParts_86 ?_
    refine lv_topi (fun v14 e_v14 => ?_)
    refine lv_aload_n hx hb d_Maker_writeParts_87 rfl (lv_at hl 2 rfl) ?_
    refine va_get (D := D) (ci := 4) (v := .int ru) (C := "DiscMaker$Maker") (T := F_Maker) (N := 10) hx hb ht9 in_Maker hown hK hP 0 rfl rfl 8 (by decide) (ht9 _ k355) (fun _ h9 => h9) rfl d_Maker_writeParts_88 ?_
    refine lv_sipush (v := 2048) hx hb d_Maker_writeParts_91 (by decide) ?_
    refine lv_idiv hx hb d_Maker_writeParts_94 (by decide) ?_
    refine lv_topi (fun v15 e_v15 => ?_)
    refine lv_iconst (v := 4) hx hb d_Maker_writeParts_95 (by decide) ?_
    have hPc := hP.sub (ws' := [(im, .inr (1, [.ref iq, .int L])), (iq, .inl (cB, n, .inl g_13))]) [4, 5] rfl
    have hDc := hD.sub (ws' := [(im, .inr (1, [.ref iq, .int L])), (iq, .inl (cB, n, .inl g_13))]) [4, 5] (by decide +kernel) rfl
    have hFc := va_free (wc := [(im, .inr (1, [.ref iq, .int L])), (iq, .inl (cB, n, .inl g_13))]) hD hS hA [4, 5] rfl
    have hkc : 0 ≤ 0 := by decide
    have hks : 0 ≤ 0 := by decide
    refine va_callv (va_runV (C := "DiscMaker$Bytes") (As := [.int v14, .int v15, .int 4]) (rest := []) ⟨hx, hb, hml, hown, hts⟩ (c3_putBoth l D cB cI cJ cZ cN cF H.size im iq n L g_13 v14 v15 4 (by (try dsimp only); first | assumption | omega | trivial) (by (try dsimp only); first | assumption | omega | trivial) (by (try dsimp only); first | assumption | omega | trivial)) (cwV 3 hts (lg_goodV k1056 k1023 k1024 k119 kc_Bytes_putBoth) rfl rfl rfl (by decide +kernel) ⟨Nat.le_of_ble_eq_true rfl, Nat.le_of_ble_eq_true rfl⟩) ⟨fun a U g mk q => by obtain ⟨q0, q1, qP, qK, qN, qD⟩ := q; exact ⟨q0, q1, qP, va_K.moved (u := U) (U := U.calling g mk a) (Vm.Alike.refl U.vm) qK, qN.calling, qD⟩, va_recv hK hP (ci := 1) (q0 := 4) rfl rfl, fun U hU hW => ⟨rfl, by rw [hU], by rw [hU]; exact hPc, va_K.moved hW.alike hK, NN.warm hW hN, hDc.weaken (fun _ _ _ _ => trivial)⟩⟩ rfl rfl hl.1 rfl (lv_room (Nat.le_of_ble_eq_true rfl)) d_Maker_writeParts_96 ⟨hkc, hks⟩) hS (fun q _ h => hFc q h) hFc (fun u t H1 locs ht hvm hp_r16 hB hz1 hk1 hS => ?_)
    obtain ⟨g_17, rfl⟩ : ∃ z, z = u := ⟨_, rfl⟩
    obtain ⟨hP1, hD1⟩ := hB
    rw [ht] at hP1
    obtain ⟨hP, hD⟩ := va_join (wr := [(m0, .inr (4, [.ref tr, .ref im, .ref fi, .ref se, .ref u0, .ref id, .ref ct, .int ra, .int ru, .int wg])), (u0, .inr (8, [.ref pb, .ref en, .int uc, .int uk])), (pb, .inr (1, [.ref pq, .int pL])), (pq, .inl (cB, 400, .inl pf))]) (w1 := [(im, .inr (1, [.ref iq, .int L])), (iq, .inl (cB, n, .inl g_17))]) hP hD [4, 5] [0, 1, 2, 3] rfl rfl (by decide +kernel) (by decide +kernel) hk1 hFc hP1 hD1
    clear hPc hDc hFc hP1 hD1 hk1 hz1 hkc hks
    generalize H1 = H at hP hS ⊢
    have hP : va_P D CL [(m0, .inr (4, [.ref tr, .ref im, .ref fi, .ref se, .ref u0, .ref id, .ref ct, .int ra, .int ru, .int wg])), (u0, .inr (8, [.ref pb, .ref en, .int uc, .int uk])), (pb, .inr (1, [.ref pq, .int pL])), (pq, .inl (cB, 400, .inl pf)), (im, .inr (1, [.ref iq, .int L])), (iq, .inl (cB, n, .inl g_17))] H := hP
    have hD : va_D A [(m0, .inr (4, [.ref tr, .ref im, .ref fi, .ref se, .ref u0, .ref id, .ref ct, .int ra, .int ru, .int wg])), (u0, .inr (8, [.ref pb, .ref en, .int uc, .int uk])), (pb, .inr (1, [.ref pq, .int pL])), (pq, .inl (cB, 400, .inl pf)), (im, .inr (1, [.ref iq, .int L])), (iq, .inl (cB, n, .inl g_17))] := hD
    refine lv_aload_n hx hb d_Maker_writeParts_99 rfl (lv_at hl 2 rfl) ?_
    refine va_get (D := D) (ci := 4) (v := .ref im) (C := "DiscMaker$Maker") (T := F_Maker) (N := 10) hx hb ht9 in_Maker hown hK hP 0 rfl rfl 1 (by decide) (ht9 _ k348) (fun _ h9 => h9) rfl d_Maker_writeParts_100 ?_
    refine lv_iload_n hx hb d_Maker_writeParts_103 rfl (lv_at hl 0 rfl) ?_
    refine lv_bipush (v := 12) hx hb d_Maker_writeParts_104 (by decide) ?_
    refine lv_iadd hx hb d_Maker_writeParts_106 ?_
    refine lv_topi (fun v18 e_v18 => ?_)
    refine lv_aload_n hx hb d_Maker_writeParts_107 rfl (lv_at hl 2 rfl) ?_
    refine va_get (D := D) (ci := 4) (v := .int ru) (C := "DiscMaker$Maker") (T := F_Maker) (N := 10) hx hb ht9 in_Maker hown hK hP 0 rfl rfl 8 (by decide) (ht9 _ k355) (fun _ h9 => h9) rfl d_Maker_writeParts_108 ?_
    refine lv_sipush (v := 2048) hx hb d_Maker_writeParts_111 (by decide) ?_
    refine lv_irem hx hb d_Maker_writeParts_114 (by decide) ?_
    refine lv_topi (fun v19 e_v19 => ?_)
    refine lv_iconst (v := 4) hx hb d_Maker_writeParts_115 (by decide) ?_
    have hPc := hP.sub (ws' := [(im, .inr (1, [.ref iq, .int L])), (iq, .inl (cB, n, .inl g_17))]) [4, 5] rfl
    have hDc := hD.sub (ws' := [(im, .inr (1, [.ref iq, .int L])), (iq, .inl (cB, n, .inl g_17))]) [4, 5] (by decide +kernel) rfl
    have hFc := va_free (wc := [(im, .inr (1, [.ref iq, .int L])), (iq, .inl (cB, n, .inl g_17))]) hD hS hA [4, 5] rfl
    have hkc : 0 ≤ 0 := by decide
    have hks : 0 ≤ 0 := by decide
    refine va_callv (va_runV (C := "DiscMaker$Bytes") (As := [.int v18, .int v19, .int 4]) (rest := []) ⟨hx, hb, hml, hown, hts⟩ (c3_putBoth l D cB cI cJ cZ cN cF H.size im iq n L g_17 v18 v19 4 (by (try dsimp only); first | assumption | omega | trivial) (by (try dsimp only); first | assumption | omega | trivial) (by (try dsimp only); first | assumption | omega | trivial)) (cwV 3 hts (lg_goodV k1056 k1023 k1024 k119 kc_Bytes_putBoth) rfl rfl rfl (by decide +kernel) ⟨Nat.le_of_ble_eq_true rfl, Nat.le_of_ble_eq_true rfl⟩) ⟨fun a U g mk q => by obtain ⟨q0, q1, qP, qK, qN, qD⟩ := q; exact ⟨q0, q1, qP, va_K.moved (u := U) (U := U.calling g mk a) (Vm.Alike.refl U.vm) qK, qN.calling, qD⟩, va_recv hK hP (ci := 1) (q0 := 4) rfl rfl, fun U hU hW => ⟨rfl, by rw [hU], by rw [hU]; exact hPc, va_K.moved hW.alike hK, NN.warm hW hN, hDc.weaken (fun _ _ _ _ => trivial)⟩⟩ rfl rfl hl.1 rfl (lv_room (Nat.le_of_ble_eq_true rfl)) d_Maker_writeParts_116 ⟨hkc, hks⟩) hS (fun q _ h => hFc q h) hFc (fun u t H1 locs ht hvm hp_r20 hB hz1 hk1 hS => ?_)
    obtain ⟨g_21, rfl⟩ : ∃ z, z = u := ⟨_, rfl⟩
    obtain ⟨hP1, hD1⟩ := hB
    rw [ht] at hP1
    obtain ⟨hP, hD⟩ := va_join (wr := [(m0, .inr (4, [.ref tr, .ref im, .ref fi, .ref se, .ref u0, .ref id, .ref ct, .int ra, .int ru, .int wg])), (u0, .inr (8, [.ref pb, .ref en, .int uc, .int uk])), (pb, .inr (1, [.ref pq, .int pL])), (pq, .inl (cB, 400, .inl pf))]) (w1 := [(im, .inr (1, [.ref iq, .int L])), (iq, .inl (cB, n, .inl g_21))]) hP hD [4, 5] [0, 1, 2, 3] rfl rfl (by decide +kernel) (by decide +kernel) hk1 hFc hP1 hD1
    clear hPc hDc hFc hP1 hD1 hk1 hz1 hkc hks
    generalize H1 = H at hP hS ⊢
    have hP : va_P D CL [(m0, .inr (4, [.ref tr, .ref im, .ref fi, .ref se, .ref u0, .ref id, .ref ct, .int ra, .int ru, .int wg])), (u0, .inr (8, [.ref pb, .ref en, .int uc, .int uk])), (pb, .inr (1, [.ref pq, .int pL])), (pq, .inl (cB, 400, .inl pf)), (im, .inr (1, [.ref iq, .int L])), (iq, .inl (cB, n, .inl g_21))] H := hP
    have hD : va_D A [(m0, .inr (4, [.ref tr, .ref im, .ref fi, .ref se, .ref u0, .ref id, .ref ct, .int ra, .int ru, .int wg])), (u0, .inr (8, [.ref pb, .ref en, .int uc, .int uk])), (pb, .inr (1, [.ref pq, .int pL])), (pq, .inl (cB, 400, .inl pf)), (im, .inr (1, [.ref iq, .int L])), (iq, .inl (cB, n, .inl g_21))] := hD
    refine lv_aload_n hx hb d_Maker_writeParts_119 rfl (lv_at hl 2 rfl) ?_
    refine va_get (D := D) (ci := 4) (v := .ref im) (C := "DiscMaker$Maker") (T := F_Maker) (N := 10) hx hb ht9 in_Maker hown hK hP 0 rfl rfl 1 (by decide) (ht9 _ k348) (fun _ h9 => h9) rfl d_Maker_writeParts_120 ?_
    refine lv_iload_n hx hb d_Maker_writeParts_123 rfl (lv_at hl 0 rfl) ?_
    refine lv_bipush (v := 20) hx hb d_Maker_writeParts_124 (by decide) ?_
    refine lv_iadd hx hb d_Maker_writeParts_126 ?_
    refine lv_topi (fun v22 e_v22 => ?_)
    refine lv_iload_n hx hb d_Maker_writeParts_127 rfl (lv_at hl 1 rfl) ?_
    refine lv_iconst (v := 4) hx hb d_Maker_writeParts_128 (by decide) ?_
    have hPc := hP.sub (ws' := [(im, .inr (1, [.ref iq, .int L])), (iq, .inl (cB, n, .inl g_21))]) [4, 5] rfl
    have hDc := hD.sub (ws' := [(im, .inr (1, [.ref iq, .int L])), (iq, .inl (cB, n, .inl g_21))]) [4, 5] (by decide +kernel) rfl
    have hFc := va_free (wc := [(im, .inr (1, [.ref iq, .int L])), (iq, .inl (cB, n, .inl g_21))]) hD hS hA [4, 5] rfl
    have hkc : 0 ≤ 0 := by decide
    have hks : 0 ≤ 0 := by decide
    refine va_callv (va_runV (C := "DiscMaker$Bytes") (As := [.int v22, .int r3, .int 4]) (rest := []) ⟨hx, hb, hml, hown, hts⟩ (c3_putBoth l D cB cI cJ cZ cN cF H.size im iq n L g_21 v22 r3 4 (by (try dsimp only); first | assumption | omega | trivial) (by (try dsimp only); first | assumption | omega | trivial) (by (try dsimp only); first | assumption | omega | trivial)) (cwV 3 hts (lg_goodV k1056 k1023 k1024 k119 kc_Bytes_putBoth) rfl rfl rfl (by decide +kernel) ⟨Nat.le_of_ble_eq_true rfl, Nat.le_of_ble_eq_true rfl⟩) ⟨fun a U g mk q => by obtain ⟨q0, q1, qP, qK, qN, qD⟩ := q; exact ⟨q0, q1, qP, va_K.moved (u := U) (U := U.calling g mk a) (Vm.Alike.refl U.vm) qK, qN.calling, qD⟩, va_recv hK hP (ci := 1) (q0 := 4) rfl rfl, fun U hU hW => ⟨rfl, by rw [hU], by rw [hU]; exact hPc, va_K.moved hW.alike hK, NN.warm hW hN, hDc.weaken (fun _ _ _ _ => trivial)⟩⟩ rfl rfl hl.1 rfl (lv_room (Nat.le_of_ble_eq_true rfl)) d_Maker_writeParts_129 ⟨hkc, hks⟩) hS (fun q _ h => hFc q h) hFc (fun u t H1 locs ht hvm hp_r23 hB hz1 hk1 hS => ?_)
    obtain ⟨g_24, rfl⟩ : ∃ z, z = u := ⟨_, rfl⟩
    obtain ⟨hP1, hD1⟩ := hB
    rw [ht] at hP1
    obtain ⟨hP, hD⟩ := va_join (wr := [(m0, .inr (4, [.ref tr, .ref im, .ref fi, .ref se, .ref u0, .ref id, .ref ct, .int ra, .int ru, .int wg])), (u0, .inr (8, [.ref pb, .ref en, .int uc, .int uk])), (pb, .inr (1, [.ref pq, .int pL])), (pq, .inl (cB, 400, .inl pf))]) (w1 := [(im, .inr (1, [.ref iq, .int L])), (iq, .inl (cB, n, .inl g_24))]) hP hD [4, 5] [0, 1, 2, 3] rfl rfl (by decide +kernel) (by decide +kernel) hk1 hFc hP1 hD1
    clear hPc hDc hFc hP1 hD1 hk1 hz1 hkc hks
    generalize H1 = H at hP hS ⊢
    have hP : va_P D CL [(m0, .inr (4, [.ref tr, .ref im, .ref fi, .ref se, .ref u0, .ref id, .ref ct, .int ra, .int ru, .int wg])), (u0, .inr (8, [.ref pb, .ref en, .int uc, .int uk])), (pb, .inr (1, [.ref pq, .int pL])), (pq, .inl (cB, 400, .inl pf)), (im, .inr (1, [.ref iq, .int L])), (iq, .inl (cB, n, .inl g_24))] H := hP
    have hD : va_D A [(m0, .inr (4, [.ref tr, .ref im, .ref fi, .ref se, .ref u0, .ref id, .ref ct, .int ra, .int ru, .int wg])), (u0, .inr (8, [.ref pb, .ref en, .int uc, .int uk])), (pb, .inr (1, [.ref pq, .int pL])), (pq, .inl (cB, 400, .inl pf)), (im, .inr (1, [.ref iq, .int L])), (iq, .inl (cB, n, .inl g_24))] := hD
    refine lv_aload_n hx hb d_Maker_writeParts_132 rfl (lv_at hl 2 rfl) ?_
    refine va_get (D := D) (ci := 4) (v := .ref u0) (C := "DiscMaker$Maker") (T := F_Maker) (N := 10) hx hb ht9 in_Maker hown hK hP 0 rfl rfl 4 (by decide) (ht9 _ k351) (fun _ h9 => h9) rfl d_Maker_writeParts_133 ?_
    refine va_getN (D := D) (ci := 8) (v := .ref pb) (C := "DiscMaker$SystemUse") (T := F_SystemUse) (N := 4) hx hb ht9 in_SystemUse hown hK hP 1 rfl rfl 0 (by decide) (va_Nw.use rfl (hN _ k331)) (fun _ h9 => h9) rfl d_Maker_writeParts_136 ?_
    refine lv_aload_n hx hb d_Maker_writeParts_139 rfl (lv_at hl 2 rfl) ?_
    refine va_get (D := D) (ci := 4) (v := .ref im) (C := "DiscMaker$Maker") (T := F_Maker) (N := 10) hx hb ht9 in_Maker hown hK hP 0 rfl rfl 1 (by decide) (ht9 _ k348) (fun _ h9 => h9) rfl d_Maker_writeParts_140 ?_
    refine lv_aload_n hx hb d_Maker_writeParts_143 rfl (lv_at hl 2 rfl) ?_
    refine va_get (D := D) (ci := 4) (v := .ref u0) (C := "DiscMaker$Maker") (T := F_Maker) (N := 10) hx hb ht9 in_Maker hown hK hP 0 rfl rfl 4 (by decide) (ht9 _ k351) (fun _ h9 => h9) rfl d_Maker_writeParts_144 ?_
    refine va_getN (D := D) (ci := 8) (v := .int uk) (C := "DiscMaker$SystemUse") (T := F_SystemUse) (N := 4) hx hb ht9 in_SystemUse hown hK hP 1 rfl rfl 3 (by decide) (va_Nw.use rfl (hN _ k335)) (fun _ h9 => h9) rfl d_Maker_writeParts_147 ?_
    refine lv_aload_n hx hb d_Maker_writeParts_150 rfl (lv_at hl 2 rfl) ?_
    refine va_get (D := D) (ci := 4) (v := .int ru) (C := "DiscMaker$Maker") (T := F_Maker) (N := 10) hx hb ht9 in_Maker hown hK hP 0 rfl rfl 8 (by decide) (ht9 _ k355) (fun _ h9 => h9) rfl d_Maker_writeParts_151 ?_
    refine lv_iload_n hx hb d_Maker_writeParts_154 rfl (lv_at hl 1 rfl) ?_
    have hPc := hP.sub (ws' := [(pb, .inr (1, [.ref pq, .int pL])), (pq, .inl (cB, 400, .inl pf)), (im, .inr (1, [.ref iq, .int L])), (iq, .inl (cB, n, .inl g_24))]) [2, 3, 4, 5] rfl
    have hDc := hD.sub (ws' := [(pb, .inr (1, [.ref pq, .int pL])), (pq, .inl (cB, 400, .inl pf)), (im, .inr (1, [.ref iq, .int L])), (iq, .inl (cB, n, .inl g_24))]) [2, 3, 4, 5] (by decide +kernel) rfl
    have hFc := va_free (wc := [(pb, .inr (1, [.ref pq, .int pL])), (pq, .inl (cB, 400, .inl pf)), (im, .inr (1, [.ref iq, .int L])), (iq, .inl (cB, n, .inl g_24))]) hD hS hA [2, 3, 4, 5] rfl
    have hkc : 0 ≤ 0 := by decide
    have hks : 0 ≤ 0 := by decide
    refine va_callv (va_runV (C := "DiscMaker$Bytes") (As := [.ref im, .int uk, .int ru, .int r3]) (rest := []) ⟨hx, hb, hml, hown, hts⟩ (c3_copyTo l D cB cI cJ cZ cN cF H.size pb pq 400 pL pf im iq n L g_24 uk ru r3 (by (try dsimp only); first | assumption | omega | trivial) (by (try dsimp only); first | assumption | omega | trivial) (by (try dsimp only); first | assumption | omega | trivial) (by (try dsimp only); first | assumption | omega | trivial)) (cwV 4 hts (lg_goodV k1060 k1061 k1062 k119 kc_Bytes_copyTo) rfl rfl rfl (by decide +kernel) ⟨Nat.le_of_ble_eq_true rfl, Nat.le_of_ble_eq_true rfl⟩) ⟨fun a U g mk q => by obtain ⟨q0, q1, qP, qK, qN, qD⟩ := q; exact ⟨q0, q1, qP, va_K.moved (u := U) (U := U.calling g mk a) (Vm.Alike.refl U.vm) qK, qN.calling, qD⟩, va_recv hK hP (ci := 1) (q0 := 2) rfl rfl, fun U hU hW => ⟨rfl, by rw [hU], by rw [hU]; exact hPc, va_K.moved hW.alike hK, NN.warm hW hN, hDc.weaken (fun _ _ _ _ => trivial)⟩⟩ rfl rfl hl.1 rfl (lv_room (Nat.le_of_ble_eq_true rfl)) d_Maker_writeParts_155 ⟨hkc, hks⟩) hS (fun q _ h => hFc q h) hFc (fun u t H1 locs ht hvm hp_r25 hB hz1 hk1 hS => ?_)
    obtain ⟨g_26, rfl⟩ : ∃ z, z = u := ⟨_, rfl⟩
    obtain ⟨hP1, hD1⟩ := hB
    rw [ht] at hP1
    obtain ⟨hP, hD⟩ := va_join (wr := [(m0, .inr (4, [.ref tr, .ref im, .ref fi, .ref se, .ref u0, .ref id, .ref ct, .int ra, .int ru, .int wg])), (u0, .inr (8, [.ref pb, .ref en, .int uc, .int uk]))]) (w1 := [(pb, .inr (1, [.ref pq, .int pL])), (pq, .inl (cB, 400, .inl pf)), (im, .inr (1, [.ref iq, .int L])), (iq, .inl (cB, n, .inl g_26))]) hP hD [2, 3, 4, 5] [0, 1] rfl rfl (by decide +kernel) (by decide +kernel) hk1 hFc hP1 hD1
    clear hPc hDc hFc hP1 hD1 hk1 hz1 hkc hks
    generalize H1 = H at hP hS ⊢
    have hP : va_P D CL [(m0, .inr (4, [.ref tr, .ref im, .ref fi, .ref se, .ref u0, .ref id, .ref ct, .int ra, .int ru, .int wg])), (u0, .inr (8, [.ref pb, .ref en, .int uc, .int uk])), (pb, .inr (1, [.ref pq, .int pL])), (pq, .inl (cB, 400, .inl pf)), (im, .inr (1, [.ref iq, .int L])), (iq, .inl (cB, n, .inl g_26))] H := hP
    have hD : va_D A [(m0, .inr (4, [.ref tr, .ref im, .ref fi, .ref se, .ref u0, .ref id, .ref ct, .int ra, .int ru, .int wg])), (u0, .inr (8, [.ref pb, .ref en, .int uc, .int uk])), (pb, .inr (1, [.ref pq, .int pL])), (pq, .inl (cB, 400, .inl pf)), (im, .inr (1, [.ref iq, .int L])), (iq, .inl (cB, n, .inl g_26))] := hD
    have hP9 := hP.sub (ws' := [(m0, .inr (4, [.ref tr, .ref im, .ref fi, .ref se, .ref u0, .ref id, .ref ct, .int ra, .int ru, .int wg])), (u0, .inr (8, [.ref pb, .ref en, .int uc, .int uk])), (pb, .inr (1, [.ref pq, .int pL])), (pq, .inl (cB, 400, .inl pf)), (im, .inr (1, [.ref iq, .int L])), (iq, .inl (cB, n, .inl g_26))]) [0, 1, 2, 3, 4, 5] rfl
    have hD9 := hD.sub (ws' := [(m0, .inr (4, [.ref tr, .ref im, .ref fi, .ref se, .ref u0, .ref id, .ref ct, .int ra, .int ru, .int wg])), (u0, .inr (8, [.ref pb, .ref en, .int uc, .int uk])), (pb, .inr (1, [.ref pq, .int pL])), (pq, .inl (cB, 400, .inl pf)), (im, .inr (1, [.ref iq, .int L])), (iq, .inl (cB, n, .inl g_26))]) [0, 1, 2, 3, 4, 5] (by decide +kernel) rfl
    exact W.vret hx hb hr (fun t ht hW => ⟨⟨g_26, rfl, trivial, by rw [ht]; exact hP9, hD9⟩, hS.F ht⟩) hS.2.2 d_Maker_writeParts_158
