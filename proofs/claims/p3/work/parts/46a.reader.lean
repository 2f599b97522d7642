theorem d_DiscMaker_even_0 : decode b_DiscMaker_even 0 = .ok (.iload_n 0, 1) := by decide +kernel
theorem d_DiscMaker_even_1 : decode b_DiscMaker_even 1 = .ok (.iload_n 0, 1) := by decide +kernel
theorem d_DiscMaker_even_2 : decode b_DiscMaker_even 2 = .ok (.iconst 1, 1) := by decide +kernel
theorem d_DiscMaker_even_3 : decode b_DiscMaker_even 3 = .ok (.iand, 1) := by decide +kernel
theorem d_DiscMaker_even_4 : decode b_DiscMaker_even 4 = .ok (.iadd, 1) := by decide +kernel
theorem d_DiscMaker_even_5 : decode b_DiscMaker_even 5 = .ok (.ireturn, 1) := by decide +kernel
set_option maxHeartbeats 4000000 in
set_option maxRecDepth 100000 in
theorem c3_even (l : Launch) (D : va_G) (cB cI cJ cZ cN cF : ClassId) (sz : Nat) (x : Int32) (hx : 0 ≤ x.toInt ∧ x.toInt ≤ 100000000) : Met l y_DiscMaker_even w_DiscMaker_even ({ frames := 0, cells := 0, slots := 0, locals := 0 }) (va_Pc [.int x] (fun U => U.heap.size = sz ∧ va_P D CL [] U.heap ∧ va_K D CL (TY cB cI cJ cZ cN cF) U ∧ NN U ∧ va_D (fun _ => True) [])) (va_Qi (fun (r : Int32) (u : Unit) => (x.toInt ≤ r.toInt ∧ r.toInt ≤ x.toInt + 1)) (fun (u : Unit) (t : State) => match u with | () => va_P D CL [] t.heap ∧ va_D (va_A [] sz) []) (va_A [] sz)) 0 0 (va_A [] sz) := by
  refine Met.ofW (cc := b_DiscMaker_even) (maxL := 1) (ret := some .int) (by decide +kernel) rfl ?_
  intro p e s m args below meth c s₁ B hml hv
  obtain ⟨rfl, hsz, hP, hK, hN, hD0⟩ := hv
  have hx := B.exec
  have hb := B.bytes
  have hr := B.returns
  have hts := atoms_spec (ws := w_DiscMaker_even) B.pre
  have ht9 := fun (w : Cond) (h : w ∈ lw_g) => hts w (List.mem_cons_of_mem _ h)
  have hown : s.vm.findClass "DiscMaker" = some m.cls := findClass_of_methodNamed B.named
  have hlocks := B.notSynchronized
  subst hsz
  have hD := hD0.self (sz := s.heap.size)
  generalize hAe : va_A [] s.heap.size = A at hD ⊢
  have hA : ∀ q : Nat, s.heap.size ≤ q → A q := fun q h => by rw [← hAe]; exact Or.inr h
  have hS : va_S A s.heap s.heap [] := va_S.rf
  have hP : va_P D CL [] s.heap := hP
  have hl := lv_entry [.int x] (n := 1) (Nat.le_of_ble_eq_true rfl)
  rw [lg_entry_eq]
  generalize (lg_sl [.int x] ++ List.replicate (1 - (lg_sl [.int x]).length) Slot.unset).toArray = ls at hl ⊢
  have hl : lv_has ls 1 [(0, .int x)] := hl
  have L_m1 : ((-1) : Int32).toInt = (-1) := by decide
  have L_0 : (0 : Int32).toInt = 0 := by decide
  have L_1 : (1 : Int32).toInt = 1 := by decide
  refine lv_iload_n hx hb d_DiscMaker_even_0 rfl (lv_at hl 0 rfl) ?_
  refine lv_iload_n hx hb d_DiscMaker_even_1 rfl (lv_at hl 0 rfl) ?_
  refine lv_iconst (v := 1) hx hb d_DiscMaker_even_2 (by decide) ?_
  refine lv_iand hx hb d_DiscMaker_even_3 ?_
  refine lv_topi (fun v1 e_v1 => ?_)
  have t_v1 : 0 ≤ v1.toInt ∧ v1.toInt ≤ 1 := by rw [e_v1]; exact i_and (by decide) (by decide)
  refine lv_iadd hx hb d_DiscMaker_even_4 ?_
  refine lv_topi (fun v2 e_v2 => ?_)
  have t_v2 : v2.toInt = x.toInt + v1.toInt := by rw [e_v2]; exact i_add rfl rfl (by omega) (by omega)
  have hP9 := hP.sub (ws' := []) [] rfl
  have hD9 := hD.sub (ws' := []) [] (by decide +kernel) rfl
  exact W.iret (v := v2) hx hb hr (fun t ht hW => ⟨⟨v2, (), rfl, (by (try dsimp only); first | assumption | omega | trivial), by rw [ht]; exact hP9, hD9⟩, hS.F ht⟩) hS.2.2 d_DiscMaker_even_5

theorem d_Reader_find_0 : decode b_Reader_find 0 = .ok (.iload_n 1, 1) := by decide +kernel
theorem d_Reader_find_1 : decode b_Reader_find 1 = .ok (.ifCond .lt 20, 3) := by decide +kernel
theorem d_Reader_find_4 : decode b_Reader_find 4 = .ok (.iload_n 1, 1) := by decide +kernel
theorem d_Reader_find_5 : decode b_Reader_find 5 = .ok (.aload_n 0, 1) := by decide +kernel
theorem d_Reader_find_6 : decode b_Reader_find 6 = .ok (.getfield 30, 3) := by decide +kernel
theorem d_Reader_find_9 : decode b_Reader_find 9 = .ok (.if_icmp .ge 12, 3) := by decide +kernel
theorem d_Reader_find_12 : decode b_Reader_find 12 = .ok (.aload_n 0, 1) := by decide +kernel
theorem d_Reader_find_13 : decode b_Reader_find 13 = .ok (.getfield 11, 3) := by decide +kernel
theorem d_Reader_find_16 : decode b_Reader_find 16 = .ok (.iload_n 1, 1) := by decide +kernel
theorem d_Reader_find_17 : decode b_Reader_find 17 = .ok (.aaload, 1) := by decide +kernel
theorem d_Reader_find_18 : decode b_Reader_find 18 = .ok (.goto 4, 3) := by decide +kernel
theorem d_Reader_find_21 : decode b_Reader_find 21 = .ok (.aconst_null, 1) := by decide +kernel
theorem d_Reader_find_22 : decode b_Reader_find 22 = .ok (.areturn, 1) := by decide +kernel
set_option maxHeartbeats 4000000 in
set_option maxRecDepth 100000 in
theorem c3_find (l : Launch) (D : va_G) (cB cI cJ cZ cN cF : ClassId) (sz : Nat) (h0 : Nat) (pr : Nat) (ra : Nat) (im : Nat) (cn : Int32) (vw : Int32) (wr : Int32) (fa : Nat → Nat → Nat) (md : Nat) (x : Int32) (hcn : 0 ≤ cn.toInt ∧ cn.toInt ≤ md) (hmd : md ≤ 99) : Met l y_Reader_find w_Reader_find ({ frames := 0, cells := 0, slots := 0, locals := 0 }) (va_Pc [.ref h0, .int x] (fun U => U.heap.size = sz ∧ va_P D CL [] U.heap ∧ va_K D CL (TY cB cI cJ cZ cN cF) U ∧ NN U ∧ va_D (fun _ => True) [] ∧ RO D [(h0, .inr (7, [.ref im, .ref pr, .ref ra, .int cn, .int vw, .int wr])), (ra, .inl (cF, 99, .inr (.inr (.inr (.inr (rowF fa md))))))] (va_A [] sz) U U.heap)) (va_Qq (fun (r : Option Nat) (u : Unit) => ((r = none ∧ ¬ (0 ≤ x.toInt ∧ x.toInt < cn.toInt)) ∨ (r = some (fa x.toNatClampNeg 0) ∧ 0 ≤ x.toInt ∧ x.toInt < cn.toInt))) (fun (u : Unit) (t : State) => match u with | () => va_P D CL [] t.heap ∧ va_D (va_A [] sz) []) (va_A [] sz)) 0 0 (va_A [] sz) := by
  refine Met.ofW (cc := b_Reader_find) (maxL := 2) (ret := some (.object "DiscMaker$Found")) (by decide +kernel) rfl ?_
  intro p e s m args below meth c s₁ B hml hv
  obtain ⟨rfl, hsz, hP, hK, hN, hD0, hZr⟩ := hv
  have hx := B.exec
  have hb := B.bytes
  have hr := B.returns
  have hts := atoms_spec (ws := w_Reader_find) B.pre
  have ht9 := fun (w : Cond) (h : w ∈ lw_g) => hts w (List.mem_cons_of_mem _ h)
  have hown : s.vm.findClass "DiscMaker$Reader" = some m.cls := findClass_of_methodNamed B.named
  have hlocks := B.notSynchronized
  subst hsz
  have hD := hD0.self (sz := s.heap.size)
  generalize hAe : va_A [] s.heap.size = A at hD hZr ⊢
  have hA : ∀ q : Nat, s.heap.size ≤ q → A q := fun q h => by rw [← hAe]; exact Or.inr h
  have hS : va_S A s.heap s.heap [] := va_S.rf
  have hP : va_P D CL [] s.heap := hP
  have hl := lv_entry [.ref h0, .int x] (n := 2) (Nat.le_of_ble_eq_true rfl)
  rw [lg_entry_eq]
  generalize (lg_sl [.ref h0, .int x] ++ List.replicate (2 - (lg_sl [.ref h0, .int x]).length) Slot.unset).toArray = ls at hl ⊢
  have hl : lv_has ls 2 [(0, .ref h0), (1, .int x)] := hl
  have L_m1 : ((-1) : Int32).toInt = (-1) := by decide
  have L_0 : (0 : Int32).toInt = 0 := by decide
  have L_1 : (1 : Int32).toInt = 1 := by decide
  refine lv_iload_n hx hb d_Reader_find_0 rfl (lv_at hl 1 rfl) ?_
  refine lv_if_lt (tgt := 21) hx hb d_Reader_find_1 (by decide) (fun h_9 => ?_) (fun h_9 => ?_)
  · skip
    have g1_2 : x.toInt < 0 := (i_lt rfl (by decide)).mp h_9
    refine lv_null hx hb d_Reader_find_21 ?_
    have hP9 := hP.sub (ws' := []) [] rfl
    have hD9 := hD.sub (ws' := []) [] (by decide +kernel) rfl
    exact W.aret (v := .null) hx hb hr (Or.inl ⟨_, rfl⟩) (Or.inl rfl) (fun t ht hW => ⟨⟨none, (), rfl, (Or.inl ⟨rfl, by omega⟩), by rw [ht]; exact hP9, hD9⟩, hS.F ht⟩) hS.2.2 d_Reader_find_22
  · skip
    have g1_2 : ¬ x.toInt < 0 := fun h8 => h_9 ((i_lt rfl (by decide)).mpr h8)
    refine lv_iload_n hx hb d_Reader_find_4 rfl (lv_at hl 1 rfl) ?_
    refine lv_aload_n hx hb d_Reader_find_5 rfl (lv_at hl 0 rfl) ?_
    have hPR := RO_at hZr hS
    refine va_get (D := D) (ci := 7) (v := .int cn) (C := "DiscMaker$Reader") (T := F_Reader) (N := 6) hx hb ht9 in_Reader hown hK hPR 0 rfl rfl 3 (by decide) (ht9 _ k415) (fun _ h9 => h9) rfl d_Reader_find_6 ?_
    refine lv_icmp_ge (tgt := 21) hx hb d_Reader_find_9 (by decide) (fun h_9 => ?_) (fun h_9 => ?_)
    · skip
      have g9_8 : cn.toInt ≤ x.toInt := (i_le rfl rfl).mp h_9
      refine lv_null hx hb d_Reader_find_21 ?_
      have hP9 := hP.sub (ws' := []) [] rfl
      have hD9 := hD.sub (ws' := []) [] (by decide +kernel) rfl
      exact W.aret (v := .null) hx hb hr (Or.inl ⟨_, rfl⟩) (Or.inl rfl) (fun t ht hW => ⟨⟨none, (), rfl, (Or.inl ⟨rfl, by omega⟩), by rw [ht]; exact hP9, hD9⟩, hS.F ht⟩) hS.2.2 d_Reader_find_22
    · skip
      have g9_8 : ¬ cn.toInt ≤ x.toInt := fun h8 => h_9 ((i_le rfl rfl).mpr h8)
      refine lv_aload_n hx hb d_Reader_find_12 rfl (lv_at hl 0 rfl) ?_
      have hPR := RO_at hZr hS
      refine va_get (D := D) (ci := 7) (v := .ref ra) (C := "DiscMaker$Reader") (T := F_Reader) (N := 6) hx hb ht9 in_Reader hown hK hPR 0 rfl rfl 2 (by decide) (ht9 _ k414) (fun _ h9 => h9) rfl d_Reader_find_13 ?_
      refine lv_iload_n hx hb d_Reader_find_16 rfl (lv_at hl 1 rfl) ?_
      have hPR := RO_at hZr hS
      refine va_aldq hx hb hK hPR 1 5 rfl rfl (vp_in_iff.mpr ⟨by omega, by omega⟩) d_Reader_find_17 ?_
      refine W.eq (g2 := F0 m 18 ls [.ref (fa x.toNatClampNeg 0)]) (by rw [show rowF fa md x.toNatClampNeg = some (fa x.toNatClampNeg 0) from rowF_some (by have := i_cl (a := x) (by omega); omega)]; rfl) ?_
      refine lv_goto (tgt := 22) hx hb d_Reader_find_18 (by decide) ?_
      have hP9 := hP.sub (ws' := []) [] rfl
      have hD9 := hD.sub (ws' := []) [] (by decide +kernel) rfl
      exact W.aret (v := .ref (fa x.toNatClampNeg 0)) hx hb hr (Or.inl ⟨_, rfl⟩) (Or.inr ⟨_, rfl⟩) (fun t ht hW => ⟨⟨(some (fa x.toNatClampNeg 0)), (), rfl, (Or.inr ⟨rfl, by omega, by omega⟩), by rw [ht]; exact hP9, hD9⟩, hS.F ht⟩) hS.2.2 d_Reader_find_22

theorem d_Reader_sectorAt_0 : decode b_Reader_sectorAt 0 = .ok (.aload_n 0, 1) := by decide +kernel
theorem d_Reader_sectorAt_1 : decode b_Reader_sectorAt 1 = .ok (.getfield 17, 3) := by decide +kernel
theorem d_Reader_sectorAt_4 : decode b_Reader_sectorAt 4 = .ok (.iload_n 1, 1) := by decide +kernel
theorem d_Reader_sectorAt_5 : decode b_Reader_sectorAt 5 = .ok (.iconst 2, 1) := by decide +kernel
theorem d_Reader_sectorAt_6 : decode b_Reader_sectorAt 6 = .ok (.iadd, 1) := by decide +kernel
theorem d_Reader_sectorAt_7 : decode b_Reader_sectorAt 7 = .ok (.iconst 4, 1) := by decide +kernel
theorem d_Reader_sectorAt_8 : decode b_Reader_sectorAt 8 = .ok (.invokevirtual 78, 3) := by decide +kernel
theorem d_Reader_sectorAt_11 : decode b_Reader_sectorAt 11 = .ok (.ireturn, 1) := by decide +kernel
set_option maxHeartbeats 4000000 in
set_option maxRecDepth 100000 in
theorem c3_sectorAt (l : Launch) (D : va_G) (cB cI cJ cZ cN cF : ClassId) (sz : Nat) (h0 : Nat) (pr : Nat) (ra : Nat) (im : Nat) (iq : Nat) (n : Nat) (L : Int32) (f : Nat → Int32) (cn : Int32) (vw : Int32) (wr : Int32) (x : Int32) (hL : 0 ≤ L.toInt ∧ L.toInt ≤ n) (hn : n ≤ 3000000) (hx : 0 ≤ x.toInt ∧ x.toInt ≤ 1000000000) : Met l y_Reader_sectorAt w_Reader_sectorAt ({ frames := 1, cells := 0, slots := 0, locals := 30 }) (va_Pc [.ref h0, .int x] (fun U => U.heap.size = sz ∧ va_P D CL [(h0, .inr (7, [.ref im, .ref pr, .ref ra, .int cn, .int vw, .int wr])), (im, .inr (1, [.ref iq, .int L])), (iq, .inl (cB, n, .inl f))] U.heap ∧ va_K D CL (TY cB cI cJ cZ cN cF) U ∧ NN U ∧ va_D (fun _ => True) [(h0, .inr (7, [.ref im, .ref pr, .ref ra, .int cn, .int vw, .int wr])), (im, .inr (1, [.ref iq, .int L])), (iq, .inl (cB, n, .inl f))])) (va_Qi (fun (r : Int32) (u : Unit) => (r = low4B f L (x + 2))) (fun (u : Unit) (t : State) => match u with | () => va_P D CL [(h0, .inr (7, [.ref im, .ref pr, .ref ra, .int cn, .int vw, .int wr])), (im, .inr (1, [.ref iq, .int L])), (iq, .inl (cB, n, .inl f))] t.heap ∧ va_D (va_A [(h0, .inr (7, [.ref im, .ref pr, .ref ra, .int cn, .int vw, .int wr])), (im, .inr (1, [.ref iq, .int L])), (iq, .inl (cB, n, .inl f))] sz) [(h0, .inr (7, [.ref im, .ref pr, .ref ra, .int cn, .int vw, .int wr])), (im, .inr (1, [.ref iq, .int L])), (iq, .inl (cB, n, .inl f))]) (va_A [(h0, .inr (7, [.ref im, .ref pr, .ref ra, .int cn, .int vw, .int wr])), (im, .inr (1, [.ref iq, .int L])), (iq, .inl (cB, n, .inl f))] sz)) 0 0 (va_A [(h0, .inr (7, [.ref im, .ref pr, .ref ra, .int cn, .int vw, .int wr])), (im, .inr (1, [.ref iq, .int L])), (iq, .inl (cB, n, .inl f))] sz) := by
  refine Met.ofW (cc := b_Reader_sectorAt) (maxL := 2) (ret := some .int) (by decide +kernel) rfl ?_
  intro p e s m args below meth c s₁ B hml hv
  obtain ⟨rfl, hsz, hP, hK, hN, hD0⟩ := hv
  have hx := B.exec
  have hb := B.bytes
  have hr := B.returns
  have hts := atoms_spec (ws := w_Reader_sectorAt) B.pre
  have ht9 := fun (w : Cond) (h : w ∈ lw_g) => hts w (List.mem_cons_of_mem _ h)
  have hown : s.vm.findClass "DiscMaker$Reader" = some m.cls := findClass_of_methodNamed B.named
  have hlocks := B.notSynchronized
  subst hsz
  have hD := hD0.self (sz := s.heap.size)
  generalize hAe : va_A [(h0, .inr (7, [.ref im, .ref pr, .ref ra, .int cn, .int vw, .int wr])), (im, .inr (1, [.ref iq, .int L])), (iq, .inl (cB, n, .inl f))] s.heap.size = A at hD ⊢
  have hA : ∀ q : Nat, s.heap.size ≤ q → A q := fun q h => by rw [← hAe]; exact Or.inr h
  have hS : va_S A s.heap s.heap [] := va_S.rf
  have hP : va_P D CL [(h0, .inr (7, [.ref im, .ref pr, .ref ra, .int cn, .int vw, .int wr])), (im, .inr (1, [.ref iq, .int L])), (iq, .inl (cB, n, .inl f))] s.heap := hP
  have hl := lv_entry [.ref h0, .int x] (n := 2) (Nat.le_of_ble_eq_true rfl)
  rw [lg_entry_eq]
  generalize (lg_sl [.ref h0, .int x] ++ List.replicate (2 - (lg_sl [.ref h0, .int x]).length) Slot.unset).toArray = ls at hl ⊢
  have hl : lv_has ls 2 [(0, .ref h0), (1, .int x)] := hl
  have L_m1 : ((-1) : Int32).toInt = (-1) := by decide
  have L_0 : (0 : Int32).toInt = 0 := by decide
  have L_1 : (1 : Int32).toInt = 1 := by decide
  have L_2 : (2 : Int32).toInt = 2 := by decide
  have L_4 : (4 : Int32).toInt = 4 := by decide
  refine lv_aload_n hx hb d_Reader_sectorAt_0 rfl (lv_at hl 0 rfl) ?_
  refine va_get (D := D) (ci := 7) (v := .ref im) (C := "DiscMaker$Reader") (T := F_Reader) (N := 6) hx hb ht9 in_Reader hown hK hP 0 rfl rfl 0 (by decide) (ht9 _ k412) (fun _ h9 => h9) rfl d_Reader_sectorAt_1 ?_
  refine lv_iload_n hx hb d_Reader_sectorAt_4 rfl (lv_at hl 1 rfl) ?_
  refine lv_iconst (v := 2) hx hb d_Reader_sectorAt_5 (by decide) ?_
  refine lv_iadd hx hb d_Reader_sectorAt_6 ?_
  refine lv_topi (fun v1 e_v1 => ?_)
  have t_v1 : v1.toInt = x.toInt + 2 := by rw [e_v1]; exact i_add rfl (by decide) (by omega) (by omega)
  refine lv_iconst (v := 4) hx hb d_Reader_sectorAt_7 (by decide) ?_
  have hPc := hP.sub (ws' := [(im, .inr (1, [.ref iq, .int L])), (iq, .inl (cB, n, .inl f))]) [1, 2] rfl
  have hDc := hD.sub (ws' := [(im, .inr (1, [.ref iq, .int L])), (iq, .inl (cB, n, .inl f))]) [1, 2] (by decide +kernel) rfl
  have hFc := va_free (wc := [(im, .inr (1, [.ref iq, .int L])), (iq, .inl (cB, n, .inl f))]) hD hS hA [1, 2] rfl
  have hkc : 0 ≤ 0 := by decide
  have hks : 0 ≤ 0 := by decide
  refine va_calli (va_runV (C := "DiscMaker$Bytes") (As := [.int v1, .int 4]) (rest := []) ⟨hx, hb, hml, hown, hts⟩ (c3_low4 l D cB cI cJ cZ cN cF s.heap.size im iq n L f v1 (by (try dsimp only); first | assumption | omega | trivial) (by (try dsimp only); first | assumption | omega | trivial) (by (try dsimp only); first | assumption | omega | trivial)) (cwV 2 hts (lg_goodV k1189 k1190 k1191 k119 kc_Bytes_low) rfl rfl rfl (by decide +kernel) ⟨Nat.le_of_ble_eq_true rfl, Nat.le_of_ble_eq_true rfl⟩) ⟨fun a U g mk q => by obtain ⟨q0, q1, qP, qK, qN, qD⟩ := q; exact ⟨q0, q1, qP, va_K.moved (u := U) (U := U.calling g mk a) (Vm.Alike.refl U.vm) qK, qN.calling, qD⟩, va_recv hK hP (ci := 1) (q0 := 1) rfl rfl, fun U hU hW => ⟨rfl, by rw [hU], by rw [hU]; exact hPc, va_K.moved hW.alike hK, NN.warm hW hN, hDc.weaken (fun _ _ _ _ => trivial)⟩⟩ rfl rfl hl.1 rfl (lv_room (Nat.le_of_ble_eq_true rfl)) d_Reader_sectorAt_8 ⟨hkc, hks⟩) hS (fun q _ h => hFc q h) hFc (fun r2 u t H1 locs ht hvm hp_r2 hB hz1 hk1 hS => ?_)
  obtain ⟨hP1, hD1⟩ := hB
  rw [ht] at hP1
  obtain ⟨hP, hD⟩ := va_join (wr := [(h0, .inr (7, [.ref im, .ref pr, .ref ra, .int cn, .int vw, .int wr]))]) (w1 := [(im, .inr (1, [.ref iq, .int L])), (iq, .inl (cB, n, .inl f))]) hP hD [1, 2] [0] rfl rfl (by decide +kernel) (by decide +kernel) hk1 hFc hP1 hD1
  clear hPc hDc hFc hP1 hD1 hk1 hz1 hkc hks
  generalize H1 = H at hP hS ⊢
  have hP : va_P D CL [(h0, .inr (7, [.ref im, .ref pr, .ref ra, .int cn, .int vw, .int wr])), (im, .inr (1, [.ref iq, .int L])), (iq, .inl (cB, n, .inl f))] H := hP
  have hD : va_D A [(h0, .inr (7, [.ref im, .ref pr, .ref ra, .int cn, .int vw, .int wr])), (im, .inr (1, [.ref iq, .int L])), (iq, .inl (cB, n, .inl f))] := hD
  try dsimp only at hp_r2
  have hv_3 := hp_r2
  have hP9 := hP.sub (ws' := [(h0, .inr (7, [.ref im, .ref pr, .ref ra, .int cn, .int vw, .int wr])), (im, .inr (1, [.ref iq, .int L])), (iq, .inl (cB, n, .inl f))]) [0, 1, 2] rfl
  have hD9 := hD.sub (ws' := [(h0, .inr (7, [.ref im, .ref pr, .ref ra, .int cn, .int vw, .int wr])), (im, .inr (1, [.ref iq, .int L])), (iq, .inl (cB, n, .inl f))]) [0, 1, 2] (by decide +kernel) rfl
  exact W.iret (v := r2) hx hb hr (fun t ht hW => ⟨⟨r2, (), rfl, (by (try dsimp only); subst_vars; rfl), by rw [ht]; exact hP9, hD9⟩, hS.F ht⟩) hS.2.2 d_Reader_sectorAt_11

theorem d_Reader_sizeAt_0 : decode b_Reader_sizeAt 0 = .ok (.aload_n 0, 1) := by decide +kernel
theorem d_Reader_sizeAt_1 : decode b_Reader_sizeAt 1 = .ok (.getfield 17, 3) := by decide +kernel
theorem d_Reader_sizeAt_4 : decode b_Reader_sizeAt 4 = .ok (.iload_n 1, 1) := by decide +kernel
theorem d_Reader_sizeAt_5 : decode b_Reader_sizeAt 5 = .ok (.bipush 10, 2) := by decide +kernel
theorem d_Reader_sizeAt_7 : decode b_Reader_sizeAt 7 = .ok (.iadd, 1) := by decide +kernel
theorem d_Reader_sizeAt_8 : decode b_Reader_sizeAt 8 = .ok (.iconst 4, 1) := by decide +kernel
theorem d_Reader_sizeAt_9 : decode b_Reader_sizeAt 9 = .ok (.invokevirtual 78, 3) := by decide +kernel
theorem d_Reader_sizeAt_12 : decode b_Reader_sizeAt 12 = .ok (.ireturn, 1) := by decide +kernel
set_option maxHeartbeats 4000000 in
set_option maxRecDepth 100000 in
theorem c3_sizeAt (l : Launch) (D : va_G) (cB cI cJ cZ cN cF : ClassId) (sz : Nat) (h0 : Nat) (pr : Nat) (ra : Nat) (im : Nat) (iq : Nat) (n : Nat) (L : Int32) (f : Nat → Int32) (cn : Int32) (vw : Int32) (wr : Int32) (x : Int32) (hL : 0 ≤ L.toInt ∧ L.toInt ≤ n) (hn : n ≤ 3000000) (hx : 0 ≤ x.toInt ∧ x.toInt ≤ 1000000000) : Met l y_Reader_sizeAt w_Reader_sizeAt ({ frames := 1, cells := 0, slots := 0, locals := 30 }) (va_Pc [.ref h0, .int x] (fun U => U.heap.size = sz ∧ va_P D CL [(h0, .inr (7, [.ref im, .ref pr, .ref ra, .int cn, .int vw, .int wr])), (im, .inr (1, [.ref iq, .int L])), (iq, .inl (cB, n, .inl f))] U.heap ∧ va_K D CL (TY cB cI cJ cZ cN cF) U ∧ NN U ∧ va_D (fun _ => True) [(h0, .inr (7, [.ref im, .ref pr, .ref ra, .int cn, .int vw, .int wr])), (im, .inr (1, [.ref iq, .int L])), (iq, .inl (cB, n, .inl f))])) (va_Qi (fun (r : Int32) (u : Unit) => (r = low4B f L (x + 10))) (fun (u : Unit) (t : State) => match u with | () => va_P D CL [(h0, .inr (7, [.ref im, .ref pr, .ref ra, .int cn, .int vw, .int wr])), (im, .inr (1, [.ref iq, .int L])), (iq, .inl (cB, n, .inl f))] t.heap ∧ va_D (va_A [(h0, .inr (7, [.ref im, .ref pr, .ref ra, .int cn, .int vw, .int wr])), (im, .inr (1, [.ref iq, .int L])), (iq, .inl (cB, n, .inl f))] sz) [(h0, .inr (7, [.ref im, .ref pr, .ref ra, .int cn, .int vw, .int wr])), (im, .inr (1, [.ref iq, .int L])), (iq, .inl (cB, n, .inl f))]) (va_A [(h0, .inr (7, [.ref im, .ref pr, .ref ra, .int cn, .int vw, .int wr])), (im, .inr (1, [.ref iq, .int L])), (iq, .inl (cB, n, .inl f))] sz)) 0 0 (va_A [(h0, .inr (7, [.ref im, .ref pr, .ref ra, .int cn, .int vw, .int wr])), (im, .inr (1, [.ref iq, .int L])), (iq, .inl (cB, n, .inl f))] sz) := by
  refine Met.ofW (cc := b_Reader_sizeAt) (maxL := 2) (ret := some .int) (by decide +kernel) rfl ?_
  intro p e s m args below meth c s₁ B hml hv
  obtain ⟨rfl, hsz, hP, hK, hN, hD0⟩ := hv
  have hx := B.exec
  have hb := B.bytes
  have hr := B.returns
  have hts := atoms_spec (ws := w_Reader_sizeAt) B.pre
  have ht9 := fun (w : Cond) (h : w ∈ lw_g) => hts w (List.mem_cons_of_mem _ h)
  have hown : s.vm.findClass "DiscMaker$Reader" = some m.cls := findClass_of_methodNamed B.named
  have hlocks := B.notSynchronized
  subst hsz
  have hD := hD0.self (sz := s.heap.size)
  generalize hAe : va_A [(h0, .inr (7, [.ref im, .ref pr, .ref ra, .int cn, .int vw, .int wr])), (im, .inr (1, [.ref iq, .int L])), (iq, .inl (cB, n, .inl f))] s.heap.size = A at hD ⊢
  have hA : ∀ q : Nat, s.heap.size ≤ q → A q := fun q h => by rw [← hAe]; exact Or.inr h
  have hS : va_S A s.heap s.heap [] := va_S.rf
  have hP : va_P D CL [(h0, .inr (7, [.ref im, .ref pr, .ref ra, .int cn, .int vw, .int wr])), (im, .inr (1, [.ref iq, .int L])), (iq, .inl (cB, n, .inl f))] s.heap := hP
  have hl := lv_entry [.ref h0, .int x] (n := 2) (Nat.le_of_ble_eq_true rfl)
  rw [lg_entry_eq]
  generalize (lg_sl [.ref h0, .int x] ++ List.replicate (2 - (lg_sl [.ref h0, .int x]).length) Slot.unset).toArray = ls at hl ⊢
  have hl : lv_has ls 2 [(0, .ref h0), (1, .int x)] := hl
  have L_m1 : ((-1) : Int32).toInt = (-1) := by decide
  have L_0 : (0 : Int32).toInt = 0 := by decide
  have L_1 : (1 : Int32).toInt = 1 := by decide
  have L_4 : (4 : Int32).toInt = 4 := by decide
  have L_10 : (10 : Int32).toInt = 10 := by decide
  refine lv_aload_n hx hb d_Reader_sizeAt_0 rfl (lv_at hl 0 rfl) ?_
  refine va_get (D := D) (ci := 7) (v := .ref im) (C := "DiscMaker$Reader") (T := F_Reader) (N := 6) hx hb ht9 in_Reader hown hK hP 0 rfl rfl 0 (by decide) (ht9 _ k412) (fun _ h9 => h9) rfl d_Reader_sizeAt_1 ?_
  refine lv_iload_n hx hb d_Reader_sizeAt_4 rfl (lv_at hl 1 rfl) ?_
  refine lv_bipush (v := 10) hx hb d_Reader_sizeAt_5 (by decide) ?_
  refine lv_iadd hx hb d_Reader_sizeAt_7 ?_
  refine lv_topi (fun v1 e_v1 => ?_)
  have t_v1 : v1.toInt = x.toInt + 10 := by rw [e_v1]; exact i_add rfl (by decide) (by omega) (by omega)
  refine lv_iconst (v := 4) hx hb d_Reader_sizeAt_8 (by decide) ?_
  have hPc := hP.sub (ws' := [(im, .inr (1, [.ref iq, .int L])), (iq, .inl (cB, n, .inl f))]) [1, 2] rfl
  have hDc := hD.sub (ws' := [(im, .inr (1, [.ref iq, .int L])), (iq, .inl (cB, n, .inl f))]) [1, 2] (by decide +kernel) rfl
  have hFc := va_free (wc := [(im, .inr (1, [.ref iq, .int L])), (iq, .inl (cB, n, .inl f))]) hD hS hA [1, 2] rfl
  have hkc : 0 ≤ 0 := by decide
  have hks : 0 ≤ 0 := by decide
  refine va_calli (va_runV (C := "DiscMaker$Bytes") (As := [.int v1, .int 4]) (rest := []) ⟨hx, hb, hml, hown, hts⟩ (c3_low4 l D cB cI cJ cZ cN cF s.heap.size im iq n L f v1 (by (try dsimp only); first | assumption | omega | trivial) (by (try dsimp only); first | assumption | omega | trivial) (by (try dsimp only); first | assumption | omega | trivial)) (cwV 2 hts (lg_goodV k1189 k1190 k1191 k119 kc_Bytes_low) rfl rfl rfl (by decide +kernel) ⟨Nat.le_of_ble_eq_true rfl, Nat.le_of_ble_eq_true rfl⟩) ⟨fun a U g mk q => by obtain ⟨q0, q1, qP, qK, qN, qD⟩ := q; exact ⟨q0, q1, qP, va_K.moved (u := U) (U := U.calling g mk a) (Vm.Alike.refl U.vm) qK, qN.calling, qD⟩, va_recv hK hP (ci := 1) (q0 := 1) rfl rfl, fun U hU hW => ⟨rfl, by rw [hU], by rw [hU]; exact hPc, va_K.moved hW.alike hK, NN.warm hW hN, hDc.weaken (fun _ _ _ _ => trivial)⟩⟩ rfl rfl hl.1 rfl (lv_room (Nat.le_of_ble_eq_true rfl)) d_Reader_sizeAt_9 ⟨hkc, hks⟩) hS (fun q _ h => hFc q h) hFc (fun r2 u t H1 locs ht hvm hp_r2 hB hz1 hk1 hS => ?_)
  obtain ⟨hP1, hD1⟩ := hB
  rw [ht] at hP1
  obtain ⟨hP, hD⟩ := va_join (wr := [(h0, .inr (7, [.ref im, .ref pr, .ref ra, .int cn, .int vw, .int wr]))]) (w1 := [(im, .inr (1, [.ref iq, .int L])), (iq, .inl (cB, n, .inl f))]) hP hD [1, 2] [0] rfl rfl (by decide +kernel) (by decide +kernel) hk1 hFc hP1 hD1
  clear hPc hDc hFc hP1 hD1 hk1 hz1 hkc hks
  generalize H1 = H at hP hS ⊢
  have hP : va_P D CL [(h0, .inr (7, [.ref im, .ref pr, .ref ra, .int cn, .int vw, .int wr])), (im, .inr (1, [.ref iq, .int L])), (iq, .inl (cB, n, .inl f))] H := hP
  have hD : va_D A [(h0, .inr (7, [.ref im, .ref pr, .ref ra, .int cn, .int vw, .int wr])), (im, .inr (1, [.ref iq, .int L])), (iq, .inl (cB, n, .inl f))] := hD
  try dsimp only at hp_r2
  have hv_3 := hp_r2
  have hP9 := hP.sub (ws' := [(h0, .inr (7, [.ref im, .ref pr, .ref ra, .int cn, .int vw, .int wr])), (im, .inr (1, [.ref iq, .int L])), (iq, .inl (cB, n, .inl f))]) [0, 1, 2] rfl
  have hD9 := hD.sub (ws' := [(h0, .inr (7, [.ref im, .ref pr, .ref ra, .int cn, .int vw, .int wr])), (im, .inr (1, [.ref iq, .int L])), (iq, .inl (cB, n, .inl f))]) [0, 1, 2] (by decide +kernel) rfl
  exact W.iret (v := r2) hx hb hr (fun t ht hW => ⟨⟨r2, (), rfl, (by (try dsimp only); subst_vars; rfl), by rw [ht]; exact hP9, hD9⟩, hS.F ht⟩) hS.2.2 d_Reader_sizeAt_12

theorem d_Reader_isDirectory_0 : decode b_Reader_isDirectory 0 = .ok (.aload_n 0, 1) := by decide +kernel
theorem d_Reader_isDirectory_1 : decode b_Reader_isDirectory 1 = .ok (.getfield 17, 3) := by decide +kernel
theorem d_Reader_isDirectory_4 : decode b_Reader_isDirectory 4 = .ok (.iload_n 1, 1) := by decide +kernel
theorem d_Reader_isDirectory_5 : decode b_Reader_isDirectory 5 = .ok (.bipush 25, 2) := by decide +kernel
theorem d_Reader_isDirectory_7 : decode b_Reader_isDirectory 7 = .ok (.iadd, 1) := by decide +kernel
theorem d_Reader_isDirectory_8 : decode b_Reader_isDirectory 8 = .ok (.invokevirtual 68, 3) := by decide +kernel
theorem d_Reader_isDirectory_11 : decode b_Reader_isDirectory 11 = .ok (.iconst 2, 1) := by decide +kernel
theorem d_Reader_isDirectory_12 : decode b_Reader_isDirectory 12 = .ok (.if_icmp .ne 7, 3) := by decide +kernel
theorem d_Reader_isDirectory_15 : decode b_Reader_isDirectory 15 = .ok (.iconst 1, 1) := by decide +kernel
theorem d_Reader_isDirectory_16 : decode b_Reader_isDirectory 16 = .ok (.goto 4, 3) := by decide +kernel
theorem d_Reader_isDirectory_19 : decode b_Reader_isDirectory 19 = .ok (.iconst 0, 1) := by decide +kernel
theorem d_Reader_isDirectory_20 : decode b_Reader_isDirectory 20 = .ok (.ireturn, 1) := by decide +kernel
set_option maxHeartbeats 4000000 in
set_option maxRecDepth 100000 in
theorem c3_isDirectory (l : Launch) (D : va_G) (cB cI cJ cZ cN cF : ClassId) (sz : Nat) (h0 : Nat) (pr : Nat) (ra : Nat) (im : Nat) (iq : Nat) (n : Nat) (L : Int32) (f : Nat → Int32) (cn : Int32) (vw : Int32) (wr : Int32) (x : Int32) (hL : 0 ≤ L.toInt ∧ L.toInt ≤ n) (hn : n ≤ 3000000) (hx : 0 ≤ x.toInt ∧ x.toInt ≤ 1000000000) : Met l y_Reader_isDirectory w_Reader_isDirectory ({ frames := 1, cells := 0, slots := 0, locals := 27 }) (va_Pc [.ref h0, .int x] (fun U => U.heap.size = sz ∧ va_P D CL [(h0, .inr (7, [.ref im, .ref pr, .ref ra, .int cn, .int vw, .int wr])), (im, .inr (1, [.ref iq, .int L])), (iq, .inl (cB, n, .inl f))] U.heap ∧ va_K D CL (TY cB cI cJ cZ cN cF) U ∧ NN U ∧ va_D (fun _ => True) [(h0, .inr (7, [.ref im, .ref pr, .ref ra, .int cn, .int vw, .int wr])), (im, .inr (1, [.ref iq, .int L])), (iq, .inl (cB, n, .inl f))])) (va_Qi (fun (r : Int32) (u : Unit) => (0 ≤ r.toInt ∧ r.toInt ≤ 1) ∧ (r.toInt ≠ 0 ↔ (atB f L (x + 25)).toInt = 2)) (fun (u : Unit) (t : State) => match u with | () => va_P D CL [(h0, .inr (7, [.ref im, .ref pr, .ref ra, .int cn, .int vw, .int wr])), (im, .inr (1, [.ref iq, .int L])), (iq, .inl (cB, n, .inl f))] t.heap ∧ va_D (va_A [(h0, .inr (7, [.ref im, .ref pr, .ref ra, .int cn, .int vw, .int wr])), (im, .inr (1, [.ref iq, .int L])), (iq, .inl (cB, n, .inl f))] sz) [(h0, .inr (7, [.ref im, .ref pr, .ref ra, .int cn, .int vw, .int wr])), (im, .inr (1, [.ref iq, .int L])), (iq, .inl (cB, n, .inl f))]) (va_A [(h0, .inr (7, [.ref im, .ref pr, .ref ra, .int cn, .int vw, .int wr])), (im, .inr (1, [.ref iq, .int L])), (iq, .inl (cB, n, .inl f))] sz)) 0 0 (va_A [(h0, .inr (7, [.ref im, .ref pr, .ref ra, .int cn, .int vw, .int wr])), (im, .inr (1, [.ref iq, .int L])), (iq, .inl (cB, n, .inl f))] sz) := by
  refine Met.ofW (cc := b_Reader_isDirectory) (maxL := 2) (ret := some .boolean) (by decide +kernel) rfl ?_
  intro p e s m args below meth c s₁ B hml hv
  obtain ⟨rfl, hsz, hP, hK, hN, hD0⟩ := hv
  have hx := B.exec
  have hb := B.bytes
  have hr := B.returns
  have hts := atoms_spec (ws := w_Reader_isDirectory) B.pre
  have ht9 := fun (w : Cond) (h : w ∈ lw_g) => hts w (List.mem_cons_of_mem _ h)
  have hown : s.vm.findClass "DiscMaker$Reader" = some m.cls := findClass_of_methodNamed B.named
  have hlocks := B.notSynchronized
  subst hsz
  have hD := hD0.self (sz := s.heap.size)
  generalize hAe : va_A [(h0, .inr (7, [.ref im, .ref pr, .ref ra, .int cn, .int vw, .int wr])), (im, .inr (1, [.ref iq, .int L])), (iq, .inl (cB, n, .inl f))] s.heap.size = A at hD ⊢
  have hA : ∀ q : Nat, s.heap.size ≤ q → A q := fun q h => by rw [← hAe]; exact Or.inr h
  have hS : va_S A s.heap s.heap [] := va_S.rf
  have hP : va_P D CL [(h0, .inr (7, [.ref im, .ref pr, .ref ra, .int cn, .int vw, .int wr])), (im, .inr (1, [.ref iq, .int L])), (iq, .inl (cB, n, .inl f))] s.heap := hP
  have hl := lv_entry [.ref h0, .int x] (n := 2) (Nat.le_of_ble_eq_true rfl)
  rw [lg_entry_eq]
  generalize (lg_sl [.ref h0, .int x] ++ List.replicate (2 - (lg_sl [.ref h0, .int x]).length) Slot.unset).toArray = ls at hl ⊢
  have hl : lv_has ls 2 [(0, .ref h0), (1, .int x)] := hl
  have L_m1 : ((-1) : Int32).toInt = (-1) := by decide
  have L_0 : (0 : Int32).toInt = 0 := by decide
  have L_1 : (1 : Int32).toInt = 1 := by decide
  have L_2 : (2 : Int32).toInt = 2 := by decide
  have L_25 : (25 : Int32).toInt = 25 := by decide
  refine lv_aload_n hx hb d_Reader_isDirectory_0 rfl (lv_at hl 0 rfl) ?_
  refine va_get (D := D) (ci := 7) (v := .ref im) (C := "DiscMaker$Reader") (T := F_Reader) (N := 6) hx hb ht9 in_Reader hown hK hP 0 rfl rfl 0 (by decide) (ht9 _ k412) (fun _ h9 => h9) rfl d_Reader_isDirectory_1 ?_
  refine lv_iload_n hx hb d_Reader_isDirectory_4 rfl (lv_at hl 1 rfl) ?_
  refine lv_bipush (v := 25) hx hb d_Reader_isDirectory_5 (by decide) ?_
  refine lv_iadd hx hb d_Reader_isDirectory_7 ?_
  refine lv_topi (fun v1 e_v1 => ?_)
  have t_v1 : v1.toInt = x.toInt + 25 := by rw [e_v1]; exact i_add rfl (by decide) (by omega) (by omega)
  have hPc := hP.sub (ws' := [(im, .inr (1, [.ref iq, .int L])), (iq, .inl (cB, n, .inl f))]) [1, 2] rfl
  have hDc := hD.sub (ws' := [(im, .inr (1, [.ref iq, .int L])), (iq, .inl (cB, n, .inl f))]) [1, 2] (by decide +kernel) rfl
  have hFc := va_free (wc := [(im, .inr (1, [.ref iq, .int L])), (iq, .inl (cB, n, .inl f))]) hD hS hA [1, 2] rfl
  have hkc : 0 ≤ 0 := by decide
  have hks : 0 ≤ 0 := by decide
  refine va_calli (va_runV (C := "DiscMaker$Bytes") (As := [.int v1]) (rest := []) ⟨hx, hb, hml, hown, hts⟩ (c3_at l D cB cI cJ cZ cN cF s.heap.size im iq n L f v1 (by (try dsimp only); first | assumption | omega | trivial) (by (try dsimp only); first | assumption | omega | trivial)) (cwV 1 hts (lg_goodV k1179 k1065 k1066 k119 kc_Bytes_at) rfl rfl rfl (by decide +kernel) ⟨Nat.le_of_ble_eq_true rfl, Nat.le_of_ble_eq_true rfl⟩) ⟨fun a U g mk q => by obtain ⟨q0, q1, qP, qK, qN, qD⟩ := q; exact ⟨q0, q1, qP, va_K.moved (u := U) (U := U.calling g mk a) (Vm.Alike.refl U.vm) qK, qN.calling, qD⟩, va_recv hK hP (ci := 1) (q0 := 1) rfl rfl, fun U hU hW => ⟨rfl, by rw [hU], by rw [hU]; exact hPc, va_K.moved hW.alike hK, NN.warm hW hN, hDc.weaken (fun _ _ _ _ => trivial)⟩⟩ rfl rfl hl.1 rfl (lv_room (Nat.le_of_ble_eq_true rfl)) d_Reader_isDirectory_8 ⟨hkc, hks⟩) hS (fun q _ h => hFc q h) hFc (fun r2 u t H1 locs ht hvm hp_r2 hB hz1 hk1 hS => ?_)
  obtain ⟨hP1, hD1⟩ := hB
  rw [ht] at hP1
  obtain ⟨hP, hD⟩ := va_join (wr := [(h0, .inr (7, [.ref im, .ref pr, .ref ra, .int cn, .int vw, .int wr]))]) (w1 := [(im, .inr (1, [.ref iq, .int L])), (iq, .inl (cB, n, .inl f))]) hP hD [1, 2] [0] rfl rfl (by decide +kernel) (by decide +kernel) hk1 hFc hP1 hD1
  clear hPc hDc hFc hP1 hD1 hk1 hz1 hkc hks
  generalize H1 = H at hP hS ⊢
  have hP : va_P D CL [(h0, .inr (7, [.ref im, .ref pr, .ref ra, .int cn, .int vw, .int wr])), (im, .inr (1, [.ref iq, .int L])), (iq, .inl (cB, n, .inl f))] H := hP
  have hD : va_D A [(h0, .inr (7, [.ref im, .ref pr, .ref ra, .int cn, .int vw, .int wr])), (im, .inr (1, [.ref iq, .int L])), (iq, .inl (cB, n, .inl f))] := hD
  try dsimp only at hp_r2
  obtain ⟨hr_3, hv_4⟩ := hp_r2
  have qr2 : r2.toInt = (atB f L (x + 25)).toInt := by subst_vars; rfl
  refine lv_iconst (v := 2) hx hb d_Reader_isDirectory_11 (by decide) ?_
  refine lv_icmp_ne (tgt := 19) hx hb d_Reader_isDirectory_12 (by decide) (fun h_9 => ?_) (fun h_9 => ?_)
  · skip
    have g12_8 : ¬ r2.toInt = 2 := fun h8 => h_9 ((i_eq rfl (by decide)).mpr h8)
    refine lv_iconst (v := 0) hx hb d_Reader_isDirectory_19 (by decide) ?_
    have hP9 := hP.sub (ws' := [(h0, .inr (7, [.ref im, .ref pr, .ref ra, .int cn, .int vw, .int wr])), (im, .inr (1, [.ref iq, .int L])), (iq, .inl (cB, n, .inl f))]) [0, 1, 2] rfl
    have hD9 := hD.sub (ws' := [(h0, .inr (7, [.ref im, .ref pr, .ref ra, .int cn, .int vw, .int wr])), (im, .inr (1, [.ref iq, .int L])), (iq, .inl (cB, n, .inl f))]) [0, 1, 2] (by decide +kernel) rfl
    exact W.zret (v := 0) hx hb hr (by first | rfl | decide | exact i_narZ (by omega)) (fun t ht hW => ⟨⟨0, (), rfl, ⟨(by (try dsimp only); first | assumption | omega | trivial), (by (try dsimp only); first | assumption | omega | trivial)⟩, by rw [ht]; exact hP9, hD9⟩, hS.F ht⟩) hS.2.2 d_Reader_isDirectory_20
  · skip
    have g12_8 : r2.toInt = 2 := (i_eq rfl (by decide)).mp h_9
    refine lv_iconst (v := 1) hx hb d_Reader_isDirectory_15 (by decide) ?_
    refine lv_goto (tgt := 20) hx hb d_Reader_isDirectory_16 (by decide) ?_
    have hP9 := hP.sub (ws' := [(h0, .inr (7, [.ref im, .ref pr, .ref ra, .int cn, .int vw, .int wr])), (im, .inr (1, [.ref iq, .int L])), (iq, .inl (cB, n, .inl f))]) [0, 1, 2] rfl
    have hD9 := hD.sub (ws' := [(h0, .inr (7, [.ref im, .ref pr, .ref ra, .int cn, .int vw, .int wr])), (im, .inr (1, [.ref iq, .int L])), (iq, .inl (cB, n, .inl f))]) [0, 1, 2] (by decide +kernel) rfl
    exact W.zret (v := 1) hx hb hr (by first | rfl | decide | exact i_narZ (by omega)) (fun t ht hW => ⟨⟨1, (), rfl, ⟨(by (try dsimp only); first | assumption | omega | trivial), (by (try dsimp only); first | assumption | omega | trivial)⟩, by rw [ht]; exact hP9, hD9⟩, hS.F ht⟩) hS.2.2 d_Reader_isDirectory_20

theorem d_Reader_isRecord_0 : decode b_Reader_isRecord 0 = .ok (.aload_n 0, 1) := by decide +kernel
theorem d_Reader_isRecord_1 : decode b_Reader_isRecord 1 = .ok (.getfield 17, 3) := by decide +kernel
theorem d_Reader_isRecord_4 : decode b_Reader_isRecord 4 = .ok (.iload_n 1, 1) := by decide +kernel
theorem d_Reader_isRecord_5 : decode b_Reader_isRecord 5 = .ok (.invokevirtual 68, 3) := by decide +kernel
theorem d_Reader_isRecord_8 : decode b_Reader_isRecord 8 = .ok (.istore_n 2, 1) := by decide +kernel
theorem d_Reader_isRecord_9 : decode b_Reader_isRecord 9 = .ok (.aload_n 0, 1) := by decide +kernel
theorem d_Reader_isRecord_10 : decode b_Reader_isRecord 10 = .ok (.getfield 17, 3) := by decide +kernel
theorem d_Reader_isRecord_13 : decode b_Reader_isRecord 13 = .ok (.iload_n 1, 1) := by decide +kernel
theorem d_Reader_isRecord_14 : decode b_Reader_isRecord 14 = .ok (.bipush 32, 2) := by decide +kernel
theorem d_Reader_isRecord_16 : decode b_Reader_isRecord 16 = .ok (.iadd, 1) := by decide +kernel
theorem d_Reader_isRecord_17 : decode b_Reader_isRecord 17 = .ok (.invokevirtual 68, 3) := by decide +kernel
theorem d_Reader_isRecord_20 : decode b_Reader_isRecord 20 = .ok (.istore_n 3, 1) := by decide +kernel
theorem d_Reader_isRecord_21 : decode b_Reader_isRecord 21 = .ok (.iload_n 2, 1) := by decide +kernel
theorem d_Reader_isRecord_22 : decode b_Reader_isRecord 22 = .ok (.bipush 34, 2) := by decide +kernel
theorem d_Reader_isRecord_24 : decode b_Reader_isRecord 24 = .ok (.if_icmp .lt 29, 3) := by decide +kernel
theorem d_Reader_isRecord_27 : decode b_Reader_isRecord 27 = .ok (.iload_n 1, 1) := by decide +kernel
theorem d_Reader_isRecord_28 : decode b_Reader_isRecord 28 = .ok (.sipush 2048, 3) := by decide +kernel
theorem d_Reader_isRecord_31 : decode b_Reader_isRecord 31 = .ok (.irem, 1) := by decide +kernel
theorem d_Reader_isRecord_32 : decode b_Reader_isRecord 32 = .ok (.iload_n 2, 1) := by decide +kernel
theorem d_Reader_isRecord_33 : decode b_Reader_isRecord 33 = .ok (.iadd, 1) := by decide +kernel
theorem d_Reader_isRecord_34 : decode b_Reader_isRecord 34 = .ok (.sipush 2048, 3) := by decide +kernel
theorem d_Reader_isRecord_37 : decode b_Reader_isRecord 37 = .ok (.if_icmp .gt 16, 3) := by decide +kernel
theorem d_Reader_isRecord_40 : decode b_Reader_isRecord 40 = .ok (.iload_n 3, 1) := by decide +kernel
theorem d_Reader_isRecord_41 : decode b_Reader_isRecord 41 = .ok (.iconst 1, 1) := by decide +kernel
theorem d_Reader_isRecord_42 : decode b_Reader_isRecord 42 = .ok (.if_icmp .lt 11, 3) := by decide +kernel
theorem d_Reader_isRecord_45 : decode b_Reader_isRecord 45 = .ok (.iload_n 2, 1) := by decide +kernel
theorem d_Reader_isRecord_46 : decode b_Reader_isRecord 46 = .ok (.bipush 33, 2) := by decide +kernel
theorem d_Reader_isRecord_48 : decode b_Reader_isRecord 48 = .ok (.iload_n 3, 1) := by decide +kernel
theorem d_Reader_isRecord_49 : decode b_Reader_isRecord 49 = .ok (.iadd, 1) := by decide +kernel
theorem d_Reader_isRecord_50 : decode b_Reader_isRecord 50 = .ok (.if_icmp .ge 5, 3) := by decide +kernel
theorem d_Reader_isRecord_53 : decode b_Reader_isRecord 53 = .ok (.iconst 0, 1) := by decide +kernel
theorem d_Reader_isRecord_54 : decode b_Reader_isRecord 54 = .ok (.ireturn, 1) := by decide +kernel
theorem d_Reader_isRecord_55 : decode b_Reader_isRecord 55 = .ok (.aload_n 0, 1) := by decide +kernel
theorem d_Reader_isRecord_56 : decode b_Reader_isRecord 56 = .ok (.getfield 17, 3) := by decide +kernel
theorem d_Reader_isRecord_59 : decode b_Reader_isRecord 59 = .ok (.iload_n 1, 1) := by decide +kernel
theorem d_Reader_isRecord_60 : decode b_Reader_isRecord 60 = .ok (.iconst 2, 1) := by decide +kernel
theorem d_Reader_isRecord_61 : decode b_Reader_isRecord 61 = .ok (.iadd, 1) := by decide +kernel
theorem d_Reader_isRecord_62 : decode b_Reader_isRecord 62 = .ok (.iconst 4, 1) := by decide +kernel
theorem d_Reader_isRecord_63 : decode b_Reader_isRecord 63 = .ok (.invokevirtual 82, 3) := by decide +kernel
theorem d_Reader_isRecord_66 : decode b_Reader_isRecord 66 = .ok (.ifCond .eq 33, 3) := by decide +kernel
theorem d_Reader_isRecord_69 : decode b_Reader_isRecord 69 = .ok (.aload_n 0, 1) := by decide +kernel
theorem d_Reader_isRecord_70 : decode b_Reader_isRecord 70 = .ok (.getfield 17, 3) := by decide +kernel
theorem d_Reader_isRecord_73 : decode b_Reader_isRecord 73 = .ok (.iload_n 1, 1) := by decide +kernel
theorem d_Reader_isRecord_74 : decode b_Reader_isRecord 74 = .ok (.bipush 10, 2) := by decide +kernel
theorem d_Reader_isRecord_76 : decode b_Reader_isRecord 76 = .ok (.iadd, 1) := by decide +kernel
theorem d_Reader_isRecord_77 : decode b_Reader_isRecord 77 = .ok (.iconst 4, 1) := by decide +kernel
theorem d_Reader_isRecord_78 : decode b_Reader_isRecord 78 = .ok (.invokevirtual 82, 3) := by decide +kernel
theorem d_Reader_isRecord_81 : decode b_Reader_isRecord 81 = .ok (.ifCond .eq 18, 3) := by decide +kernel
theorem d_Reader_isRecord_84 : decode b_Reader_isRecord 84 = .ok (.aload_n 0, 1) := by decide +kernel
theorem d_Reader_isRecord_85 : decode b_Reader_isRecord 85 = .ok (.getfield 17, 3) := by decide +kernel
theorem d_Reader_isRecord_88 : decode b_Reader_isRecord 88 = .ok (.iload_n 1, 1) := by decide +kernel
theorem d_Reader_isRecord_89 : decode b_Reader_isRecord 89 = .ok (.bipush 28, 2) := by decide +kernel
theorem d_Reader_isRecord_91 : decode b_Reader_isRecord 91 = .ok (.iadd, 1) := by decide +kernel
theorem d_Reader_isRecord_92 : decode b_Reader_isRecord 92 = .ok (.iconst 2, 1) := by decide +kernel
theorem d_Reader_isRecord_93 : decode b_Reader_isRecord 93 = .ok (.invokevirtual 82, 3) := by decide +kernel
theorem d_Reader_isRecord_96 : decode b_Reader_isRecord 96 = .ok (.ifCond .ne 5, 3) := by decide +kernel
theorem d_Reader_isRecord_99 : decode b_Reader_isRecord 99 = .ok (.iconst 0, 1) := by decide +kernel
theorem d_Reader_isRecord_100 : decode b_Reader_isRecord 100 = .ok (.ireturn, 1) := by decide +kernel
theorem d_Reader_isRecord_101 : decode b_Reader_isRecord 101 = .ok (.aload_n 0, 1) := by decide +kernel
theorem d_Reader_isRecord_102 : decode b_Reader_isRecord 102 = .ok (.iload_n 1, 1) := by decide +kernel
theorem d_Reader_isRecord_103 : decode b_Reader_isRecord 103 = .ok (.invokevirtual 116, 3) := by decide +kernel
theorem d_Reader_isRecord_106 : decode b_Reader_isRecord 106 = .ok (.i2l, 1) := by decide +kernel
theorem d_Reader_isRecord_107 : decode b_Reader_isRecord 107 = .ok (.lstore 4, 2) := by decide +kernel
theorem d_Reader_isRecord_109 : decode b_Reader_isRecord 109 = .ok (.aload_n 0, 1) := by decide +kernel
theorem d_Reader_isRecord_110 : decode b_Reader_isRecord 110 = .ok (.iload_n 1, 1) := by decide +kernel
theorem d_Reader_isRecord_111 : decode b_Reader_isRecord 111 = .ok (.invokevirtual 119, 3) := by decide +kernel
theorem d_Reader_isRecord_114 : decode b_Reader_isRecord 114 = .ok (.i2l, 1) := by decide +kernel
theorem d_Reader_isRecord_115 : decode b_Reader_isRecord 115 = .ok (.lstore 6, 2) := by decide +kernel
theorem d_Reader_isRecord_117 : decode b_Reader_isRecord 117 = .ok (.aload_n 0, 1) := by decide +kernel
theorem d_Reader_isRecord_118 : decode b_Reader_isRecord 118 = .ok (.iload_n 1, 1) := by decide +kernel
theorem d_Reader_isRecord_119 : decode b_Reader_isRecord 119 = .ok (.invokevirtual 89, 3) := by decide +kernel
theorem d_Reader_isRecord_122 : decode b_Reader_isRecord 122 = .ok (.ifCond .eq 24, 3) := by decide +kernel
theorem d_Reader_isRecord_125 : decode b_Reader_isRecord 125 = .ok (.lload 4, 2) := by decide +kernel
theorem d_Reader_isRecord_127 : decode b_Reader_isRecord 127 = .ok (.lconst 0, 1) := by decide +kernel
theorem d_Reader_isRecord_128 : decode b_Reader_isRecord 128 = .ok (.lcmp, 1) := by decide +kernel
theorem d_Reader_isRecord_129 : decode b_Reader_isRecord 129 = .ok (.ifCond .le 24, 3) := by decide +kernel
theorem d_Reader_isRecord_132 : decode b_Reader_isRecord 132 = .ok (.lload 4, 2) := by decide +kernel
theorem d_Reader_isRecord_134 : decode b_Reader_isRecord 134 = .ok (.ldc2_w 122, 3) := by decide +kernel
theorem d_Reader_isRecord_137 : decode b_Reader_isRecord 137 = .ok (.lrem, 1) := by decide +kernel
theorem d_Reader_isRecord_138 : decode b_Reader_isRecord 138 = .ok (.lconst 0, 1) := by decide +kernel
theorem d_Reader_isRecord_139 : decode b_Reader_isRecord 139 = .ok (.lcmp, 1) := by decide +kernel
theorem d_Reader_isRecord_140 : decode b_Reader_isRecord 140 = .ok (.ifCond .eq 15, 3) := by decide +kernel
theorem d_Reader_isRecord_143 : decode b_Reader_isRecord 143 = .ok (.goto 10, 3) := by decide +kernel
theorem d_Reader_isRecord_146 : decode b_Reader_isRecord 146 = .ok (.lload 4, 2) := by decide +kernel
theorem d_Reader_isRecord_148 : decode b_Reader_isRecord 148 = .ok (.lconst 0, 1) := by decide +kernel
theorem d_Reader_isRecord_149 : decode b_Reader_isRecord 149 = .ok (.lcmp, 1) := by decide +kernel
theorem d_Reader_isRecord_150 : decode b_Reader_isRecord 150 = .ok (.ifCond .ge 5, 3) := by decide +kernel
theorem d_Reader_isRecord_153 : decode b_Reader_isRecord 153 = .ok (.iconst 0, 1) := by decide +kernel
theorem d_Reader_isRecord_154 : decode b_Reader_isRecord 154 = .ok (.ireturn, 1) := by decide +kernel
theorem d_Reader_isRecord_155 : decode b_Reader_isRecord 155 = .ok (.lload 4, 2) := by decide +kernel
theorem d_Reader_isRecord_157 : decode b_Reader_isRecord 157 = .ok (.lconst 0, 1) := by decide +kernel
theorem d_Reader_isRecord_158 : decode b_Reader_isRecord 158 = .ok (.lcmp, 1) := by decide +kernel
theorem d_Reader_isRecord_159 : decode b_Reader_isRecord 159 = .ok (.ifCond .eq 31, 3) := by decide +kernel
theorem d_Reader_isRecord_162 : decode b_Reader_isRecord 162 = .ok (.lload 6, 2) := by decide +kernel
theorem d_Reader_isRecord_164 : decode b_Reader_isRecord 164 = .ok (.lconst 0, 1) := by decide +kernel
theorem d_Reader_isRecord_165 : decode b_Reader_isRecord 165 = .ok (.lcmp, 1) := by decide +kernel
theorem d_Reader_isRecord_166 : decode b_Reader_isRecord 166 = .ok (.ifCond .lt 28, 3) := by decide +kernel
theorem d_Reader_isRecord_169 : decode b_Reader_isRecord 169 = .ok (.lload 6, 2) := by decide +kernel
theorem d_Reader_isRecord_171 : decode b_Reader_isRecord 171 = .ok (.ldc2_w 122, 3) := by decide +kernel
theorem d_Reader_isRecord_174 : decode b_Reader_isRecord 174 = .ok (.lmul, 1) := by decide +kernel
theorem d_Reader_isRecord_175 : decode b_Reader_isRecord 175 = .ok (.lload 4, 2) := by decide +kernel
theorem d_Reader_isRecord_177 : decode b_Reader_isRecord 177 = .ok (.ladd, 1) := by decide +kernel
theorem d_Reader_isRecord_178 : decode b_Reader_isRecord 178 = .ok (.aload_n 0, 1) := by decide +kernel
theorem d_Reader_isRecord_179 : decode b_Reader_isRecord 179 = .ok (.getfield 17, 3) := by decide +kernel
theorem d_Reader_isRecord_182 : decode b_Reader_isRecord 182 = .ok (.getfield 55, 3) := by decide +kernel
theorem d_Reader_isRecord_185 : decode b_Reader_isRecord 185 = .ok (.i2l, 1) := by decide +kernel
theorem d_Reader_isRecord_186 : decode b_Reader_isRecord 186 = .ok (.lcmp, 1) := by decide +kernel
theorem d_Reader_isRecord_187 : decode b_Reader_isRecord 187 = .ok (.ifCond .gt 7, 3) := by decide +kernel
theorem d_Reader_isRecord_190 : decode b_Reader_isRecord 190 = .ok (.iconst 1, 1) := by decide +kernel
theorem d_Reader_isRecord_191 : decode b_Reader_isRecord 191 = .ok (.goto 4, 3) := by decide +kernel
theorem d_Reader_isRecord_194 : decode b_Reader_isRecord 194 = .ok (.iconst 0, 1) := by decide +kernel
theorem d_Reader_isRecord_195 : decode b_Reader_isRecord 195 = .ok (.ireturn, 1) := by decide +kernel
set_option maxHeartbeats 4000000 in
set_option maxRecDepth 100000 in
theorem c3_isRecord (l : Launch) (D : va_G) (cB cI cJ cZ cN cF : ClassId) (sz : Nat) (h0 : Nat) (pr : Nat) (ra : Nat) (im : Nat) (iq : Nat) (n : Nat) (L : Int32) (f : Nat → Int32) (cn : Int32) (vw : Int32) (wr : Int32) (x : Int32) (hL : 0 ≤ L.toInt ∧ L.toInt ≤ n) (hn : n ≤ 3000000) (hx : 0 ≤ x.toInt ∧ x.toInt ≤ 1000000000) : Met l y_Reader_isRecord w_Reader_isRecord ({ frames := 2, cells := 0, slots := 0, locals := 57 }) (va_Pc [.ref h0, .int x] (fun U => U.heap.size = sz ∧ va_P D CL [(h0, .inr (7, [.ref im, .ref pr, .ref ra, .int cn, .int vw, .int wr])), (im, .inr (1, [.ref iq, .int L])), (iq, .inl (cB, n, .inl f))] U.heap ∧ va_K D CL (TY cB cI cJ cZ cN cF) U ∧ NN U ∧ va_D (fun _ => True) [(h0, .inr (7, [.ref im, .ref pr, .ref ra, .int cn, .int vw, .int wr])), (im, .inr (1, [.ref iq, .int L])), (iq, .inl (cB, n, .inl f))])) (va_Qi (fun (r : Int32) (u : Unit) => (0 ≤ r.toInt ∧ r.toInt ≤ 1) ∧ (r.toInt ≠ 0 → RecC f L x)) (fun (u : Unit) (t : State) => match u with | () => va_P D CL [(h0, .inr (7, [.ref im, .ref pr, .ref ra, .int cn, .int vw, .int wr])), (im, .inr (1, [.ref iq, .int L])), (iq, .inl (cB, n, .inl f))] t.heap ∧ va_D (va_A [(h0, .inr (7, [.ref im, .ref pr, .ref ra, .int cn, .int vw, .int wr])), (im, .inr (1, [.ref iq, .int L])), (iq, .inl (cB, n, .inl f))] sz) [(h0, .inr (7, [.ref im, .ref pr, .ref ra, .int cn, .int vw, .int wr])), (im, .inr (1, [.ref iq, .int L])), (iq, .inl (cB, n, .inl f))]) (va_A [(h0, .inr (7, [.ref im, .ref pr, .ref ra, .int cn, .int vw, .int wr])), (im, .inr (1, [.ref iq, .int L])), (iq, .inl (cB, n, .inl f))] sz)) 0 0 (va_A [(h0, .inr (7, [.ref im, .ref pr, .ref ra, .int cn, .int vw, .int wr])), (im, .inr (1, [.ref iq, .int L])), (iq, .inl (cB, n, .inl f))] sz) := by
  refine Met.ofW (cc := b_Reader_isRecord) (maxL := 8) (ret := some .boolean) (by decide +kernel) rfl ?_
  intro p e s m args below meth c s₁ B hml hv
  obtain ⟨rfl, hsz, hP, hK, hN, hD0⟩ := hv
  have hx := B.exec
  have hb := B.bytes
  have hr := B.returns
  have hts := atoms_spec (ws := w_Reader_isRecord) B.pre
  have ht9 := fun (w : Cond) (h : w ∈ lw_g) => hts w (List.mem_cons_of_mem _ h)
  have hown : s.vm.findClass "DiscMaker$Reader" = some m.cls := findClass_of_methodNamed B.named
  have hlocks := B.notSynchronized
  subst hsz
  have hD := hD0.self (sz := s.heap.size)
  generalize hAe : va_A [(h0, .inr (7, [.ref im, .ref pr, .ref ra, .int cn, .int vw, .int wr])), (im, .inr (1, [.ref iq, .int L])), (iq, .inl (cB, n, .inl f))] s.heap.size = A at hD ⊢
  have hA : ∀ q : Nat, s.heap.size ≤ q → A q := fun q h => by rw [← hAe]; exact Or.inr h
  have hS : va_S A s.heap s.heap [] := va_S.rf
  have hP : va_P D CL [(h0, .inr (7, [.ref im, .ref pr, .ref ra, .int cn, .int vw, .int wr])), (im, .inr (1, [.ref iq, .int L])), (iq, .inl (cB, n, .inl f))] s.heap := hP
  have hl := lv_entry [.ref h0, .int x] (n := 8) (Nat.le_of_ble_eq_true rfl)
  rw [lg_entry_eq]
  generalize (lg_sl [.ref h0, .int x] ++ List.replicate (8 - (lg_sl [.ref h0, .int x]).length) Slot.unset).toArray = ls at hl ⊢
  have hl : lv_has ls 8 [(0, .ref h0), (1, .int x)] := hl
  have L_m1 : ((-1) : Int32).toInt = (-1) := by decide
  have L_0 : (0 : Int32).toInt = 0 := by decide
  have L_1 : (1 : Int32).toInt = 1 := by decide
  have L_2 : (2 : Int32).toInt = 2 := by decide
  have L_4 : (4 : Int32).toInt = 4 := by decide
  have L_10 : (10 : Int32).toInt = 10 := by decide
  have L_28 : (28 : Int32).toInt = 28 := by decide
  have L_32 : (32 : Int32).toInt = 32 := by decide
  have L_33 : (33 : Int32).toInt = 33 := by decide
  have L_34 : (34 : Int32).toInt = 34 := by decide
  have L_2048 : (2048 : Int32).toInt = 2048 := by decide
  refine lv_aload_n hx hb d_Reader_isRecord_0 rfl (lv_at hl 0 rfl) ?_
  refine va_get (D := D) (ci := 7) (v := .ref im) (C := "DiscMaker$Reader") (T := F_Reader) (N := 6) hx hb ht9 in_Reader hown hK hP 0 rfl rfl 0 (by decide) (ht9 _ k412) (fun _ h9 => h9) rfl d_Reader_isRecord_1 ?_
  refine lv_iload_n hx hb d_Reader_isRecord_4 rfl (lv_at hl 1 rfl) ?_
  have hPc := hP.sub (ws' := [(im, .inr (1, [.ref iq, .int L])), (iq, .inl (cB, n, .inl f))]) [1, 2] rfl
  have hDc := hD.sub (ws' := [(im, .inr (1, [.ref iq, .int L])), (iq, .inl (cB, n, .inl f))]) [1, 2] (by decide +kernel) rfl
  have hFc := va_free (wc := [(im, .inr (1, [.ref iq, .int L])), (iq, .inl (cB, n, .inl f))]) hD hS hA [1, 2] rfl
  have hkc : 0 ≤ 0 := by decide
  have hks : 0 ≤ 0 := by decide
  refine va_calli (va_runV (C := "DiscMaker$Bytes") (As := [.int x]) (rest := []) ⟨hx, hb, hml, hown, hts⟩ (c3_at l D cB cI cJ cZ cN cF s.heap.size im iq n L f x (by (try dsimp only); first | assumption | omega | trivial) (by (try dsimp only); first | assumption | omega | trivial)) (cwV 1 hts (lg_goodV k1179 k1065 k1066 k119 kc_Bytes_at) rfl rfl rfl (by decide +kernel) ⟨Nat.le_of_ble_eq_true rfl, Nat.le_of_ble_eq_true rfl⟩) ⟨fun a U g mk q => by obtain ⟨q0, q1, qP, qK, qN, qD⟩ := q; exact ⟨q0, q1, qP, va_K.moved (u := U) (U := U.calling g mk a) (Vm.Alike.refl U.vm) qK, qN.calling, qD⟩, va_recv hK hP (ci := 1) (q0 := 1) rfl rfl, fun U hU hW => ⟨rfl, by rw [hU], by rw [hU]; exact hPc, va_K.moved hW.alike hK, NN.warm hW hN, hDc.weaken (fun _ _ _ _ => trivial)⟩⟩ rfl rfl hl.1 rfl (lv_room (Nat.le_of_ble_eq_true rfl)) d_Reader_isRecord_5 ⟨hkc, hks⟩) hS (fun q _ h => hFc q h) hFc (fun r1 u t H1 locs ht hvm hp_r1 hB hz1 hk1 hS => ?_)
  obtain ⟨hP1, hD1⟩ := hB
  rw [ht] at hP1
  obtain ⟨hP, hD⟩ := va_join (wr := [(h0, .inr (7, [.ref im, .ref pr, .ref ra, .int cn, .int vw, .int wr]))]) (w1 := [(im, .inr (1, [.ref iq, .int L])), (iq, .inl (cB, n, .inl f))]) hP hD [1, 2] [0] rfl rfl (by decide +kernel) (by decide +kernel) hk1 hFc hP1 hD1
  clear hPc hDc hFc hP1 hD1 hk1 hz1 hkc hks
  generalize H1 = H at hP hS ⊢
  have hP : va_P D CL [(h0, .inr (7, [.ref im, .ref pr, .ref ra, .int cn, .int vw, .int wr])), (im, .inr (1, [.ref iq, .int L])), (iq, .inl (cB, n, .inl f))] H := hP
  have hD : va_D A [(h0, .inr (7, [.ref im, .ref pr, .ref ra, .int cn, .int vw, .int wr])), (im, .inr (1, [.ref iq, .int L])), (iq, .inl (cB, n, .inl f))] := hD
  try dsimp only at hp_r1
  obtain ⟨hr_2, hv_3⟩ := hp_r1
  refine lv_istore_n hx hb d_Reader_isRecord_8 rfl hl (by decide) rfl (fun ls hl => ?_)
  have hl : lv_has ls 8 [(2, .int r1), (0, .ref h0), (1, .int x)] := hl
  refine lv_aload_n hx hb d_Reader_isRecord_9 rfl (lv_at hl 1 rfl) ?_
  refine va_get (D := D) (ci := 7) (v := .ref im) (C := "DiscMaker$Reader") (T := F_Reader) (N := 6) hx hb ht9 in_Reader hown hK hP 0 rfl rfl 0 (by decide) (ht9 _ k412) (fun _ h9 => h9) rfl d_Reader_isRecord_10 ?_
  refine lv_iload_n hx hb d_Reader_isRecord_13 rfl (lv_at hl 2 rfl) ?_
  refine lv_bipush (v := 32) hx hb d_Reader_isRecord_14 (by decide) ?_
  refine lv_iadd hx hb d_Reader_isRecord_16 ?_
  refine lv_topi (fun v4 e_v4 => ?_)
  have t_v4 : v4.toInt = x.toInt + 32 := by rw [e_v4]; exact i_add rfl (by decide) (by omega) (by omega)
  have hPc := hP.sub (ws' := [(im, .inr (1, [.ref iq, .int L])), (iq, .inl (cB, n, .inl f))]) [1, 2] rfl
  have hDc := hD.sub (ws' := [(im, .inr (1, [.ref iq, .int L])), (iq, .inl (cB, n, .inl f))]) [1, 2] (by decide +kernel) rfl
  have hFc := va_free (wc := [(im, .inr (1, [.ref iq, .int L])), (iq, .inl (cB, n, .inl f))]) hD hS hA [1, 2] rfl
  have hkc : 0 ≤ 0 := by decide
  have hks : 0 ≤ 0 := by decide
  refine va_calli (va_runV (C := "DiscMaker$Bytes") (As := [.int v4]) (rest := []) ⟨hx, hb, hml, hown, hts⟩ (c3_at l D cB cI cJ cZ cN cF H.size im iq n L f v4 (by (try dsimp only); first | assumption | omega | trivial) (by (try dsimp only); first | assumption | omega | trivial)) (cwV 1 hts (lg_goodV k1179 k1065 k1066 k119 kc_Bytes_at) rfl rfl rfl (by decide +kernel) ⟨Nat.le_of_ble_eq_true rfl, Nat.le_of_ble_eq_true rfl⟩) ⟨fun a U g mk q => by obtain ⟨q0, q1, qP, qK, qN, qD⟩ := q; exact ⟨q0, q1, qP, va_K.moved (u := U) (U := U.calling g mk a) (Vm.Alike.refl U.vm) qK, qN.calling, qD⟩, va_recv hK hP (ci := 1) (q0 := 1) rfl rfl, fun U hU hW => ⟨rfl, by rw [hU], by rw [hU]; exact hPc, va_K.moved hW.alike hK, NN.warm hW hN, hDc.weaken (fun _ _ _ _ => trivial)⟩⟩ rfl rfl hl.1 rfl (lv_room (Nat.le_of_ble_eq_true rfl)) d_Reader_isRecord_17 ⟨hkc, hks⟩) hS (fun q _ h => hFc q h) hFc (fun r5 u t H1 locs ht hvm hp_r5 hB hz1 hk1 hS => ?_)
  obtain ⟨hP1, hD1⟩ := hB
  rw [ht] at hP1
  obtain ⟨hP, hD⟩ := va_join (wr := [(h0, .inr (7, [.ref im, .ref pr, .ref ra, .int cn, .int vw, .int wr]))]) (w1 := [(im, .inr (1, [.ref iq, .int L])), (iq, .inl (cB, n, .inl f))]) hP hD [1, 2] [0] rfl rfl (by decide +kernel) (by decide +kernel) hk1 hFc hP1 hD1
  clear hPc hDc hFc hP1 hD1 hk1 hz1 hkc hks
  generalize H1 = H at hP hS ⊢
  have hP : va_P D CL [(h0, .inr (7, [.ref im, .ref pr, .ref ra, .int cn, .int vw, .int wr])), (im, .inr (1, [.ref iq, .int L])), (iq, .inl (cB, n, .inl f))] H := hP
  have hD : va_D A [(h0, .inr (7, [.ref im, .ref pr, .ref ra, .int cn, .int vw, .int wr])), (im, .inr (1, [.ref iq, .int L])), (iq, .inl (cB, n, .inl f))] := hD
  try dsimp only at hp_r5
  obtain ⟨hr_6, hv_7⟩ := hp_r5
  refine lv_istore_n hx hb d_Reader_isRecord_20 rfl hl (by decide) rfl (fun ls hl => ?_)
  have hl : lv_has ls 8 [(3, .int r5), (2, .int r1), (0, .ref h0), (1, .int x)] := hl
  refine lv_iload_n hx hb d_Reader_isRecord_21 rfl (lv_at hl 1 rfl) ?_
  refine lv_bipush (v := 34) hx hb d_Reader_isRecord_22 (by decide) ?_
  refine lv_icmp_lt (tgt := 53) hx hb d_Reader_isRecord_24 (by decide) (fun h_9 => ?_) (fun h_9 => ?_)
  · skip
    have g24_15 : r1.toInt < 34 := (i_lt rfl (by decide)).mp h_9
    refine lv_iconst (v := 0) hx hb d_Reader_isRecord_53 (by decide) ?_
    have hP9 := hP.sub (ws' := [(h0, .inr (7, [.ref im, .ref pr, .ref ra, .int cn, .int vw, .int wr])), (im, .inr (1, [.ref iq, .int L])), (iq, .inl (cB, n, .inl f))]) [0, 1, 2] rfl
    have hD9 := hD.sub (ws' := [(h0, .inr (7, [.ref im, .ref pr, .ref ra, .int cn, .int vw, .int wr])), (im, .inr (1, [.ref iq, .int L])), (iq, .inl (cB, n, .inl f))]) [0, 1, 2] (by decide +kernel) rfl
    exact W.zret (v := 0) hx hb hr (by first | rfl | decide | exact i_narZ (by omega)) (fun t ht hW => ⟨⟨0, (), rfl, ⟨(by (try dsimp only); first | assumption | omega | trivial), (by (try dsimp only); intro h7; first | (exfalso; omega) | (unfold RecC; intro h8; omega))⟩, by rw [ht]; exact hP9, hD9⟩, hS.F ht⟩) hS.2.2 d_Reader_isRecord_54
  · skip
    have g24_15 : ¬ r1.toInt < 34 := fun h8 => h_9 ((i_lt rfl (by decide)).mpr h8)
    refine lv_iload_n hx hb d_Reader_isRecord_27 rfl (lv_at hl 3 rfl) ?_
    refine lv_sipush (v := 2048) hx hb d_Reader_isRecord_28 (by decide) ?_
    refine lv_irem hx hb d_Reader_isRecord_31 (by decide) ?_
    refine lv_topi (fun v8 e_v8 => ?_)
    have t_v8 : v8.toInt = x.toInt % 2048 := by rw [e_v8]; exact i_rem rfl (by decide) (by omega) (by omega)
    refine lv_iload_n hx hb d_Reader_isRecord_32 rfl (lv_at hl 1 rfl) ?_
    refine lv_iadd hx hb d_Reader_isRecord_33 ?_
    refine lv_topi (fun v9 e_v9 => ?_)
    have t_v9 : v9.toInt = v8.toInt + r1.toInt := by rw [e_v9]; exact i_add rfl rfl (by omega) (by omega)
    refine lv_sipush (v := 2048) hx hb d_Reader_isRecord_34 (by decide) ?_
    refine lv_icmp_gt (tgt := 53) hx hb d_Reader_isRecord_37 (by decide) (fun h_9 => ?_) (fun h_9 => ?_)
    · skip
      have g37_24 : 2048 < v9.toInt := (i_lt (by decide) rfl).mp h_9
      refine lv_iconst (v := 0) hx hb d_Reader_isRecord_53 (by decide) ?_
      have hP9 := hP.sub (ws' := [(h0, .inr (7, [.ref im, .ref pr, .ref ra, .int cn, .int vw, .int wr])), (im, .inr (1, [.ref iq, .int L])), (iq, .inl (cB, n, .inl f))]) [0, 1, 2] rfl
      have hD9 := hD.sub (ws' := [(h0, .inr (7, [.ref im, .ref pr, .ref ra, .int cn, .int vw, .int wr])), (im, .inr (1, [.ref iq, .int L])), (iq, .inl (cB, n, .inl f))]) [0, 1, 2] (by decide +kernel) rfl
      exact W.zret (v := 0) hx hb hr (by first | rfl | decide | exact i_narZ (by omega)) (fun t ht hW => ⟨⟨0, (), rfl, ⟨(by (try dsimp only); first | assumption | omega | trivial), (by (try dsimp only); intro h7; first | (exfalso; omega) | (unfold RecC; intro h8; omega))⟩, by rw [ht]; exact hP9, hD9⟩, hS.F ht⟩) hS.2.2 d_Reader_isRecord_54
    · skip
      have g37_24 : ¬ 2048 < v9.toInt := fun h8 => h_9 ((i_lt (by decide) rfl).mpr h8)
      refine lv_iload_n hx hb d_Reader_isRecord_40 rfl (lv_at hl 0 rfl) ?_
      refine lv_iconst (v := 1) hx hb d_Reader_isRecord_41 (by decide) ?_
      refine lv_icmp_lt (tgt := 53) hx hb d_Reader_isRecord_42 (by decide) (fun h_9 => ?_) (fun h_9 => ?_)
      · skip
        have g42_29 : r5.toInt < 1 := (i_lt rfl (by decide)).mp h_9
        refine lv_iconst (v := 0) hx hb d_Reader_isRecord_53 (by decide) ?_
        have hP9 := hP.sub (ws' := [(h0, .inr (7, [.ref im, .ref pr, .ref ra, .int cn, .int vw, .int wr])), (im, .inr (1, [.ref iq, .int L])), (iq, .inl (cB, n, .inl f))]) [0, 1, 2] rfl
        have hD9 := hD.sub (ws' := [(h0, .inr (7, [.ref im, .ref pr, .ref ra, .int cn, .int vw, .int wr])), (im, .inr (1, [.ref iq, .int L])), (iq, .inl (cB, n, .inl f))]) [0, 1, 2] (by decide +kernel) rfl
        exact W.zret (v := 0) hx hb hr (by first | rfl | decide | exact i_narZ (by omega)) (fun t ht hW => ⟨⟨0, (), rfl, ⟨(by (try dsimp only); first | assumption | omega | trivial), (by (try dsimp only); intro h7; first | (exfalso; omega) | (unfold RecC; intro h8; omega))⟩, by rw [ht]; exact hP9, hD9⟩, hS.F ht⟩) hS.2.2 d_Reader_isRecord_54
      · skip
        have g42_29 : ¬ r5.toInt < 1 := fun h8 => h_9 ((i_lt rfl (by decide)).mpr h8)
        refine lv_iload_n hx hb d_Reader_isRecord_45 rfl (lv_at hl 1 rfl) ?_
        refine lv_bipush (v := 33) hx hb d_Reader_isRecord_46 (by decide) ?_
        refine lv_iload_n hx hb d_Reader_isRecord_48 rfl (lv_at hl 0 rfl) ?_
        refine lv_iadd hx hb d_Reader_isRecord_49 ?_
        refine lv_topi (fun v10 e_v10 => ?_)
        have t_v10 : v10.toInt = 33 + r5.toInt := by rw [e_v10]; exact i_add (by decide) rfl (by omega) (by omega)
        refine lv_icmp_ge (tgt := 55) hx hb d_Reader_isRecord_50 (by decide) (fun h_9 => ?_) (fun h_9 => ?_)
        · skip
          have g50_36 : v10.toInt ≤ r1.toInt := (i_le rfl rfl).mp h_9
          refine lv_aload_n hx hb d_Reader_isRecord_55 rfl (lv_at hl 2 rfl) ?_
          refine va_get (D := D) (ci := 7) (v := .ref im) (C := "DiscMaker$Reader") (T := F_Reader) (N := 6) hx hb ht9 in_Reader hown hK hP 0 rfl rfl 0 (by decide) (ht9 _ k412) (fun _ h9 => h9) rfl d_Reader_isRecord_56 ?_
          refine lv_iload_n hx hb d_Reader_isRecord_59 rfl (lv_at hl 3 rfl) ?_
          refine lv_iconst (v := 2) hx hb d_Reader_isRecord_60 (by decide) ?_
          refine lv_iadd hx hb d_Reader_isRecord_61 ?_
          refine lv_topi (fun v11 e_v11 => ?_)
          have t_v11 : v11.toInt = x.toInt + 2 := by rw [e_v11]; exact i_add rfl (by decide) (by omega) (by omega)
          refine lv_iconst (v := 4) hx hb d_Reader_isRecord_62 (by decide) ?_
          have hPc := hP.sub (ws' := [(im, .inr (1, [.ref iq, .int L])), (iq, .inl (cB, n, .inl f))]) [1, 2] rfl
          have hDc := hD.sub (ws' := [(im, .inr (1, [.ref iq, .int L])), (iq, .inl (cB, n, .inl f))]) [1, 2] (by decide +kernel) rfl
          have hFc := va_free (wc := [(im, .inr (1, [.ref iq, .int L])), (iq, .inl (cB, n, .inl f))]) hD hS hA [1, 2] rfl
          have hkc : 0 ≤ 0 := by decide
          have hks : 0 ≤ 0 := by decide
          refine va_calli (va_runV (C := "DiscMaker$Bytes") (As := [.int v11, .int 4]) (rest := []) ⟨hx, hb, hml, hown, hts⟩ (c3_halvesAgree l D cB cI cJ cZ cN cF H.size im iq n L f v11 4 (by (try dsimp only); first | assumption | omega | trivial) (by (try dsimp only); first | assumption | omega | trivial) (by (try dsimp only); first | assumption | omega | trivial) (by (try dsimp only); first | assumption | omega | trivial)) (cwV 2 hts (lg_goodV k1193 k1194 k1195 k119 kc_Bytes_halvesAgree) rfl rfl rfl (by decide +kernel) ⟨Nat.le_of_ble_eq_true rfl, Nat.le_of_ble_eq_true rfl⟩) ⟨fun a U g mk q => by obtain ⟨q0, q1, qP, qK, qN, qD⟩ := q; exact ⟨q0, q1, qP, va_K.moved (u := U) (U := U.calling g mk a) (Vm.Alike.refl U.vm) qK, qN.calling, qD⟩, va_recv hK hP (ci := 1) (q0 := 1) rfl rfl, fun U hU hW => ⟨rfl, by rw [hU], by rw [hU]; exact hPc, va_K.moved hW.alike hK, NN.warm hW hN, hDc.weaken (fun _ _ _ _ => trivial)⟩⟩ rfl rfl hl.1 rfl (lv_room (Nat.le_of_ble_eq_true rfl)) d_Reader_isRecord_63 ⟨hkc, hks⟩) hS (fun q _ h => hFc q h) hFc (fun r12 u t H1 locs ht hvm hp_r12 hB hz1 hk1 hS => ?_)
          obtain ⟨hP1, hD1⟩ := hB
          rw [ht] at hP1
          obtain ⟨hP, hD⟩ := va_join (wr := [(h0, .inr (7, [.ref im, .ref pr, .ref ra, .int cn, .int vw, .int wr]))]) (w1 := [(im, .inr (1, [.ref iq, .int L])), (iq, .inl (cB, n, .inl f))]) hP hD [1, 2] [0] rfl rfl (by decide +kernel) (by decide +kernel) hk1 hFc hP1 hD1
          clear hPc hDc hFc hP1 hD1 hk1 hz1 hkc hks
          generalize H1 = H at hP hS ⊢
          have hP : va_P D CL [(h0, .inr (7, [.ref im, .ref pr, .ref ra, .int cn, .int vw, .int wr])), (im, .inr (1, [.ref iq, .int L])), (iq, .inl (cB, n, .inl f))] H := hP
          have hD : va_D A [(h0, .inr (7, [.ref im, .ref pr, .ref ra, .int cn, .int vw, .int wr])), (im, .inr (1, [.ref iq, .int L])), (iq, .inl (cB, n, .inl f))] := hD
          try dsimp only at hp_r12
          have hr_13 := hp_r12
          refine lv_if_eq (tgt := 99) hx hb d_Reader_isRecord_66 (by decide) (fun h_9 => ?_) (fun h_9 => ?_)
          · skip
            have g66_44 : r12.toInt = 0 := (i_eq rfl (by decide)).mp h_9
            refine lv_iconst (v := 0) hx hb d_Reader_isRecord_99 (by decide) ?_
            have hP9 := hP.sub (ws' := [(h0, .inr (7, [.ref im, .ref pr, .ref ra, .int cn, .int vw, .int wr])), (im, .inr (1, [.ref iq, .int L])), (iq, .inl (cB, n, .inl f))]) [0, 1, 2] rfl
            have hD9 := hD.sub (ws' := [(h0, .inr (7, [.ref im, .ref pr, .ref ra, .int cn, .int vw, .int wr])), (im, .inr (1, [.ref iq, .int L])), (iq, .inl (cB, n, .inl f))]) [0, 1, 2] (by decide +kernel) rfl
            exact W.zret (v := 0) hx hb hr (by first | rfl | decide | exact i_narZ (by omega)) (fun t ht hW => ⟨⟨0, (), rfl, ⟨(by (try dsimp only); first | assumption | omega | trivial), (by (try dsimp only); intro h7; first | (exfalso; omega) | (unfold RecC; intro h8; omega))⟩, by rw [ht]; exact hP9, hD9⟩, hS.F ht⟩) hS.2.2 d_Reader_isRecord_100
          · skip
            have g66_44 : ¬ r12.toInt = 0 := fun h8 => h_9 ((i_eq rfl (by decide)).mpr h8)
            refine lv_aload_n hx hb d_Reader_isRecord_69 rfl (lv_at hl 2 rfl) ?_
            refine va_get (D := D) (ci := 7) (v := .ref im) (C := "DiscMaker$Reader") (T := F_Reader) (N := 6) hx hb ht9 in_Reader hown hK hP 0 rfl rfl 0 (by decide) (ht9 _ k412) (fun _ h9 => h9) rfl d_Reader_isRecord_70 ?_
            refine lv_iload_n hx hb d_Reader_isRecord_73 rfl (lv_at hl 3 rfl) ?_
            refine lv_bipush (v := 10) hx hb d_Reader_isRecord_74 (by decide) ?_
            refine lv_iadd hx hb d_Reader_isRecord_76 ?_
            refine lv_topi (fun v14 e_v14 => ?_)
            have t_v14 : v14.toInt = x.toInt + 10 := by rw [e_v14]; exact i_add rfl (by decide) (by omega) (by omega)
            refine lv_iconst (v := 4) hx hb d_Reader_isRecord_77 (by decide) ?_
            have hPc := hP.sub (ws' := [(im, .inr (1, [.ref iq, .int L])), (iq, .inl (cB, n, .inl f))]) [1, 2] rfl
            have hDc := hD.sub (ws' := [(im, .inr (1, [.ref iq, .int L])), (iq, .inl (cB, n, .inl f))]) [1, 2] (by decide +kernel) rfl
            have hFc := va_free (wc := [(im, .inr (1, [.ref iq, .int L])), (iq, .inl (cB, n, .inl f))]) hD hS hA [1, 2] rfl
            have hkc : 0 ≤ 0 := by decide
            have hks : 0 ≤ 0 := by decide
            refine va_calli (va_runV (C := "DiscMaker$Bytes") (As := [.int v14, .int 4]) (rest := []) ⟨hx, hb, hml, hown, hts⟩ (c3_halvesAgree l D cB cI cJ cZ cN cF H.size im iq n L f v14 4 (by (try dsimp only); first | assumption | omega | trivial) (by (try dsimp only); first | assumption | omega | trivial) (by (try dsimp only); first | assumption | omega | trivial) (by (try dsimp only); first | assumption | omega | trivial)) (cwV 2 hts (lg_goodV k1193 k1194 k1195 k119 kc_Bytes_halvesAgree) rfl rfl rfl (by decide +kernel) ⟨Nat.le_of_ble_eq_true rfl, Nat.le_of_ble_eq_true rfl⟩) ⟨fun a U g mk q => by obtain ⟨q0, q1, qP, qK, qN, qD⟩ := q; exact ⟨q0, q1, qP, va_K.moved (u := U) (U := U.calling g mk a) (Vm.Alike.refl U.vm) qK, qN.calling, qD⟩, va_recv hK hP (ci := 1) (q0 := 1) rfl rfl, fun U hU hW => ⟨rfl, by rw [hU], by rw [hU]; exact hPc, va_K.moved hW.alike hK, NN.warm hW hN, hDc.weaken (fun _ _ _ _ => trivial)⟩⟩ rfl rfl hl.1 rfl (lv_room (Nat.le_of_ble_eq_true rfl)) d_Reader_isRecord_78 ⟨hkc, hks⟩) hS (fun q _ h => hFc q h) hFc (fun r15 u t H1 locs ht hvm hp_r15 hB hz1 hk1 hS => ?_)
            obtain ⟨hP1, hD1⟩ := hB
            rw [ht] at hP1
            obtain ⟨hP, hD⟩ := va_join (wr := [(h0, .inr (7, [.ref im, .ref pr, .ref ra, .int cn, .int vw, .int wr]))]) (w1 := [(im, .inr (1, [.ref iq, .int L])), (iq, .inl (cB, n, .inl f))]) hP hD [1, 2] [0] rfl rfl (by decide +kernel) (by decide +kernel) hk1 hFc hP1 hD1
            clear hPc hDc hFc hP1 hD1 hk1 hz1 hkc hks
            generalize H1 = H at hP hS ⊢
            have hP : va_P D CL [(h0, .inr (7, [.ref im, .ref pr, .ref ra, .int cn, .int vw, .int wr])), (im, .inr (1, [.ref iq, .int L])), (iq, .inl (cB, n, .inl f))] H := hP
            have hD : va_D A [(h0, .inr (7, [.ref im, .ref pr, .ref ra, .int cn, .int vw, .int wr])), (im, .inr (1, [.ref iq, .int L])), (iq, .inl (cB, n, .inl f))] := hD
            try dsimp only at hp_r15
            have hr_16 := hp_r15
            refine lv_if_eq (tgt := 99) hx hb d_Reader_isRecord_81 (by decide) (fun h_9 => ?_) (fun h_9 => ?_)
            · skip
              have g81_54 : r15.toInt = 0 := (i_eq rfl (by decide)).mp h_9
              refine lv_iconst (v := 0) hx hb d_Reader_isRecord_99 (by decide) ?_
              have hP9 := hP.sub (ws' := [(h0, .inr (7, [.ref im, .ref pr, .ref ra, .int cn, .int vw, .int wr])), (im, .inr (1, [.ref iq, .int L])), (iq, .inl (cB, n, .inl f))]) [0, 1, 2] rfl
              have hD9 := hD.sub (ws' := [(h0, .inr (7, [.ref im, .ref pr, .ref ra, .int cn, .int vw, .int wr])), (im, .inr (1, [.ref iq, .int L])), (iq, .inl (cB, n, .inl f))]) [0, 1, 2] (by decide +kernel) rfl
              exact W.zret (v := 0) hx hb hr (by first | rfl | decide | exact i_narZ (by omega)) (fun t ht hW => ⟨⟨0, (), rfl, ⟨(by (try dsimp only); first | assumption | omega | trivial), (by (try dsimp only); intro h7; first | (exfalso; omega) | (unfold RecC; intro h8; omega))⟩, by rw [ht]; exact hP9, hD9⟩, hS.F ht⟩) hS.2.2 d_Reader_isRecord_100
            · skip
              have g81_54 : ¬ r15.toInt = 0 := fun h8 => h_9 ((i_eq rfl (by decide)).mpr h8)
              refine lv_aload_n hx hb d_Reader_isRecord_84 rfl (lv_at hl 2 rfl) ?_
              refine va_get (D := D) (ci := 7) (v := .ref im) (C := "DiscMaker$Reader") (T := F_Reader) (N := 6) hx hb ht9 in_Reader hown hK hP 0 rfl rfl 0 (by decide) (ht9 _ k412) (fun _ h9 => h9) rfl d_Reader_isRecord_85 ?_
              refine lv_iload_n hx hb d_Reader_isRecord_88 rfl (lv_at hl 3 rfl) ?_
              refine lv_bipush (v := 28) hx hb d_Reader_isRecord_89 (by decide) ?_
              refine lv_iadd hx hb d_Reader_isRecord_91 ?_
              refine lv_topi (fun v17 e_v17 => ?_)
              have t_v17 : v17.toInt = x.toInt + 28 := by rw [e_v17]; exact i_add rfl (by decide) (by omega) (by omega)
              refine lv_iconst (v := 2) hx hb d_Reader_isRecord_92 (by decide) ?_
              have hPc := hP.sub (ws' := [(im, .inr (1, [.ref iq, .int L])), (iq, .inl (cB, n, .inl f))]) [1, 2] rfl
              have hDc := hD.sub (ws' := [(im, .inr (1, [.ref iq, .int L])), (iq, .inl (cB, n, .inl f))]) [1, 2] (by decide +kernel) rfl
              have hFc := va_free (wc := [(im, .inr (1, [.ref iq, .int L])), (iq, .inl (cB, n, .inl f))]) hD hS hA [1, 2] rfl
              have hkc : 0 ≤ 0 := by decide
              have hks : 0 ≤ 0 := by decide
              refine va_calli (va_runV (C := "DiscMaker$Bytes") (As := [.int v17, .int 2]) (rest := []) ⟨hx, hb, hml, hown, hts⟩ (c3_halvesAgree l D cB cI cJ cZ cN cF H.size im iq n L f v17 2 (by (try dsimp only); first | assumption | omega | trivial) (by (try dsimp only); first | assumption | omega | trivial) (by (try dsimp only); first | assumption | omega | trivial) (by (try dsimp only); first | assumption | omega | trivial)) (cwV 2 hts (lg_goodV k1193 k1194 k1195 k119 kc_Bytes_halvesAgree) rfl rfl rfl (by decide +kernel) ⟨Nat.le_of_ble_eq_true rfl, Nat.le_of_ble_eq_true rfl⟩) ⟨fun a U g mk q => by obtain ⟨q0, q1, qP, qK, qN, qD⟩ := q; exact ⟨q0, q1, qP, va_K.moved (u := U) (U := U.calling g mk a) (Vm.Alike.refl U.vm) qK, qN.calling, qD⟩, va_recv hK hP (ci := 1) (q0 := 1) rfl rfl, fun U hU hW => ⟨rfl, by rw [hU], by rw [hU]; exact hPc, va_K.moved hW.alike hK, NN.warm hW hN, hDc.weaken (fun _ _ _ _ => trivial)⟩⟩ rfl rfl hl.1 rfl (lv_room (Nat.le_of_ble_eq_true rfl)) d_Reader_isRecord_93 ⟨hkc, hks⟩) hS (fun q _ h => hFc q h) hFc (fun r18 u t H1 locs ht hvm hp_r18 hB hz1 hk1 hS => ?_)
              obtain ⟨hP1, hD1⟩ := hB
              rw [ht] at hP1
              obtain ⟨hP, hD⟩ := va_join (wr := [(h0, .inr (7, [.ref im, .ref pr, .ref ra, .int cn, .int vw, .int wr]))]) (w1 := [(im, .inr (1, [.ref iq, .int L])), (iq, .inl (cB, n, .inl f))]) hP hD [1, 2] [0] rfl rfl (by decide +kernel) (by decide +kernel) hk1 hFc hP1 hD1
              clear hPc hDc hFc hP1 hD1 hk1 hz1 hkc hks
              generalize H1 = H at hP hS ⊢
              have hP : va_P D CL [(h0, .inr (7, [.ref im, .ref pr, .ref ra, .int cn, .int vw, .int wr])), (im, .inr (1, [.ref iq, .int L])), (iq, .inl (cB, n, .inl f))] H := hP
              have hD : va_D A [(h0, .inr (7, [.ref im, .ref pr, .ref ra, .int cn, .int vw, .int wr])), (im, .inr (1, [.ref iq, .int L])), (iq, .inl (cB, n, .inl f))] := hD
              try dsimp only at hp_r18
              have hr_19 := hp_r18
              refine lv_if_ne (tgt := 101) hx hb d_Reader_isRecord_96 (by decide) (fun h_9 => ?_) (fun h_9 => ?_)
              · skip
                have g96_64 : ¬ r18.toInt = 0 := fun h8 => h_9 ((i_eq rfl (by decide)).mpr h8)
                refine lv_aload_n hx hb d_Reader_isRecord_101 rfl (lv_at hl 2 rfl) ?_
                refine lv_iload_n hx hb d_Reader_isRecord_102 rfl (lv_at hl 3 rfl) ?_
                have hPc := hP.sub (ws' := [(h0, .inr (7, [.ref im, .ref pr, .ref ra, .int cn, .int vw, .int wr])), (im, .inr (1, [.ref iq, .int L])), (iq, .inl (cB, n, .inl f))]) [0, 1, 2] rfl
                have hDc := hD.sub (ws' := [(h0, .inr (7, [.ref im, .ref pr, .ref ra, .int cn, .int vw, .int wr])), (im, .inr (1, [.ref iq, .int L])), (iq, .inl (cB, n, .inl f))]) [0, 1, 2] (by decide +kernel) rfl
                have hFc := va_free (wc := [(h0, .inr (7, [.ref im, .ref pr, .ref ra, .int cn, .int vw, .int wr])), (im, .inr (1, [.ref iq, .int L])), (iq, .inl (cB, n, .inl f))]) hD hS hA [0, 1, 2] rfl
                have hkc : 0 ≤ 0 := by decide
                have hks : 0 ≤ 0 := by decide
                refine va_calli (va_runV (C := "DiscMaker$Reader") (As := [.int x]) (rest := []) ⟨hx, hb, hml, hown, hts⟩ (c3_sizeAt l D cB cI cJ cZ cN cF H.size h0 pr ra im iq n L f cn vw wr x (by (try dsimp only); first | assumption | omega | trivial) (by (try dsimp only); first | assumption | omega | trivial) (by (try dsimp only); first | assumption | omega | trivial)) (cwV 1 hts (lg_goodV k1201 k1203 k35 k123 kc_Reader_sizeAt) rfl rfl rfl (by decide +kernel) ⟨Nat.le_of_ble_eq_true rfl, Nat.le_of_ble_eq_true rfl⟩) ⟨fun a U g mk q => by obtain ⟨q0, q1, qP, qK, qN, qD⟩ := q; exact ⟨q0, q1, qP, va_K.moved (u := U) (U := U.calling g mk a) (Vm.Alike.refl U.vm) qK, qN.calling, qD⟩, va_recv hK hP (ci := 7) (q0 := 0) rfl rfl, fun U hU hW => ⟨rfl, by rw [hU], by rw [hU]; exact hPc, va_K.moved hW.alike hK, NN.warm hW hN, hDc.weaken (fun _ _ _ _ => trivial)⟩⟩ rfl rfl hl.1 rfl (lv_room (Nat.le_of_ble_eq_true rfl)) d_Reader_isRecord_103 ⟨hkc, hks⟩) hS (fun q _ h => hFc q h) hFc (fun r20 u t H1 locs ht hvm hp_r20 hB hz1 hk1 hS => ?_)
                obtain ⟨hP1, hD1⟩ := hB
                rw [ht] at hP1
                obtain ⟨hP, hD⟩ := va_join (wr := []) (w1 := [(h0, .inr (7, [.ref im, .ref pr, .ref ra, .int cn, .int vw, .int wr])), (im, .inr (1, [.ref iq, .int L])), (iq, .inl (cB, n, .inl f))]) hP hD [0, 1, 2] [] rfl rfl (by decide +kernel) (by decide +kernel) hk1 hFc hP1 hD1
                clear hPc hDc hFc hP1 hD1 hk1 hz1 hkc hks
                generalize H1 = H at hP hS ⊢
                have hP : va_P D CL [(h0, .inr (7, [.ref im, .ref pr, .ref ra, .int cn, .int vw, .int wr])), (im, .inr (1, [.ref iq, .int L])), (iq, .inl (cB, n, .inl f))] H := hP
                have hD : va_D A [(h0, .inr (7, [.ref im, .ref pr, .ref ra, .int cn, .int vw, .int wr])), (im, .inr (1, [.ref iq, .int L])), (iq, .inl (cB, n, .inl f))] := hD
                try dsimp only at hp_r20
                have hv_21 := hp_r20
                have qr20 : r20.toInt = (low4B f L (x + 10)).toInt := by rw [hv_21]
                refine lv_i2l hx hb d_Reader_isRecord_106 rfl ?_
                refine lv_topl (fun w22 e_w22 => ?_)
                have t_w22 : w22.toInt = r20.toInt ∧ (-2147483648) ≤ r20.toInt ∧ r20.toInt ≤ 2147483647 := by rw [e_w22]; exact ⟨l_i rfl, i_rng _⟩
                refine lv_lstore hx hb d_Reader_isRecord_107 hl (by decide) rfl (fun ls hl => ?_)
                have hl : lv_has ls 8 [(4, .long w22), (3, .int r5), (2, .int r1), (0, .ref h0), (1, .int x)] := hl
                refine lv_aload_n hx hb d_Reader_isRecord_109 rfl (lv_at hl 3 rfl) ?_
                refine lv_iload_n hx hb d_Reader_isRecord_110 rfl (lv_at hl 4 rfl) ?_
                have hPc := hP.sub (ws' := [(h0, .inr (7, [.ref im, .ref pr, .ref ra, .int cn, .int vw, .int wr])), (im, .inr (1, [.ref iq, .int L])), (iq, .inl (cB, n, .inl f))]) [0, 1, 2] rfl
                have hDc := hD.sub (ws' := [(h0, .inr (7, [.ref im, .ref pr, .ref ra, .int cn, .int vw, .int wr])), (im, .inr (1, [.ref iq, .int L])), (iq, .inl (cB, n, .inl f))]) [0, 1, 2] (by decide +kernel) rfl
                have hFc := va_free (wc := [(h0, .inr (7, [.ref im, .ref pr, .ref ra, .int cn, .int vw, .int wr])), (im, .inr (1, [.ref iq, .int L])), (iq, .inl (cB, n, .inl f))]) hD hS hA [0, 1, 2] rfl
                have hkc : 0 ≤ 0 := by decide
                have hks : 0 ≤ 0 := by decide
                refine va_calli (va_runV (C := "DiscMaker$Reader") (As := [.int x]) (rest := []) ⟨hx, hb, hml, hown, hts⟩ (c3_sectorAt l D cB cI cJ cZ cN cF H.size h0 pr ra im iq n L f cn vw wr x (by (try dsimp only); first | assumption | omega | trivial) (by (try dsimp only); first | assumption | omega | trivial) (by (try dsimp only); first | assumption | omega | trivial)) (cwV 1 hts (lg_goodV k1205 k1207 k36 k123 kc_Reader_sectorAt) rfl rfl rfl (by decide +kernel) ⟨Nat.le_of_ble_eq_true rfl, Nat.le_of_ble_eq_true rfl⟩) ⟨fun a U g mk q => by obtain ⟨q0, q1, qP, qK, qN, qD⟩ := q; exact ⟨q0, q1, qP, va_K.moved (u := U) (U := U.calling g mk a) (Vm.Alike.refl U.vm) qK, qN.calling, qD⟩, va_recv hK hP (ci := 7) (q0 := 0) rfl rfl, fun U hU hW => ⟨rfl, by rw [hU], by rw [hU]; exact hPc, va_K.moved hW.alike hK, NN.warm hW hN, hDc.weaken (fun _ _ _ _ => trivial)⟩⟩ rfl rfl hl.1 rfl (lv_room (Nat.le_of_ble_eq_true rfl)) d_Reader_isRecord_111 ⟨hkc, hks⟩) hS (fun q _ h => hFc q h) hFc (fun r23 u t H1 locs ht hvm hp_r23 hB hz1 hk1 hS => ?_)
                obtain ⟨hP1, hD1⟩ := hB
                rw [ht] at hP1
                obtain ⟨hP, hD⟩ := va_join (wr := []) (w1 := [(h0, .inr (7, [.ref im, .ref pr, .ref ra, .int cn, .int vw, .int wr])), (im, .inr (1, [.ref iq, .int L])), (iq, .inl (cB, n, .inl f))]) hP hD [0, 1, 2] [] rfl rfl (by decide +kernel) (by decide +kernel) hk1 hFc hP1 hD1
                clear hPc hDc hFc hP1 hD1 hk1 hz1 hkc hks
                generalize H1 = H at hP hS ⊢
                have hP : va_P D CL [(h0, .inr (7, [.ref im, .ref pr, .ref ra, .int cn, .int vw, .int wr])), (im, .inr (1, [.ref iq, .int L])), (iq, .inl (cB, n, .inl f))] H := hP
                have hD : va_D A [(h0, .inr (7, [.ref im, .ref pr, .ref ra, .int cn, .int vw, .int wr])), (im, .inr (1, [.ref iq, .int L])), (iq, .inl (cB, n, .inl f))] := hD
                try dsimp only at hp_r23
                have hv_24 := hp_r23
                have qr23 : r23.toInt = (low4B f L (x + 2)).toInt := by rw [hv_24]
                refine lv_i2l hx hb d_Reader_isRecord_114 rfl ?_
                refine lv_topl (fun w25 e_w25 => ?_)
                have t_w25 : w25.toInt = r23.toInt ∧ (-2147483648) ≤ r23.toInt ∧ r23.toInt ≤ 2147483647 := by rw [e_w25]; exact ⟨l_i rfl, i_rng _⟩
                refine lv_lstore hx hb d_Reader_isRecord_115 hl (by decide) rfl (fun ls hl => ?_)
                have hl : lv_has ls 8 [(6, .long w25), (4, .long w22), (3, .int r5), (2, .int r1), (0, .ref h0), (1, .int x)] := hl
                refine lv_aload_n hx hb d_Reader_isRecord_117 rfl (lv_at hl 4 rfl) ?_
                refine lv_iload_n hx hb d_Reader_isRecord_118 rfl (lv_at hl 5 rfl) ?_
                have hPc := hP.sub (ws' := [(h0, .inr (7, [.ref im, .ref pr, .ref ra, .int cn, .int vw, .int wr])), (im, .inr (1, [.ref iq, .int L])), (iq, .inl (cB, n, .inl f))]) [0, 1, 2] rfl
                have hDc := hD.sub (ws' := [(h0, .inr (7, [.ref im, .ref pr, .ref ra, .int cn, .int vw, .int wr])), (im, .inr (1, [.ref iq, .int L])), (iq, .inl (cB, n, .inl f))]) [0, 1, 2] (by decide +kernel) rfl
                have hFc := va_free (wc := [(h0, .inr (7, [.ref im, .ref pr, .ref ra, .int cn, .int vw, .int wr])), (im, .inr (1, [.ref iq, .int L])), (iq, .inl (cB, n, .inl f))]) hD hS hA [0, 1, 2] rfl
                have hkc : 0 ≤ 0 := by decide
                have hks : 0 ≤ 0 := by decide
                refine va_calli (va_runV (C := "DiscMaker$Reader") (As := [.int x]) (rest := []) ⟨hx, hb, hml, hown, hts⟩ (c3_isDirectory l D cB cI cJ cZ cN cF H.size h0 pr ra im iq n L f cn vw wr x (by (try dsimp only); first | assumption | omega | trivial) (by (try dsimp only); first | assumption | omega | trivial) (by (try dsimp only); first | assumption | omega | trivial)) (cwV 1 hts (lg_goodV k1209 k1211 k37 k123 kc_Reader_isDirectory) rfl rfl rfl (by decide +kernel) ⟨Nat.le_of_ble_eq_true rfl, Nat.le_of_ble_eq_true rfl⟩) ⟨fun a U g mk q => by obtain ⟨q0, q1, qP, qK, qN, qD⟩ := q; exact ⟨q0, q1, qP, va_K.moved (u := U) (U := U.calling g mk a) (Vm.Alike.refl U.vm) qK, qN.calling, qD⟩, va_recv hK hP (ci := 7) (q0 := 0) rfl rfl, fun U hU hW => ⟨rfl, by rw [hU], by rw [hU]; exact hPc, va_K.moved hW.alike hK, NN.warm hW hN, hDc.weaken (fun _ _ _ _ => trivial)⟩⟩ rfl rfl hl.1 rfl (lv_room (Nat.le_of_ble_eq_true rfl)) d_Reader_isRecord_119 ⟨hkc, hks⟩) hS (fun q _ h => hFc q h) hFc (fun r26 u t H1 locs ht hvm hp_r26 hB hz1 hk1 hS => ?_)
                obtain ⟨hP1, hD1⟩ := hB
                rw [ht] at hP1
                obtain ⟨hP, hD⟩ := va_join (wr := []) (w1 := [(h0, .inr (7, [.ref im, .ref pr, .ref ra, .int cn, .int vw, .int wr])), (im, .inr (1, [.ref iq, .int L])), (iq, .inl (cB, n, .inl f))]) hP hD [0, 1, 2] [] rfl rfl (by decide +kernel) (by decide +kernel) hk1 hFc hP1 hD1
                clear hPc hDc hFc hP1 hD1 hk1 hz1 hkc hks
                generalize H1 = H at hP hS ⊢
                have hP : va_P D CL [(h0, .inr (7, [.ref im, .ref pr, .ref ra, .int cn, .int vw, .int wr])), (im, .inr (1, [.ref iq, .int L])), (iq, .inl (cB, n, .inl f))] H := hP
                have hD : va_D A [(h0, .inr (7, [.ref im, .ref pr, .ref ra, .int cn, .int vw, .int wr])), (im, .inr (1, [.ref iq, .int L])), (iq, .inl (cB, n, .inl f))] := hD
                try dsimp only at hp_r26
                obtain ⟨hr_27, hv_28⟩ := hp_r26
                refine lv_if_eq (tgt := 146) hx hb d_Reader_isRecord_122 (by decide) (fun h_9 => ?_) (fun h_9 => ?_)
                · skip
                  have g122_78 : r26.toInt = 0 := (i_eq rfl (by decide)).mp h_9
                  refine lv_lload hx hb d_Reader_isRecord_146 (lv_at hl 1 rfl) ?_
                  refine lv_lconst (v := 0) hx hb d_Reader_isRecord_148 rfl ?_
                  refine W.lcmp hx hb d_Reader_isRecord_149 ?_
                  refine lv_topi (fun v29 e_v29 => ?_)
                  have t_v29 : (v29.toInt = 1 ∧ 0 < w22.toInt) ∨ (v29.toInt = 0 ∧ w22.toInt = 0) ∨ (v29.toInt = -1 ∧ w22.toInt < 0) := by rw [e_v29]; exact l_cmp rfl (by decide)
                  refine lv_if_ge (tgt := 155) hx hb d_Reader_isRecord_150 (by decide) (fun h_9 => ?_) (fun h_9 => ?_)
                  · skip
                    have g150_82 : 0 ≤ v29.toInt := (i_le (by decide) rfl).mp h_9
                    refine lv_lload hx hb d_Reader_isRecord_155 (lv_at hl 1 rfl) ?_
                    refine lv_lconst (v := 0) hx hb d_Reader_isRecord_157 rfl ?_
                    refine W.lcmp hx hb d_Reader_isRecord_158 ?_
                    refine lv_topi (fun v30 e_v30 => ?_)
                    have t_v30 : (v30.toInt = 1 ∧ 0 < w22.toInt) ∨ (v30.toInt = 0 ∧ w22.toInt = 0) ∨ (v30.toInt = -1 ∧ w22.toInt < 0) := by rw [e_v30]; exact l_cmp rfl (by decide)
                    refine lv_if_eq (tgt := 190) hx hb d_Reader_isRecord_159 (by decide) (fun h_9 => ?_) (fun h_9 => ?_)
                    · skip
                      have g159_86 : v30.toInt = 0 := (i_eq rfl (by decide)).mp h_9
                      refine lv_iconst (v := 1) hx hb d_Reader_isRecord_190 (by decide) ?_
                      refine lv_goto (tgt := 195) hx hb d_Reader_isRecord_191 (by decide) ?_
                      have hP9 := hP.sub (ws' := [(h0, .inr (7, [.ref im, .ref pr, .ref ra, .int cn, .int vw, .int wr])), (im, .inr (1, [.ref iq, .int L])), (iq, .inl (cB, n, .inl f))]) [0, 1, 2] rfl
                      have hD9 := hD.sub (ws' := [(h0, .inr (7, [.ref im, .ref pr, .ref ra, .int cn, .int vw, .int wr])), (im, .inr (1, [.ref iq, .int L])), (iq, .inl (cB, n, .inl f))]) [0, 1, 2] (by decide +kernel) rfl
                      exact W.zret (v := 1) hx hb hr (by first | rfl | decide | exact i_narZ (by omega)) (fun t ht hW => ⟨⟨1, (), rfl, ⟨(by (try dsimp only); first | assumption | omega | trivial), (by (try dsimp only); intro h7; first | (exfalso; omega) | (unfold RecC; intro h8; omega))⟩, by rw [ht]; exact hP9, hD9⟩, hS.F ht⟩) hS.2.2 d_Reader_isRecord_195
                    · skip
                      have g159_86 : ¬ v30.toInt = 0 := fun h8 => h_9 ((i_eq rfl (by decide)).mpr h8)
                      refine lv_lload hx hb d_Reader_isRecord_162 (lv_at hl 0 rfl) ?_
                      refine lv_lconst (v := 0) hx hb d_Reader_isRecord_164 rfl ?_
                      refine W.lcmp hx hb d_Reader_isRecord_165 ?_
                      refine lv_topi (fun v31 e_v31 => ?_)
                      have t_v31 : (v31.toInt = 1 ∧ 0 < w25.toInt) ∨ (v31.toInt = 0 ∧ w25.toInt = 0) ∨ (v31.toInt = -1 ∧ w25.toInt < 0) := by rw [e_v31]; exact l_cmp rfl (by decide)
                      refine lv_if_lt (tgt := 194) hx hb d_Reader_isRecord_166 (by decide) (fun h_9 => ?_) (fun h_9 => ?_)
                      · skip
                        have g166_93 : v31.toInt < 0 := (i_lt rfl (by decide)).mp h_9
                        refine lv_iconst (v := 0) hx hb d_Reader_isRecord_194 (by decide) ?_
                        have hP9 := hP.sub (ws' := [(h0, .inr (7, [.ref im, .ref pr, .ref ra, .int cn, .int vw, .int wr])), (im, .inr (1, [.ref iq, .int L])), (iq, .inl (cB, n, .inl f))]) [0, 1, 2] rfl
                        have hD9 := hD.sub (ws' := [(h0, .inr (7, [.ref im, .ref pr, .ref ra, .int cn, .int vw, .int wr])), (im, .inr (1, [.ref iq, .int L])), (iq, .inl (cB, n, .inl f))]) [0, 1, 2] (by decide +kernel) rfl
                        exact W.zret (v := 0) hx hb hr (by first | rfl | decide | exact i_narZ (by omega)) (fun t ht hW => ⟨⟨0, (), rfl, ⟨(by (try dsimp only); first | assumption | omega | trivial), (by (try dsimp only); intro h7; first | (exfalso; omega) | (unfold RecC; intro h8; omega))⟩, by rw [ht]; exact hP9, hD9⟩, hS.F ht⟩) hS.2.2 d_Reader_isRecord_195
                      · skip
                        have g166_93 : ¬ v31.toInt < 0 := fun h8 => h_9 ((i_lt rfl (by decide)).mpr h8)
                        refine lv_lload hx hb d_Reader_isRecord_169 (lv_at hl 0 rfl) ?_
                        refine lv_ldc2 (v := 2048) hx hb hown (ht9 _ k1213) d_Reader_isRecord_171 ?_
                        refine lv_lmul hx hb d_Reader_isRecord_174 ?_
                        refine lv_topl (fun w32 e_w32 => ?_)
                        have t_w32 : w32.toInt = w25.toInt * 2048 := by rw [e_w32]; exact l_mul rfl (by decide) (by omega) (by omega)
                        refine lv_lload hx hb d_Reader_isRecord_175 (lv_at hl 1 rfl) ?_
                        refine lv_ladd hx hb d_Reader_isRecord_177 ?_
                        refine lv_topl (fun w33 e_w33 => ?_)
                        have t_w33 : w33.toInt = w32.toInt + w22.toInt := by rw [e_w33]; exact l_add rfl rfl (by omega) (by omega)
                        refine lv_aload_n hx hb d_Reader_isRecord_178 rfl (lv_at hl 4 rfl) ?_
                        refine va_get (D := D) (ci := 7) (v := .ref im) (C := "DiscMaker$Reader") (T := F_Reader) (N := 6) hx hb ht9 in_Reader hown hK hP 0 rfl rfl 0 (by decide) (ht9 _ k412) (fun _ h9 => h9) rfl d_Reader_isRecord_179 ?_
                        refine va_getN (D := D) (ci := 1) (v := .int L) (C := "DiscMaker$Bytes") (T := F_Bytes) (N := 2) hx hb ht9 in_Bytes hown hK hP 1 rfl rfl 1 (by decide) (va_Nw.use rfl (hN _ k260)) (fun _ h9 => h9) rfl d_Reader_isRecord_182 ?_
                        refine lv_i2l hx hb d_Reader_isRecord_185 rfl ?_
                        refine lv_topl (fun w34 e_w34 => ?_)
                        have t_w34 : w34.toInt = L.toInt ∧ (-2147483648) ≤ L.toInt ∧ L.toInt ≤ 2147483647 := by rw [e_w34]; exact ⟨l_i rfl, i_rng _⟩
                        refine W.lcmp hx hb d_Reader_isRecord_186 ?_
                        refine lv_topi (fun v35 e_v35 => ?_)
                        have t_v35 : (v35.toInt = 1 ∧ w34.toInt < w33.toInt) ∨ (v35.toInt = 0 ∧ w33.toInt = w34.toInt) ∨ (v35.toInt = -1 ∧ w33.toInt < w34.toInt) := by rw [e_v35]; exact l_cmp rfl rfl
                        refine lv_if_gt (tgt := 194) hx hb d_Reader_isRecord_187 (by decide) (fun h_9 => ?_) (fun h_9 => ?_)
                        · skip
                          have g187_106 : 0 < v35.toInt := (i_lt (by decide) rfl).mp h_9
                          refine lv_iconst (v := 0) hx hb d_Reader_isRecord_194 (by decide) ?_
                          have hP9 := hP.sub (ws' := [(h0, .inr (7, [.ref im, .ref pr, .ref ra, .int cn, .int vw, .int wr])), (im, .inr (1, [.ref iq, .int L])), (iq, .inl (cB, n, .inl f))]) [0, 1, 2] rfl
                          have hD9 := hD.sub (ws' := [(h0, .inr (7, [.ref im, .ref pr, .ref ra, .int cn, .int vw, .int wr])), (im, .inr (1, [.ref iq, .int L])), (iq, .inl (cB, n, .inl f))]) [0, 1, 2] (by decide +kernel) rfl
                          exact W.zret (v := 0) hx hb hr (by first | rfl | decide | exact i_narZ (by omega)) (fun t ht hW => ⟨⟨0, (), rfl, ⟨(by (try dsimp only); first | assumption | omega | trivial), (by (try dsimp only); intro h7; first | (exfalso; omega) | (unfold RecC; intro h8; omega))⟩, by rw [ht]; exact hP9, hD9⟩, hS.F ht⟩) hS.2.2 d_Reader_isRecord_195
                        · skip
                          have g187_106 : ¬ 0 < v35.toInt := fun h8 => h_9 ((i_lt (by decide) rfl).mpr h8)
                          refine lv_iconst (v := 1) hx hb d_Reader_isRecord_190 (by decide) ?_
                          refine lv_goto (tgt := 195) hx hb d_Reader_isRecord_191 (by decide) ?_
                          have hP9 := hP.sub (ws' := [(h0, .inr (7, [.ref im, .ref pr, .ref ra, .int cn, .int vw, .int wr])), (im, .inr (1, [.ref iq, .int L])), (iq, .inl (cB, n, .inl f))]) [0, 1, 2] rfl
                          have hD9 := hD.sub (ws' := [(h0, .inr (7, [.ref im, .ref pr, .ref ra, .int cn, .int vw, .int wr])), (im, .inr (1, [.ref iq, .int L])), (iq, .inl (cB, n, .inl f))]) [0, 1, 2] (by decide +kernel) rfl
                          exact W.zret (v := 1) hx hb hr (by first | rfl | decide | exact i_narZ (by omega)) (fun t ht hW => ⟨⟨1, (), rfl, ⟨(by (try dsimp only); first | assumption | omega | trivial), (by (try dsimp only); intro h7; first | (exfalso; omega) | (unfold RecC; intro h8; omega))⟩, by rw [ht]; exact hP9, hD9⟩, hS.F ht⟩) hS.2.2 d_Reader_isRecord_195
                  · skip
                    have g150_82 : ¬ 0 ≤ v29.toInt := fun h8 => h_9 ((i_le (by decide) rfl).mpr h8)
                    refine lv_iconst (v := 0) hx hb d_Reader_isRecord_153 (by decide) ?_
                    have hP9 := hP.sub (ws' := [(h0, .inr (7, [.ref im, .ref pr, .ref ra, .int cn, .int vw, .int wr])), (im, .inr (1, [.ref iq, .int L])), (iq, .inl (cB, n, .inl f))]) [0, 1, 2] rfl
                    have hD9 := hD.sub (ws' := [(h0, .inr (7, [.ref im, .ref pr, .ref ra, .int cn, .int vw, .int wr])), (im, .inr (1, [.ref iq, .int L])), (iq, .inl (cB, n, .inl f))]) [0, 1, 2] (by decide +kernel) rfl
                    exact W.zret (v := 0) hx hb hr (by first | rfl | decide | exact i_narZ (by omega)) (fun t ht hW => ⟨⟨0, (), rfl, ⟨(by (try dsimp only); first | assumption | omega | trivial), (by (try dsimp only); intro h7; first | (exfalso; omega) | (unfold RecC; intro h8; omega))⟩, by rw [ht]; exact hP9, hD9⟩, hS.F ht⟩) hS.2.2 d_Reader_isRecord_154
                · skip
                  have g122_78 : ¬ r26.toInt = 0 := fun h8 => h_9 ((i_eq rfl (by decide)).mpr h8)
                  refine lv_lload hx hb d_Reader_isRecord_125 (lv_at hl 1 rfl) ?_
                  refine lv_lconst (v := 0) hx hb d_Reader_isRecord_127 rfl ?_
                  refine W.lcmp hx hb d_Reader_isRecord_128 ?_
                  refine lv_topi (fun v36 e_v36 => ?_)
                  have t_v36 : (v36.toInt = 1 ∧ 0 < w22.toInt) ∨ (v36.toInt = 0 ∧ w22.toInt = 0) ∨ (v36.toInt = -1 ∧ w22.toInt < 0) := by rw [e_v36]; exact l_cmp rfl (by decide)
                  refine lv_if_le (tgt := 153) hx hb d_Reader_isRecord_129 (by decide) (fun h_9 => ?_) (fun h_9 => ?_)
                  · skip
                    have g129_117 : v36.toInt ≤ 0 := (i_le rfl (by decide)).mp h_9
                    refine lv_iconst (v := 0) hx hb d_Reader_isRecord_153 (by decide) ?_
                    have hP9 := hP.sub (ws' := [(h0, .inr (7, [.ref im, .ref pr, .ref ra, .int cn, .int vw, .int wr])), (im, .inr (1, [.ref iq, .int L])), (iq, .inl (cB, n, .inl f))]) [0, 1, 2] rfl
                    have hD9 := hD.sub (ws' := [(h0, .inr (7, [.ref im, .ref pr, .ref ra, .int cn, .int vw, .int wr])), (im, .inr (1, [.ref iq, .int L])), (iq, .inl (cB, n, .inl f))]) [0, 1, 2] (by decide +kernel) rfl
                    exact W.zret (v := 0) hx hb hr (by first | rfl | decide | exact i_narZ (by omega)) (fun t ht hW => ⟨⟨0, (), rfl, ⟨(by (try dsimp only); first | assumption | omega | trivial), (by (try dsimp only); intro h7; first | (exfalso; omega) | (unfold RecC; intro h8; omega))⟩, by rw [ht]; exact hP9, hD9⟩, hS.F ht⟩) hS.2.2 d_Reader_isRecord_154
                  · skip
                    have g129_117 : ¬ v36.toInt ≤ 0 := fun h8 => h_9 ((i_le rfl (by decide)).mpr h8)
                    refine lv_lload hx hb d_Reader_isRecord_132 (lv_at hl 1 rfl) ?_
                    refine lv_ldc2 (v := 2048) hx hb hown (ht9 _ k1213) d_Reader_isRecord_134 ?_
                    refine lv_lrem hx hb d_Reader_isRecord_137 (by decide) ?_
                    refine lv_topl (fun w37 e_w37 => ?_)
                    refine lv_lconst (v := 0) hx hb d_Reader_isRecord_138 rfl ?_
                    refine W.lcmp hx hb d_Reader_isRecord_139 ?_
                    refine lv_topi (fun v38 e_v38 => ?_)
                    have t_v38 : (v38.toInt = 1 ∧ 0 < w37.toInt) ∨ (v38.toInt = 0 ∧ w37.toInt = 0) ∨ (v38.toInt = -1 ∧ w37.toInt < 0) := by rw [e_v38]; exact l_cmp rfl (by decide)
                    refine lv_if_eq (tgt := 155) hx hb d_Reader_isRecord_140 (by decide) (fun h_9 => ?_) (fun h_9 => ?_)
                    · skip
                      have g140_125 : v38.toInt = 0 := (i_eq rfl (by decide)).mp h_9
                      refine lv_lload hx hb d_Reader_isRecord_155 (lv_at hl 1 rfl) ?_
                      refine lv_lconst (v := 0) hx hb d_Reader_isRecord_157 rfl ?_
                      refine W.lcmp hx hb d_Reader_isRecord_158 ?_
                      refine lv_topi (fun v39 e_v39 => ?_)
                      have t_v39 : (v39.toInt = 1 ∧ 0 < w22.toInt) ∨ (v39.toInt = 0 ∧ w22.toInt = 0) ∨ (v39.toInt = -1 ∧ w22.toInt < 0) := by rw [e_v39]; exact l_cmp rfl (by decide)
                      refine lv_if_eq (tgt := 190) hx hb d_Reader_isRecord_159 (by decide) (fun h_9 => ?_) (fun h_9 => ?_)
                      · skip
                        have g159_129 : v39.toInt = 0 := (i_eq rfl (by decide)).mp h_9
                        refine lv_iconst (v := 1) hx hb d_Reader_isRecord_190 (by decide) ?_
                        refine lv_goto (tgt := 195) hx hb d_Reader_isRecord_191 (by decide) ?_
                        have hP9 := hP.sub (ws' := [(h0, .inr (7, [.ref im, .ref pr, .ref ra, .int cn, .int vw, .int wr])), (im, .inr (1, [.ref iq, .int L])), (iq, .inl (cB, n, .inl f))]) [0, 1, 2] rfl
                        have hD9 := hD.sub (ws' := [(h0, .inr (7, [.ref im, .ref pr, .ref ra, .int cn, .int vw, .int wr])), (im, .inr (1, [.ref iq, .int L])), (iq, .inl (cB, n, .inl f))]) [0, 1, 2] (by decide +kernel) rfl
                        exact W.zret (v := 1) hx hb hr (by first | rfl | decide | exact i_narZ (by omega)) (fun t ht hW => ⟨⟨1, (), rfl, ⟨(by (try dsimp only); first | assumption | omega | trivial), (by (try dsimp only); intro h7; first | (exfalso; omega) | (unfold RecC; intro h8; omega))⟩, by rw [ht]; exact hP9, hD9⟩, hS.F ht⟩) hS.2.2 d_Reader_isRecord_195
                      · skip
                        have g159_129 : ¬ v39.toInt = 0 := fun h8 => h_9 ((i_eq rfl (by decide)).mpr h8)
                        refine lv_lload hx hb d_Reader_isRecord_162 (lv_at hl 0 rfl) ?_
                        refine lv_lconst (v := 0) hx hb d_Reader_isRecord_164 rfl ?_
                        refine W.lcmp hx hb d_Reader_isRecord_165 ?_
                        refine lv_topi (fun v40 e_v40 => ?_)
                        have t_v40 : (v40.toInt = 1 ∧ 0 < w25.toInt) ∨ (v40.toInt = 0 ∧ w25.toInt = 0) ∨ (v40.toInt = -1 ∧ w25.toInt < 0) := by rw [e_v40]; exact l_cmp rfl (by decide)
                        refine lv_if_lt (tgt := 194) hx hb d_Reader_isRecord_166 (by decide) (fun h_9 => ?_) (fun h_9 => ?_)
                        · skip
                          have g166_136 : v40.toInt < 0 := (i_lt rfl (by decide)).mp h_9
                          refine lv_iconst (v := 0) hx hb d_Reader_isRecord_194 (by decide) ?_
                          have hP9 := hP.sub (ws' := [(h0, .inr (7, [.ref im, .ref pr, .ref ra, .int cn, .int vw, .int wr])), (im, .inr (1, [.ref iq, .int L])), (iq, .inl (cB, n, .inl f))]) [0, 1, 2] rfl
                          have hD9 := hD.sub (ws' := [(h0, .inr (7, [.ref im, .ref pr, .ref ra, .int cn, .int vw, .int wr])), (im, .inr (1, [.ref iq, .int L])), (iq, .inl (cB, n, .inl f))]) [0, 1, 2] (by decide +kernel) rfl
                          exact W.zret (v := 0) hx hb hr (by first | rfl | decide | exact i_narZ (by omega)) (fun t ht hW => ⟨⟨0, (), rfl, ⟨(by (try dsimp only); first | assumption | omega | trivial), (by (try dsimp only); intro h7; first | (exfalso; omega) | (unfold RecC; intro h8; omega))⟩, by rw [ht]; exact hP9, hD9⟩, hS.F ht⟩) hS.2.2 d_Reader_isRecord_195
                        · skip
                          have g166_136 : ¬ v40.toInt < 0 := fun h8 => h_9 ((i_lt rfl (by decide)).mpr h8)
                          refine lv_lload hx hb d_Reader_isRecord_169 (lv_at hl 0 rfl) ?_
                          refine lv_ldc2 (v := 2048) hx hb hown (ht9 _ k1213) d_Reader_isRecord_171 ?_
                          refine lv_lmul hx hb d_Reader_isRecord_174 ?_
                          refine lv_topl (fun w41 e_w41 => ?_)
                          have t_w41 : w41.toInt = w25.toInt * 2048 := by rw [e_w41]; exact l_mul rfl (by decide) (by omega) (by omega)
                          refine lv_lload hx hb d_Reader_isRecord_175 (lv_at hl 1 rfl) ?_
                          refine lv_ladd hx hb d_Reader_isRecord_177 ?_
                          refine lv_topl (fun w42 e_w42 => ?_)
                          have t_w42 : w42.toInt = w41.toInt + w22.toInt := by rw [e_w42]; exact l_add rfl rfl (by omega) (by omega)
                          refine lv_aload_n hx hb d_Reader_isRecord_178 rfl (lv_at hl 4 rfl) ?_
                          refine va_get (D := D) (ci := 7) (v := .ref im) (C := "DiscMaker$Reader") (T := F_Reader) (N := 6) hx hb ht9 in_Reader hown hK hP 0 rfl rfl 0 (by decide) (ht9 _ k412) (fun _ h9 => h9) rfl d_Reader_isRecord_179 ?_
                          refine va_getN (D := D) (ci := 1) (v := .int L) (C := "DiscMaker$Bytes") (T := F_Bytes) (N := 2) hx hb ht9 in_Bytes hown hK hP 1 rfl rfl 1 (by decide) (va_Nw.use rfl (hN _ k260)) (fun _ h9 => h9) rfl d_Reader_isRecord_182 ?_
                          refine lv_i2l hx hb d_Reader_isRecord_185 rfl ?_
                          refine lv_topl (fun w43 e_w43 => ?_)
                          have t_w43 : w43.toInt = L.toInt ∧ (-2147483648) ≤ L.toInt ∧ L.toInt ≤ 2147483647 := by rw [e_w43]; exact ⟨l_i rfl, i_rng _⟩
                          refine W.lcmp hx hb d_Reader_isRecord_186 ?_
                          refine lv_topi (fun v44 e_v44 => ?_)
                          have t_v44 : (v44.toInt = 1 ∧ w43.toInt < w42.toInt) ∨ (v44.toInt = 0 ∧ w42.toInt = w43.toInt) ∨ (v44.toInt = -1 ∧ w42.toInt < w43.toInt) := by rw [e_v44]; exact l_cmp rfl rfl
                          refine lv_if_gt (tgt := 194) hx hb d_Reader_isRecord_187 (by decide) (fun h_9 => ?_) (fun h_9 => ?_)
                          · skip
                            have g187_149 : 0 < v44.toInt := (i_lt (by decide) rfl).mp h_9
                            refine lv_iconst (v := 0) hx hb d_Reader_isRecord_194 (by decide) ?_
                            have hP9 := hP.sub (ws' := [(h0, .inr (7, [.ref im, .ref pr, .ref ra, .int cn, .int vw, .int wr])), (im, .inr (1, [.ref iq, .int L])), (iq, .inl (cB, n, .inl f))]) [0, 1, 2] rfl
                            have hD9 := hD.sub (ws' := [(h0, .inr (7, [.ref im, .ref pr, .ref ra, .int cn, .int vw, .int wr])), (im, .inr (1, [.ref iq, .int L])), (iq, .inl (cB, n, .inl f))]) [0, 1, 2] (by decide +kernel) rfl
                            exact W.zret (v := 0) hx hb hr (by first | rfl | decide | exact i_narZ (by omega)) (fun t ht hW => ⟨⟨0, (), rfl, ⟨(by (try dsimp only); first | assumption | omega | trivial), (by (try dsimp only); intro h7; first | (exfalso; omega) | (unfold RecC; intro h8; omega))⟩, by rw [ht]; exact hP9, hD9⟩, hS.F ht⟩) hS.2.2 d_Reader_isRecord_195
                          · skip
                            have g187_149 : ¬ 0 < v44.toInt := fun h8 => h_9 ((i_lt (by decide) rfl).mpr h8)
                            refine lv_iconst (v := 1) hx hb d_Reader_isRecord_190 (by decide) ?_
                            refine lv_goto (tgt := 195) hx hb d_Reader_isRecord_191 (by decide) ?_
                            have hP9 := hP.sub (ws' := [(h0, .inr (7, [.ref im, .ref pr, .ref ra, .int cn, .int vw, .int wr])), (im, .inr (1, [.ref iq, .int L])), (iq, .inl (cB, n, .inl f))]) [0, 1, 2] rfl
                            have hD9 := hD.sub (ws' := [(h0, .inr (7, [.ref im, .ref pr, .ref ra, .int cn, .int vw, .int wr])), (im, .inr (1, [.ref iq, .int L])), (iq, .inl (cB, n, .inl f))]) [0, 1, 2] (by decide +kernel) rfl
                            exact W.zret (v := 1) hx hb hr (by first | rfl | decide | exact i_narZ (by omega)) (fun t ht hW => ⟨⟨1, (), rfl, ⟨(by (try dsimp only); first | assumption | omega | trivial), (by (try dsimp only); intro h7; first | (exfalso; omega) | (unfold RecC; intro h8; omega))⟩, by rw [ht]; exact hP9, hD9⟩, hS.F ht⟩) hS.2.2 d_Reader_isRecord_195
                    · skip
                      have g140_125 : ¬ v38.toInt = 0 := fun h8 => h_9 ((i_eq rfl (by decide)).mpr h8)
                      refine lv_goto (tgt := 153) hx hb d_Reader_isRecord_143 (by decide) ?_
                      refine lv_iconst (v := 0) hx hb d_Reader_isRecord_153 (by decide) ?_
                      have hP9 := hP.sub (ws' := [(h0, .inr (7, [.ref im, .ref pr, .ref ra, .int cn, .int vw, .int wr])), (im, .inr (1, [.ref iq, .int L])), (iq, .inl (cB, n, .inl f))]) [0, 1, 2] rfl
                      have hD9 := hD.sub (ws' := [(h0, .inr (7, [.ref im, .ref pr, .ref ra, .int cn, .int vw, .int wr])), (im, .inr (1, [.ref iq, .int L])), (iq, .inl (cB, n, .inl f))]) [0, 1, 2] (by decide +kernel) rfl
                      exact W.zret (v := 0) hx hb hr (by first | rfl | decide | exact i_narZ (by omega)) (fun t ht hW => ⟨⟨0, (), rfl, ⟨(by (try dsimp only); first | assumption | omega | trivial), (by (try dsimp only); intro h7; first | (exfalso; omega) | (unfold RecC; intro h8; omega))⟩, by rw [ht]; exact hP9, hD9⟩, hS.F ht⟩) hS.2.2 d_Reader_isRecord_154
              · skip
                have g96_64 : r18.toInt = 0 := (i_eq rfl (by decide)).mp h_9
                refine lv_iconst (v := 0) hx hb d_Reader_isRecord_99 (by decide) ?_
                have hP9 := hP.sub (ws' := [(h0, .inr (7, [.ref im, .ref pr, .ref ra, .int cn, .int vw, .int wr])), (im, .inr (1, [.ref iq, .int L])), (iq, .inl (cB, n, .inl f))]) [0, 1, 2] rfl
                have hD9 := hD.sub (ws' := [(h0, .inr (7, [.ref im, .ref pr, .ref ra, .int cn, .int vw, .int wr])), (im, .inr (1, [.ref iq, .int L])), (iq, .inl (cB, n, .inl f))]) [0, 1, 2] (by decide +kernel) rfl
                exact W.zret (v := 0) hx hb hr (by first | rfl | decide | exact i_narZ (by omega)) (fun t ht hW => ⟨⟨0, (), rfl, ⟨(by (try dsimp only); first | assumption | omega | trivial), (by (try dsimp only); intro h7; first | (exfalso; omega) | (unfold RecC; intro h8; omega))⟩, by rw [ht]; exact hP9, hD9⟩, hS.F ht⟩) hS.2.2 d_Reader_isRecord_100
        · skip
          have g50_36 : ¬ v10.toInt ≤ r1.toInt := fun h8 => h_9 ((i_le rfl rfl).mpr h8)
          refine lv_iconst (v := 0) hx hb d_Reader_isRecord_53 (by decide) ?_
          have hP9 := hP.sub (ws' := [(h0, .inr (7, [.ref im, .ref pr, .ref ra, .int cn, .int vw, .int wr])), (im, .inr (1, [.ref iq, .int L])), (iq, .inl (cB, n, .inl f))]) [0, 1, 2] rfl
          have hD9 := hD.sub (ws' := [(h0, .inr (7, [.ref im, .ref pr, .ref ra, .int cn, .int vw, .int wr])), (im, .inr (1, [.ref iq, .int L])), (iq, .inl (cB, n, .inl f))]) [0, 1, 2] (by decide +kernel) rfl
          exact W.zret (v := 0) hx hb hr (by first | rfl | decide | exact i_narZ (by omega)) (fun t ht hW => ⟨⟨0, (), rfl, ⟨(by (try dsimp only); first | assumption | omega | trivial), (by (try dsimp only); intro h7; first | (exfalso; omega) | (unfold RecC; intro h8; omega))⟩, by rw [ht]; exact hP9, hD9⟩, hS.F ht⟩) hS.2.2 d_Reader_isRecord_54

theorem d_Reader_isWanted_0 : decode b_Reader_isWanted 0 = .ok (.aload_n 0, 1) := by decide +kernel
theorem d_Reader_isWanted_1 : decode b_Reader_isWanted 1 = .ok (.getfield 34, 3) := by decide +kernel
theorem d_Reader_isWanted_4 : decode b_Reader_isWanted 4 = .ok (.iconst 1, 1) := by decide +kernel
theorem d_Reader_isWanted_5 : decode b_Reader_isWanted 5 = .ok (.if_icmp .ne 38, 3) := by decide +kernel
theorem d_Reader_isWanted_8 : decode b_Reader_isWanted 8 = .ok (.aload_n 0, 1) := by decide +kernel
theorem d_Reader_isWanted_9 : decode b_Reader_isWanted 9 = .ok (.getfield 17, 3) := by decide +kernel
theorem d_Reader_isWanted_12 : decode b_Reader_isWanted 12 = .ok (.iload_n 1, 1) := by decide +kernel
theorem d_Reader_isWanted_13 : decode b_Reader_isWanted 13 = .ok (.invokevirtual 68, 3) := by decide +kernel
theorem d_Reader_isWanted_16 : decode b_Reader_isWanted 16 = .ok (.iconst 2, 1) := by decide +kernel
theorem d_Reader_isWanted_17 : decode b_Reader_isWanted 17 = .ok (.if_icmp .ne 24, 3) := by decide +kernel
theorem d_Reader_isWanted_20 : decode b_Reader_isWanted 20 = .ok (.aload_n 0, 1) := by decide +kernel
theorem d_Reader_isWanted_21 : decode b_Reader_isWanted 21 = .ok (.getfield 17, 3) := by decide +kernel
theorem d_Reader_isWanted_24 : decode b_Reader_isWanted 24 = .ok (.iload_n 1, 1) := by decide +kernel
theorem d_Reader_isWanted_25 : decode b_Reader_isWanted 25 = .ok (.bipush 88, 2) := by decide +kernel
theorem d_Reader_isWanted_27 : decode b_Reader_isWanted 27 = .ok (.iadd, 1) := by decide +kernel
theorem d_Reader_isWanted_28 : decode b_Reader_isWanted 28 = .ok (.getstatic 75, 3) := by decide +kernel
theorem d_Reader_isWanted_31 : decode b_Reader_isWanted 31 = .ok (.invokevirtual 64, 3) := by decide +kernel
theorem d_Reader_isWanted_34 : decode b_Reader_isWanted 34 = .ok (.ifCond .eq 7, 3) := by decide +kernel
theorem d_Reader_isWanted_37 : decode b_Reader_isWanted 37 = .ok (.iconst 1, 1) := by decide +kernel
theorem d_Reader_isWanted_38 : decode b_Reader_isWanted 38 = .ok (.goto 4, 3) := by decide +kernel
theorem d_Reader_isWanted_41 : decode b_Reader_isWanted 41 = .ok (.iconst 0, 1) := by decide +kernel
theorem d_Reader_isWanted_42 : decode b_Reader_isWanted 42 = .ok (.ireturn, 1) := by decide +kernel
theorem d_Reader_isWanted_43 : decode b_Reader_isWanted 43 = .ok (.aload_n 0, 1) := by decide +kernel
theorem d_Reader_isWanted_44 : decode b_Reader_isWanted 44 = .ok (.getfield 17, 3) := by decide +kernel
theorem d_Reader_isWanted_47 : decode b_Reader_isWanted 47 = .ok (.iload_n 1, 1) := by decide +kernel
theorem d_Reader_isWanted_48 : decode b_Reader_isWanted 48 = .ok (.invokevirtual 68, 3) := by decide +kernel
theorem d_Reader_isWanted_51 : decode b_Reader_isWanted 51 = .ok (.iconst 1, 1) := by decide +kernel
theorem d_Reader_isWanted_52 : decode b_Reader_isWanted 52 = .ok (.if_icmp .ne 7, 3) := by decide +kernel
theorem d_Reader_isWanted_55 : decode b_Reader_isWanted 55 = .ok (.iconst 1, 1) := by decide +kernel
theorem d_Reader_isWanted_56 : decode b_Reader_isWanted 56 = .ok (.goto 4, 3) := by decide +kernel
theorem d_Reader_isWanted_59 : decode b_Reader_isWanted 59 = .ok (.iconst 0, 1) := by decide +kernel
theorem d_Reader_isWanted_60 : decode b_Reader_isWanted 60 = .ok (.ireturn, 1) := by decide +kernel
set_option maxHeartbeats 4000000 in
set_option maxRecDepth 100000 in
theorem c3_isWanted (l : Launch) (D : va_G) (cB cI cJ cZ cN cF : ClassId) (sz : Nat) (h0 : Nat) (pr : Nat) (ra : Nat) (im : Nat) (iq : Nat) (n : Nat) (L : Int32) (f : Nat → Int32) (cn : Int32) (vw : Int32) (wr : Int32) (td : Nat) (ts : Nat) (tl : Nat) (gd : Nat → Int32) (gs : Nat → Int32) (gl : Nat → Int32) (x : Int32) (hL : 0 ≤ L.toInt ∧ L.toInt ≤ n) (hn : n ≤ 3000000) (hx : 0 ≤ x.toInt ∧ x.toInt ≤ 1000000000) : Met l y_Reader_isWanted w_Reader_isWanted ({ frames := 2, cells := 0, slots := 0, locals := 56 }) (va_Pc [.ref h0, .int x] (fun U => U.heap.size = sz ∧ va_P D CL [(h0, .inr (7, [.ref im, .ref pr, .ref ra, .int cn, .int vw, .int wr])), (im, .inr (1, [.ref iq, .int L])), (iq, .inl (cB, n, .inl f))] U.heap ∧ va_K D CL (TY cB cI cJ cZ cN cF) U ∧ NN U ∧ va_D (fun _ => True) [(h0, .inr (7, [.ref im, .ref pr, .ref ra, .int cn, .int vw, .int wr])), (im, .inr (1, [.ref iq, .int L])), (iq, .inl (cB, n, .inl f))] ∧ SZ td ts tl gd gs gl (va_A [(h0, .inr (7, [.ref im, .ref pr, .ref ra, .int cn, .int vw, .int wr])), (im, .inr (1, [.ref iq, .int L])), (iq, .inl (cB, n, .inl f))] sz) U U.heap)) (va_Qi (fun (r : Int32) (u : Unit) => (0 ≤ r.toInt ∧ r.toInt ≤ 1)) (fun (u : Unit) (t : State) => match u with | () => va_P D CL [(h0, .inr (7, [.ref im, .ref pr, .ref ra, .int cn, .int vw, .int wr])), (im, .inr (1, [.ref iq, .int L])), (iq, .inl (cB, n, .inl f))] t.heap ∧ va_D (va_A [(h0, .inr (7, [.ref im, .ref pr, .ref ra, .int cn, .int vw, .int wr])), (im, .inr (1, [.ref iq, .int L])), (iq, .inl (cB, n, .inl f))] sz) [(h0, .inr (7, [.ref im, .ref pr, .ref ra, .int cn, .int vw, .int wr])), (im, .inr (1, [.ref iq, .int L])), (iq, .inl (cB, n, .inl f))]) (va_A [(h0, .inr (7, [.ref im, .ref pr, .ref ra, .int cn, .int vw, .int wr])), (im, .inr (1, [.ref iq, .int L])), (iq, .inl (cB, n, .inl f))] sz)) 0 0 (va_A [(h0, .inr (7, [.ref im, .ref pr, .ref ra, .int cn, .int vw, .int wr])), (im, .inr (1, [.ref iq, .int L])), (iq, .inl (cB, n, .inl f))] sz) := by
  refine Met.ofW (cc := b_Reader_isWanted) (maxL := 2) (ret := some .boolean) (by decide +kernel) rfl ?_
  intro p e s m args below meth c s₁ B hml hv
  obtain ⟨rfl, hsz, hP, hK, hN, hD0, hZs⟩ := hv
  have hx := B.exec
  have hb := B.bytes
  have hr := B.returns
  have hts := atoms_spec (ws := w_Reader_isWanted) B.pre
  have ht9 := fun (w : Cond) (h : w ∈ lw_g) => hts w (List.mem_cons_of_mem _ h)
  have hown : s.vm.findClass "DiscMaker$Reader" = some m.cls := findClass_of_methodNamed B.named
  have hlocks := B.notSynchronized
  subst hsz
  have hD := hD0.self (sz := s.heap.size)
  generalize hAe : va_A [(h0, .inr (7, [.ref im, .ref pr, .ref ra, .int cn, .int vw, .int wr])), (im, .inr (1, [.ref iq, .int L])), (iq, .inl (cB, n, .inl f))] s.heap.size = A at hD hZs ⊢
  have hA : ∀ q : Nat, s.heap.size ≤ q → A q := fun q h => by rw [← hAe]; exact Or.inr h
  have hS : va_S A s.heap s.heap [] := va_S.rf
  have hP : va_P D CL [(h0, .inr (7, [.ref im, .ref pr, .ref ra, .int cn, .int vw, .int wr])), (im, .inr (1, [.ref iq, .int L])), (iq, .inl (cB, n, .inl f))] s.heap := hP
  have hl := lv_entry [.ref h0, .int x] (n := 2) (Nat.le_of_ble_eq_true rfl)
  rw [lg_entry_eq]
  generalize (lg_sl [.ref h0, .int x] ++ List.replicate (2 - (lg_sl [.ref h0, .int x]).length) Slot.unset).toArray = ls at hl ⊢
  have hl : lv_has ls 2 [(0, .ref h0), (1, .int x)] := hl
  have L_m1 : ((-1) : Int32).toInt = (-1) := by decide
  have L_0 : (0 : Int32).toInt = 0 := by decide
  have L_1 : (1 : Int32).toInt = 1 := by decide
  have L_2 : (2 : Int32).toInt = 2 := by decide
  have L_88 : (88 : Int32).toInt = 88 := by decide
  refine lv_aload_n hx hb d_Reader_isWanted_0 rfl (lv_at hl 0 rfl) ?_
  refine va_get (D := D) (ci := 7) (v := .int vw) (C := "DiscMaker$Reader") (T := F_Reader) (N := 6) hx hb ht9 in_Reader hown hK hP 0 rfl rfl 4 (by decide) (ht9 _ k416) (fun _ h9 => h9) rfl d_Reader_isWanted_1 ?_
  refine lv_iconst (v := 1) hx hb d_Reader_isWanted_4 (by decide) ?_
  refine lv_icmp_ne (tgt := 43) hx hb d_Reader_isWanted_5 (by decide) (fun h_9 => ?_) (fun h_9 => ?_)
  · skip
    have g5_4 : ¬ vw.toInt = 1 := fun h8 => h_9 ((i_eq rfl (by decide)).mpr h8)
    refine lv_aload_n hx hb d_Reader_isWanted_43 rfl (lv_at hl 0 rfl) ?_
    refine va_get (D := D) (ci := 7) (v := .ref im) (C := "DiscMaker$Reader") (T := F_Reader) (N := 6) hx hb ht9 in_Reader hown hK hP 0 rfl rfl 0 (by decide) (ht9 _ k412) (fun _ h9 => h9) rfl d_Reader_isWanted_44 ?_
    refine lv_iload_n hx hb d_Reader_isWanted_47 rfl (lv_at hl 1 rfl) ?_
    have hPc := hP.sub (ws' := [(im, .inr (1, [.ref iq, .int L])), (iq, .inl (cB, n, .inl f))]) [1, 2] rfl
    have hDc := hD.sub (ws' := [(im, .inr (1, [.ref iq, .int L])), (iq, .inl (cB, n, .inl f))]) [1, 2] (by decide +kernel) rfl
    have hFc := va_free (wc := [(im, .inr (1, [.ref iq, .int L])), (iq, .inl (cB, n, .inl f))]) hD hS hA [1, 2] rfl
    have hkc : 0 ≤ 0 := by decide
    have hks : 0 ≤ 0 := by decide
    refine va_calli (va_runV (C := "DiscMaker$Bytes") (As := [.int x]) (rest := []) ⟨hx, hb, hml, hown, hts⟩ (c3_at l D cB cI cJ cZ cN cF s.heap.size im iq n L f x (by (try dsimp only); first | assumption | omega | trivial) (by (try dsimp only); first | assumption | omega | trivial)) (cwV 1 hts (lg_goodV k1179 k1065 k1066 k119 kc_Bytes_at) rfl rfl rfl (by decide +kernel) ⟨Nat.le_of_ble_eq_true rfl, Nat.le_of_ble_eq_true rfl⟩) ⟨fun a U g mk q => by obtain ⟨q0, q1, qP, qK, qN, qD⟩ := q; exact ⟨q0, q1, qP, va_K.moved (u := U) (U := U.calling g mk a) (Vm.Alike.refl U.vm) qK, qN.calling, qD⟩, va_recv hK hP (ci := 1) (q0 := 1) rfl rfl, fun U hU hW => ⟨rfl, by rw [hU], by rw [hU]; exact hPc, va_K.moved hW.alike hK, NN.warm hW hN, hDc.weaken (fun _ _ _ _ => trivial)⟩⟩ rfl rfl hl.1 rfl (lv_room (Nat.le_of_ble_eq_true rfl)) d_Reader_isWanted_48 ⟨hkc, hks⟩) hS (fun q _ h => hFc q h) hFc (fun r1 u t H1 locs ht hvm hp_r1 hB hz1 hk1 hS => ?_)
    obtain ⟨hP1, hD1⟩ := hB
    rw [ht] at hP1
    obtain ⟨hP, hD⟩ := va_join (wr := [(h0, .inr (7, [.ref im, .ref pr, .ref ra, .int cn, .int vw, .int wr]))]) (w1 := [(im, .inr (1, [.ref iq, .int L])), (iq, .inl (cB, n, .inl f))]) hP hD [1, 2] [0] rfl rfl (by decide +kernel) (by decide +kernel) hk1 hFc hP1 hD1
    clear hPc hDc hFc hP1 hD1 hk1 hz1 hkc hks
    generalize H1 = H at hP hS ⊢
    have hP : va_P D CL [(h0, .inr (7, [.ref im, .ref pr, .ref ra, .int cn, .int vw, .int wr])), (im, .inr (1, [.ref iq, .int L])), (iq, .inl (cB, n, .inl f))] H := hP
    have hD : va_D A [(h0, .inr (7, [.ref im, .ref pr, .ref ra, .int cn, .int vw, .int wr])), (im, .inr (1, [.ref iq, .int L])), (iq, .inl (cB, n, .inl f))] := hD
    try dsimp only at hp_r1
    obtain ⟨hr_2, hv_3⟩ := hp_r1
    refine lv_iconst (v := 1) hx hb d_Reader_isWanted_51 (by decide) ?_
    refine lv_icmp_ne (tgt := 59) hx hb d_Reader_isWanted_52 (by decide) (fun h_9 => ?_) (fun h_9 => ?_)
    · skip
      have g52_10 : ¬ r1.toInt = 1 := fun h8 => h_9 ((i_eq rfl (by decide)).mpr h8)
      refine lv_iconst (v := 0) hx hb d_Reader_isWanted_59 (by decide) ?_
      have hP9 := hP.sub (ws' := [(h0, .inr (7, [.ref im, .ref pr, .ref ra, .int cn, .int vw, .int wr])), (im, .inr (1, [.ref iq, .int L])), (iq, .inl (cB, n, .inl f))]) [0, 1, 2] rfl
      have hD9 := hD.sub (ws' := [(h0, .inr (7, [.ref im, .ref pr, .ref ra, .int cn, .int vw, .int wr])), (im, .inr (1, [.ref iq, .int L])), (iq, .inl (cB, n, .inl f))]) [0, 1, 2] (by decide +kernel) rfl
      exact W.zret (v := 0) hx hb hr (by first | rfl | decide | exact i_narZ (by omega)) (fun t ht hW => ⟨⟨0, (), rfl, (by (try dsimp only); first | assumption | omega | trivial), by rw [ht]; exact hP9, hD9⟩, hS.F ht⟩) hS.2.2 d_Reader_isWanted_60
    · skip
      have g52_10 : r1.toInt = 1 := (i_eq rfl (by decide)).mp h_9
      refine lv_iconst (v := 1) hx hb d_Reader_isWanted_55 (by decide) ?_
      refine lv_goto (tgt := 60) hx hb d_Reader_isWanted_56 (by decide) ?_
      have hP9 := hP.sub (ws' := [(h0, .inr (7, [.ref im, .ref pr, .ref ra, .int cn, .int vw, .int wr])), (im, .inr (1, [.ref iq, .int L])), (iq, .inl (cB, n, .inl f))]) [0, 1, 2] rfl
      have hD9 := hD.sub (ws' := [(h0, .inr (7, [.ref im, .ref pr, .ref ra, .int cn, .int vw, .int wr])), (im, .inr (1, [.ref iq, .int L])), (iq, .inl (cB, n, .inl f))]) [0, 1, 2] (by decide +kernel) rfl
      exact W.zret (v := 1) hx hb hr (by first | rfl | decide | exact i_narZ (by omega)) (fun t ht hW => ⟨⟨1, (), rfl, (by (try dsimp only); first | assumption | omega | trivial), by rw [ht]; exact hP9, hD9⟩, hS.F ht⟩) hS.2.2 d_Reader_isWanted_60
  · skip
    have g5_4 : vw.toInt = 1 := (i_eq rfl (by decide)).mp h_9
    refine lv_aload_n hx hb d_Reader_isWanted_8 rfl (lv_at hl 0 rfl) ?_
    refine va_get (D := D) (ci := 7) (v := .ref im) (C := "DiscMaker$Reader") (T := F_Reader) (N := 6) hx hb ht9 in_Reader hown hK hP 0 rfl rfl 0 (by decide) (ht9 _ k412) (fun _ h9 => h9) rfl d_Reader_isWanted_9 ?_
    refine lv_iload_n hx hb d_Reader_isWanted_12 rfl (lv_at hl 1 rfl) ?_
    have hPc := hP.sub (ws' := [(im, .inr (1, [.ref iq, .int L])), (iq, .inl (cB, n, .inl f))]) [1, 2] rfl
    have hDc := hD.sub (ws' := [(im, .inr (1, [.ref iq, .int L])), (iq, .inl (cB, n, .inl f))]) [1, 2] (by decide +kernel) rfl
    have hFc := va_free (wc := [(im, .inr (1, [.ref iq, .int L])), (iq, .inl (cB, n, .inl f))]) hD hS hA [1, 2] rfl
    have hkc : 0 ≤ 0 := by decide
    have hks : 0 ≤ 0 := by decide
    refine va_calli (va_runV (C := "DiscMaker$Bytes") (As := [.int x]) (rest := []) ⟨hx, hb, hml, hown, hts⟩ (c3_at l D cB cI cJ cZ cN cF s.heap.size im iq n L f x (by (try dsimp only); first | assumption | omega | trivial) (by (try dsimp only); first | assumption | omega | trivial)) (cwV 1 hts (lg_goodV k1179 k1065 k1066 k119 kc_Bytes_at) rfl rfl rfl (by decide +kernel) ⟨Nat.le_of_ble_eq_true rfl, Nat.le_of_ble_eq_true rfl⟩) ⟨fun a U g mk q => by obtain ⟨q0, q1, qP, qK, qN, qD⟩ := q; exact ⟨q0, q1, qP, va_K.moved (u := U) (U := U.calling g mk a) (Vm.Alike.refl U.vm) qK, qN.calling, qD⟩, va_recv hK hP (ci := 1) (q0 := 1) rfl rfl, fun U hU hW => ⟨rfl, by rw [hU], by rw [hU]; exact hPc, va_K.moved hW.alike hK, NN.warm hW hN, hDc.weaken (fun _ _ _ _ => trivial)⟩⟩ rfl rfl hl.1 rfl (lv_room (Nat.le_of_ble_eq_true rfl)) d_Reader_isWanted_13 ⟨hkc, hks⟩) hS (fun q _ h => hFc q h) hFc (fun r4 u t H1 locs ht hvm hp_r4 hB hz1 hk1 hS => ?_)
    obtain ⟨hP1, hD1⟩ := hB
    rw [ht] at hP1
    obtain ⟨hP, hD⟩ := va_join (wr := [(h0, .inr (7, [.ref im, .ref pr, .ref ra, .int cn, .int vw, .int wr]))]) (w1 := [(im, .inr (1, [.ref iq, .int L])), (iq, .inl (cB, n, .inl f))]) hP hD [1, 2] [0] rfl rfl (by decide +kernel) (by decide +kernel) hk1 hFc hP1 hD1
    clear hPc hDc hFc hP1 hD1 hk1 hz1 hkc hks
    generalize H1 = H at hP hS ⊢
    have hP : va_P D CL [(h0, .inr (7, [.ref im, .ref pr, .ref ra, .int cn, .int vw, .int wr])), (im, .inr (1, [.ref iq, .int L])), (iq, .inl (cB, n, .inl f))] H := hP
    have hD : va_D A [(h0, .inr (7, [.ref im, .ref pr, .ref ra, .int cn, .int vw, .int wr])), (im, .inr (1, [.ref iq, .int L])), (iq, .inl (cB, n, .inl f))] := hD
    try dsimp only at hp_r4
    obtain ⟨hr_5, hv_6⟩ := hp_r4
    refine lv_iconst (v := 2) hx hb d_Reader_isWanted_16 (by decide) ?_
    refine lv_icmp_ne (tgt := 41) hx hb d_Reader_isWanted_17 (by decide) (fun h_9 => ?_) (fun h_9 => ?_)
    · skip
      have g17_21 : ¬ r4.toInt = 2 := fun h8 => h_9 ((i_eq rfl (by decide)).mpr h8)
      refine lv_iconst (v := 0) hx hb d_Reader_isWanted_41 (by decide) ?_
      have hP9 := hP.sub (ws' := [(h0, .inr (7, [.ref im, .ref pr, .ref ra, .int cn, .int vw, .int wr])), (im, .inr (1, [.ref iq, .int L])), (iq, .inl (cB, n, .inl f))]) [0, 1, 2] rfl
      have hD9 := hD.sub (ws' := [(h0, .inr (7, [.ref im, .ref pr, .ref ra, .int cn, .int vw, .int wr])), (im, .inr (1, [.ref iq, .int L])), (iq, .inl (cB, n, .inl f))]) [0, 1, 2] (by decide +kernel) rfl
      exact W.zret (v := 0) hx hb hr (by first | rfl | decide | exact i_narZ (by omega)) (fun t ht hW => ⟨⟨0, (), rfl, (by (try dsimp only); first | assumption | omega | trivial), by rw [ht]; exact hP9, hD9⟩, hS.F ht⟩) hS.2.2 d_Reader_isWanted_42
    · skip
      have g17_21 : r4.toInt = 2 := (i_eq rfl (by decide)).mp h_9
      refine lv_aload_n hx hb d_Reader_isWanted_20 rfl (lv_at hl 0 rfl) ?_
      refine va_get (D := D) (ci := 7) (v := .ref im) (C := "DiscMaker$Reader") (T := F_Reader) (N := 6) hx hb ht9 in_Reader hown hK hP 0 rfl rfl 0 (by decide) (ht9 _ k412) (fun _ h9 => h9) rfl d_Reader_isWanted_21 ?_
      refine lv_iload_n hx hb d_Reader_isWanted_24 rfl (lv_at hl 1 rfl) ?_
      refine lv_bipush (v := 88) hx hb d_Reader_isWanted_25 (by decide) ?_
      refine lv_iadd hx hb d_Reader_isWanted_27 ?_
      refine lv_topi (fun v7 e_v7 => ?_)
      have t_v7 : v7.toInt = x.toInt + 88 := by rw [e_v7]; exact i_add rfl (by decide) (by omega) (by omega)
      refine va_getsN (C := "DiscMaker") (n := "LONG_NAMES") (d := "[B") (v := .ref tl) hx hb (hZs.2.2.1) hS hown (va_Nw.use rfl (hN _ k1184)) (fun _ h9 => h9) d_Reader_isWanted_28 ?_
      have hPc := hP.sub (ws' := [(im, .inr (1, [.ref iq, .int L])), (iq, .inl (cB, n, .inl f))]) [1, 2] rfl
      have hDc := hD.sub (ws' := [(im, .inr (1, [.ref iq, .int L])), (iq, .inl (cB, n, .inl f))]) [1, 2] (by decide +kernel) rfl
      have hFc := va_free (wc := [(im, .inr (1, [.ref iq, .int L])), (iq, .inl (cB, n, .inl f))]) hD hS hA [1, 2] rfl
      have hkc : 0 ≤ 0 := by decide
      have hks : 0 ≤ 0 := by decide
      refine va_calli (va_runV (C := "DiscMaker$Bytes") (As := [.int v7, .ref tl]) (rest := []) ⟨hx, hb, hml, hown, hts⟩ (c3_holds l D cB cI cJ cZ cN cF H.size im iq n L f tl 3 gl v7 (by (try dsimp only); first | assumption | omega | trivial) (by (try dsimp only); first | assumption | omega | trivial) (by (try dsimp only); first | assumption | omega | trivial)) (cwV 2 hts (lg_goodV k1175 k1176 k1177 k119 kc_Bytes_holds) rfl rfl rfl (by decide +kernel) ⟨Nat.le_of_ble_eq_true rfl, Nat.le_of_ble_eq_true rfl⟩) ⟨fun a U g mk q => by obtain ⟨q0, q1, qP, qK, qN, qD, qZ0⟩ := q; exact ⟨q0, q1, qP, va_K.moved (u := U) (U := U.calling g mk a) (Vm.Alike.refl U.vm) qK, qN.calling, qD, zT_blind qZ0⟩, va_recv hK hP (ci := 1) (q0 := 1) rfl rfl, fun U hU hW => ⟨rfl, by rw [hU], by rw [hU]; exact hPc, va_K.moved hW.alike hK, NN.warm hW hN, hDc.weaken (fun _ _ _ _ => trivial), zT_pass hZs.2.2.2 hS hFc hW.alike hU⟩⟩ rfl rfl hl.1 rfl (lv_room (Nat.le_of_ble_eq_true rfl)) d_Reader_isWanted_31 ⟨hkc, hks⟩) hS (fun q _ h => hFc q h) hFc (fun r8 u t H1 locs ht hvm hp_r8 hB hz1 hk1 hS => ?_)
      obtain ⟨hP1, hD1⟩ := hB
      rw [ht] at hP1
      obtain ⟨hP, hD⟩ := va_join (wr := [(h0, .inr (7, [.ref im, .ref pr, .ref ra, .int cn, .int vw, .int wr]))]) (w1 := [(im, .inr (1, [.ref iq, .int L])), (iq, .inl (cB, n, .inl f))]) hP hD [1, 2] [0] rfl rfl (by decide +kernel) (by decide +kernel) hk1 hFc hP1 hD1
      clear hPc hDc hFc hP1 hD1 hk1 hz1 hkc hks
      generalize H1 = H at hP hS ⊢
      have hP : va_P D CL [(h0, .inr (7, [.ref im, .ref pr, .ref ra, .int cn, .int vw, .int wr])), (im, .inr (1, [.ref iq, .int L])), (iq, .inl (cB, n, .inl f))] H := hP
      have hD : va_D A [(h0, .inr (7, [.ref im, .ref pr, .ref ra, .int cn, .int vw, .int wr])), (im, .inr (1, [.ref iq, .int L])), (iq, .inl (cB, n, .inl f))] := hD
      try dsimp only at hp_r8
      have hr_9 := hp_r8
      refine lv_if_eq (tgt := 41) hx hb d_Reader_isWanted_34 (by decide) (fun h_9 => ?_) (fun h_9 => ?_)
      · skip
        have g34_31 : r8.toInt = 0 := (i_eq rfl (by decide)).mp h_9
        refine lv_iconst (v := 0) hx hb d_Reader_isWanted_41 (by decide) ?_
        have hP9 := hP.sub (ws' := [(h0, .inr (7, [.ref im, .ref pr, .ref ra, .int cn, .int vw, .int wr])), (im, .inr (1, [.ref iq, .int L])), (iq, .inl (cB, n, .inl f))]) [0, 1, 2] rfl
        have hD9 := hD.sub (ws' := [(h0, .inr (7, [.ref im, .ref pr, .ref ra, .int cn, .int vw, .int wr])), (im, .inr (1, [.ref iq, .int L])), (iq, .inl (cB, n, .inl f))]) [0, 1, 2] (by decide +kernel) rfl
        exact W.zret (v := 0) hx hb hr (by first | rfl | decide | exact i_narZ (by omega)) (fun t ht hW => ⟨⟨0, (), rfl, (by (try dsimp only); first | assumption | omega | trivial), by rw [ht]; exact hP9, hD9⟩, hS.F ht⟩) hS.2.2 d_Reader_isWanted_42
      · skip
        have g34_31 : ¬ r8.toInt = 0 := fun h8 => h_9 ((i_eq rfl (by decide)).mpr h8)
        refine lv_iconst (v := 1) hx hb d_Reader_isWanted_37 (by decide) ?_
        refine lv_goto (tgt := 42) hx hb d_Reader_isWanted_38 (by decide) ?_
        have hP9 := hP.sub (ws' := [(h0, .inr (7, [.ref im, .ref pr, .ref ra, .int cn, .int vw, .int wr])), (im, .inr (1, [.ref iq, .int L])), (iq, .inl (cB, n, .inl f))]) [0, 1, 2] rfl
        have hD9 := hD.sub (ws' := [(h0, .inr (7, [.ref im, .ref pr, .ref ra, .int cn, .int vw, .int wr])), (im, .inr (1, [.ref iq, .int L])), (iq, .inl (cB, n, .inl f))]) [0, 1, 2] (by decide +kernel) rfl
        exact W.zret (v := 1) hx hb hr (by first | rfl | decide | exact i_narZ (by omega)) (fun t ht hW => ⟨⟨1, (), rfl, (by (try dsimp only); first | assumption | omega | trivial), by rw [ht]; exact hP9, hD9⟩, hS.F ht⟩) hS.2.2 d_Reader_isWanted_42

theorem d_Reader_findDescriptor_0 : decode b_Reader_findDescriptor 0 = .ok (.iconst (-1), 1) := by decide +kernel
theorem d_Reader_findDescriptor_1 : decode b_Reader_findDescriptor 1 = .ok (.istore_n 1, 1) := by decide +kernel
theorem d_Reader_findDescriptor_2 : decode b_Reader_findDescriptor 2 = .ok (.ldc 54, 2) := by decide +kernel
theorem d_Reader_findDescriptor_4 : decode b_Reader_findDescriptor 4 = .ok (.istore_n 2, 1) := by decide +kernel
theorem d_Reader_findDescriptor_5 : decode b_Reader_findDescriptor 5 = .ok (.iload_n 2, 1) := by decide +kernel
theorem d_Reader_findDescriptor_6 : decode b_Reader_findDescriptor 6 = .ok (.aload_n 0, 1) := by decide +kernel
theorem d_Reader_findDescriptor_7 : decode b_Reader_findDescriptor 7 = .ok (.getfield 17, 3) := by decide +kernel
theorem d_Reader_findDescriptor_10 : decode b_Reader_findDescriptor 10 = .ok (.getfield 55, 3) := by decide +kernel
theorem d_Reader_findDescriptor_13 : decode b_Reader_findDescriptor 13 = .ok (.if_icmp .ge 73, 3) := by decide +kernel
theorem d_Reader_findDescriptor_16 : decode b_Reader_findDescriptor 16 = .ok (.aload_n 0, 1) := by decide +kernel
theorem d_Reader_findDescriptor_17 : decode b_Reader_findDescriptor 17 = .ok (.getfield 17, 3) := by decide +kernel
theorem d_Reader_findDescriptor_20 : decode b_Reader_findDescriptor 20 = .ok (.iload_n 2, 1) := by decide +kernel
theorem d_Reader_findDescriptor_21 : decode b_Reader_findDescriptor 21 = .ok (.iconst 1, 1) := by decide +kernel
theorem d_Reader_findDescriptor_22 : decode b_Reader_findDescriptor 22 = .ok (.iadd, 1) := by decide +kernel
theorem d_Reader_findDescriptor_23 : decode b_Reader_findDescriptor 23 = .ok (.getstatic 60, 3) := by decide +kernel
theorem d_Reader_findDescriptor_26 : decode b_Reader_findDescriptor 26 = .ok (.invokevirtual 64, 3) := by decide +kernel
theorem d_Reader_findDescriptor_29 : decode b_Reader_findDescriptor 29 = .ok (.ifCond .eq 57, 3) := by decide +kernel
theorem d_Reader_findDescriptor_32 : decode b_Reader_findDescriptor 32 = .ok (.aload_n 0, 1) := by decide +kernel
theorem d_Reader_findDescriptor_33 : decode b_Reader_findDescriptor 33 = .ok (.getfield 17, 3) := by decide +kernel
theorem d_Reader_findDescriptor_36 : decode b_Reader_findDescriptor 36 = .ok (.iload_n 2, 1) := by decide +kernel
theorem d_Reader_findDescriptor_37 : decode b_Reader_findDescriptor 37 = .ok (.invokevirtual 68, 3) := by decide +kernel
theorem d_Reader_findDescriptor_40 : decode b_Reader_findDescriptor 40 = .ok (.sipush 255, 3) := by decide +kernel
theorem d_Reader_findDescriptor_43 : decode b_Reader_findDescriptor 43 = .ok (.if_icmp .ne 19, 3) := by decide +kernel
theorem d_Reader_findDescriptor_46 : decode b_Reader_findDescriptor 46 = .ok (.aload_n 0, 1) := by decide +kernel
theorem d_Reader_findDescriptor_47 : decode b_Reader_findDescriptor 47 = .ok (.iload_n 1, 1) := by decide +kernel
theorem d_Reader_findDescriptor_48 : decode b_Reader_findDescriptor 48 = .ok (.iconst (-1), 1) := by decide +kernel
theorem d_Reader_findDescriptor_49 : decode b_Reader_findDescriptor 49 = .ok (.if_icmp .ne 7, 3) := by decide +kernel
theorem d_Reader_findDescriptor_52 : decode b_Reader_findDescriptor 52 = .ok (.iload_n 2, 1) := by decide +kernel
theorem d_Reader_findDescriptor_53 : decode b_Reader_findDescriptor 53 = .ok (.goto 4, 3) := by decide +kernel
theorem d_Reader_findDescriptor_56 : decode b_Reader_findDescriptor 56 = .ok (.iconst (-1), 1) := by decide +kernel
theorem d_Reader_findDescriptor_57 : decode b_Reader_findDescriptor 57 = .ok (.putfield 37, 3) := by decide +kernel
theorem d_Reader_findDescriptor_60 : decode b_Reader_findDescriptor 60 = .ok (.iload_n 1, 1) := by decide +kernel
theorem d_Reader_findDescriptor_61 : decode b_Reader_findDescriptor 61 = .ok (.ireturn, 1) := by decide +kernel
theorem d_Reader_findDescriptor_62 : decode b_Reader_findDescriptor 62 = .ok (.iload_n 1, 1) := by decide +kernel
theorem d_Reader_findDescriptor_63 : decode b_Reader_findDescriptor 63 = .ok (.iconst (-1), 1) := by decide +kernel
theorem d_Reader_findDescriptor_64 : decode b_Reader_findDescriptor 64 = .ok (.if_icmp .ne 13, 3) := by decide +kernel
theorem d_Reader_findDescriptor_67 : decode b_Reader_findDescriptor 67 = .ok (.aload_n 0, 1) := by decide +kernel
theorem d_Reader_findDescriptor_68 : decode b_Reader_findDescriptor 68 = .ok (.iload_n 2, 1) := by decide +kernel
theorem d_Reader_findDescriptor_69 : decode b_Reader_findDescriptor 69 = .ok (.invokevirtual 71, 3) := by decide +kernel
theorem d_Reader_findDescriptor_72 : decode b_Reader_findDescriptor 72 = .ok (.ifCond .eq 5, 3) := by decide +kernel
theorem d_Reader_findDescriptor_75 : decode b_Reader_findDescriptor 75 = .ok (.iload_n 2, 1) := by decide +kernel
theorem d_Reader_findDescriptor_76 : decode b_Reader_findDescriptor 76 = .ok (.istore_n 1, 1) := by decide +kernel
theorem d_Reader_findDescriptor_77 : decode b_Reader_findDescriptor 77 = .ok (.iinc 2 2048, 6) := by decide +kernel
theorem d_Reader_findDescriptor_83 : decode b_Reader_findDescriptor 83 = .ok (.goto (-78), 3) := by decide +kernel
theorem d_Reader_findDescriptor_86 : decode b_Reader_findDescriptor 86 = .ok (.aload_n 0, 1) := by decide +kernel
theorem d_Reader_findDescriptor_87 : decode b_Reader_findDescriptor 87 = .ok (.iload_n 2, 1) := by decide +kernel
theorem d_Reader_findDescriptor_88 : decode b_Reader_findDescriptor 88 = .ok (.putfield 37, 3) := by decide +kernel
theorem d_Reader_findDescriptor_91 : decode b_Reader_findDescriptor 91 = .ok (.iconst (-1), 1) := by decide +kernel
theorem d_Reader_findDescriptor_92 : decode b_Reader_findDescriptor 92 = .ok (.ireturn, 1) := by decide +kernel
set_option maxHeartbeats 4000000 in
set_option maxRecDepth 100000 in
theorem c3_findDescriptor (l : Launch) (D : va_G) (cB cI cJ cZ cN cF : ClassId) (sz : Nat) (h0 : Nat) (pr : Nat) (ra : Nat) (im : Nat) (iq : Nat) (n : Nat) (L : Int32) (f : Nat → Int32) (cn : Int32) (vw : Int32) (wr : Int32) (td : Nat) (ts : Nat) (tl : Nat) (gd : Nat → Int32) (gs : Nat → Int32) (gl : Nat → Int32) (hL : 0 ≤ L.toInt ∧ L.toInt ≤ n) (hn : n ≤ 3000000) : Met l y_Reader_findDescriptor w_Reader_findDescriptor ({ frames := 3, cells := 0, slots := 0, locals := 83 }) (va_Pc [.ref h0] (fun U => U.heap.size = sz ∧ va_P D CL [(h0, .inr (7, [.ref im, .ref pr, .ref ra, .int cn, .int vw, .int wr])), (im, .inr (1, [.ref iq, .int L])), (iq, .inl (cB, n, .inl f))] U.heap ∧ va_K D CL (TY cB cI cJ cZ cN cF) U ∧ NN U ∧ va_D (fun _ => True) [(h0, .inr (7, [.ref im, .ref pr, .ref ra, .int cn, .int vw, .int wr])), (im, .inr (1, [.ref iq, .int L])), (iq, .inl (cB, n, .inl f))] ∧ SZ td ts tl gd gs gl (va_A [(h0, .inr (7, [.ref im, .ref pr, .ref ra, .int cn, .int vw, .int wr])), (im, .inr (1, [.ref iq, .int L])), (iq, .inl (cB, n, .inl f))] sz) U U.heap)) (va_Qi (fun (r : Int32) (u : Int32) => match u with | w2 => ((-1) ≤ r.toInt ∧ r.toInt ≤ 3010000)) (fun (u : Int32) (t : State) => match u with | w2 => va_P D CL [(h0, .inr (7, [.ref im, .ref pr, .ref ra, .int cn, .int vw, .int w2])), (im, .inr (1, [.ref iq, .int L])), (iq, .inl (cB, n, .inl f))] t.heap ∧ va_D (va_A [(h0, .inr (7, [.ref im, .ref pr, .ref ra, .int cn, .int vw, .int wr])), (im, .inr (1, [.ref iq, .int L])), (iq, .inl (cB, n, .inl f))] sz) [(h0, .inr (7, [.ref im, .ref pr, .ref ra, .int cn, .int vw, .int w2])), (im, .inr (1, [.ref iq, .int L])), (iq, .inl (cB, n, .inl f))]) (va_A [(h0, .inr (7, [.ref im, .ref pr, .ref ra, .int cn, .int vw, .int wr])), (im, .inr (1, [.ref iq, .int L])), (iq, .inl (cB, n, .inl f))] sz)) 0 0 (va_A [(h0, .inr (7, [.ref im, .ref pr, .ref ra, .int cn, .int vw, .int wr])), (im, .inr (1, [.ref iq, .int L])), (iq, .inl (cB, n, .inl f))] sz) := by
  refine Met.ofW (cc := b_Reader_findDescriptor) (maxL := 3) (ret := some .int) (by decide +kernel) rfl ?_
  intro p e s m args below meth c s₁ B hml hv
  obtain ⟨rfl, hsz, hP, hK, hN, hD0, hZs⟩ := hv
  have hx := B.exec
  have hb := B.bytes
  have hr := B.returns
  have hts := atoms_spec (ws := w_Reader_findDescriptor) B.pre
  have ht9 := fun (w : Cond) (h : w ∈ lw_g) => hts w (List.mem_cons_of_mem _ h)
  have hown : s.vm.findClass "DiscMaker$Reader" = some m.cls := findClass_of_methodNamed B.named
  have hlocks := B.notSynchronized
  subst hsz
  have hD := hD0.self (sz := s.heap.size)
  generalize hAe : va_A [(h0, .inr (7, [.ref im, .ref pr, .ref ra, .int cn, .int vw, .int wr])), (im, .inr (1, [.ref iq, .int L])), (iq, .inl (cB, n, .inl f))] s.heap.size = A at hD hZs ⊢
  have hA : ∀ q : Nat, s.heap.size ≤ q → A q := fun q h => by rw [← hAe]; exact Or.inr h
  have hS : va_S A s.heap s.heap [] := va_S.rf
  have hP : va_P D CL [(h0, .inr (7, [.ref im, .ref pr, .ref ra, .int cn, .int vw, .int wr])), (im, .inr (1, [.ref iq, .int L])), (iq, .inl (cB, n, .inl f))] s.heap := hP
  have hl := lv_entry [.ref h0] (n := 3) (Nat.le_of_ble_eq_true rfl)
  rw [lg_entry_eq]
  generalize (lg_sl [.ref h0] ++ List.replicate (3 - (lg_sl [.ref h0]).length) Slot.unset).toArray = ls at hl ⊢
  have hl : lv_has ls 3 [(0, .ref h0)] := hl
  have L_m1 : ((-1) : Int32).toInt = (-1) := by decide
  have L_0 : (0 : Int32).toInt = 0 := by decide
  have L_1 : (1 : Int32).toInt = 1 := by decide
  have L_255 : (255 : Int32).toInt = 255 := by decide
  have L_32768 : (32768 : Int32).toInt = 32768 := by decide
  refine lv_iconst (v := (-1)) hx hb d_Reader_findDescriptor_0 (by decide) ?_
  refine lv_istore_n hx hb d_Reader_findDescriptor_1 rfl hl (by decide) rfl (fun ls hl => ?_)
  have hl : lv_has ls 3 [(1, .int (-1)), (0, .ref h0)] := hl
  refine lv_ldc (v := 32768) hx hb hown (ht9 _ k1173) d_Reader_findDescriptor_2 ?_
  refine lv_istore_n hx hb d_Reader_findDescriptor_4 rfl hl (by decide) rfl (fun ls hl => ?_)
  have hl : lv_has ls 3 [(2, .int 32768), (1, .int (-1)), (0, .ref h0)] := hl
  refine zz_labM (B := fun (lk : Nat) (K : Heap → List Loc → Array Slot → List Value → Prop) => ∀ (wa : Int32) (la : Int32) (H : Heap) (locs : List Loc) (ls : Array Slot), lk = (3010000 - la.toInt).toNat → (32768 ≤ la.toInt ∧ la.toInt ≤ 3005000) → ((-1) ≤ wa.toInt ∧ wa.toInt ≤ 3005000) → va_P D CL [(h0, .inr (7, [.ref im, .ref pr, .ref ra, .int cn, .int vw, .int wr])), (im, .inr (1, [.ref iq, .int L])), (iq, .inl (cB, n, .inl f))] H → va_D A [(h0, .inr (7, [.ref im, .ref pr, .ref ra, .int cn, .int vw, .int wr])), (im, .inr (1, [.ref iq, .int L])), (iq, .inl (cB, n, .inl f))] → va_S A s.heap H locs → lv_has ls 3 [(0, .ref h0), (1, .int wa), (2, .int la)] → K H locs ls []) 5 ?_ ?_
  · skip
    intro lk ih5 wa la H locs ls hm5 e1 e2 hP hD hS hl
    refine lv_iload_n hx hb d_Reader_findDescriptor_5 rfl (lv_at hl 2 rfl) ?_
    refine lv_aload_n hx hb d_Reader_findDescriptor_6 rfl (lv_at hl 0 rfl) ?_
    refine va_get (D := D) (ci := 7) (v := .ref im) (C := "DiscMaker$Reader") (T := F_Reader) (N := 6) hx hb ht9 in_Reader hown hK hP 0 rfl rfl 0 (by decide) (ht9 _ k412) (fun _ h9 => h9) rfl d_Reader_findDescriptor_7 ?_
    refine va_getN (D := D) (ci := 1) (v := .int L) (C := "DiscMaker$Bytes") (T := F_Bytes) (N := 2) hx hb ht9 in_Bytes hown hK hP 1 rfl rfl 1 (by decide) (va_Nw.use rfl (hN _ k260)) (fun _ h9 => h9) rfl d_Reader_findDescriptor_10 ?_
    refine lv_icmp_ge (tgt := 86) hx hb d_Reader_findDescriptor_13 (by decide) (fun h_9 => ?_) (fun h_9 => ?_)
    · skip
      have g13_9 : L.toInt ≤ la.toInt := (i_le rfl rfl).mp h_9
      refine lv_aload_n hx hb d_Reader_findDescriptor_86 rfl (lv_at hl 0 rfl) ?_
      refine lv_iload_n hx hb d_Reader_findDescriptor_87 rfl (lv_at hl 2 rfl) ?_
      refine va_put (D := D) (ci := 7) (v := .int la) (ty := .int) (C := "DiscMaker$Reader") (T := F_Reader) (N := 6) hx hb ht9 in_Reader t_Reader t_Reader_ok n_Reader hown hK hP hD hS 0 rfl rfl 5 (by decide) (ht9 _ k417) (fun _ h9 => h9) rfl (by decide +kernel) rfl rfl (Nat.le_of_ble_eq_true rfl) d_Reader_findDescriptor_88 (fun H locs hP hD hS => ?_)
      have hP : va_P D CL [(h0, .inr (7, [.ref im, .ref pr, .ref ra, .int cn, .int vw, .int la])), (im, .inr (1, [.ref iq, .int L])), (iq, .inl (cB, n, .inl f))] H := hP
      have hD : va_D A [(h0, .inr (7, [.ref im, .ref pr, .ref ra, .int cn, .int vw, .int la])), (im, .inr (1, [.ref iq, .int L])), (iq, .inl (cB, n, .inl f))] := hD
      refine lv_iconst (v := (-1)) hx hb d_Reader_findDescriptor_91 (by decide) ?_
      have hP9 := hP.sub (ws' := [(h0, .inr (7, [.ref im, .ref pr, .ref ra, .int cn, .int vw, .int la])), (im, .inr (1, [.ref iq, .int L])), (iq, .inl (cB, n, .inl f))]) [0, 1, 2] rfl
      have hD9 := hD.sub (ws' := [(h0, .inr (7, [.ref im, .ref pr, .ref ra, .int cn, .int vw, .int la])), (im, .inr (1, [.ref iq, .int L])), (iq, .inl (cB, n, .inl f))]) [0, 1, 2] (by decide +kernel) rfl
      exact W.iret (v := (-1)) hx hb hr (fun t ht hW => ⟨⟨(-1), la, rfl, (by (try dsimp only); first | assumption | omega | trivial), by rw [ht]; exact hP9, hD9⟩, hS.F ht⟩) hS.2.2 d_Reader_findDescriptor_92
    · skip
      have g13_9 : ¬ L.toInt ≤ la.toInt := fun h8 => h_9 ((i_le rfl rfl).mpr h8)
      refine lv_aload_n hx hb d_Reader_findDescriptor_16 rfl (lv_at hl 0 rfl) ?_
      refine va_get (D := D) (ci := 7) (v := .ref im) (C := "DiscMaker$Reader") (T := F_Reader) (N := 6) hx hb ht9 in_Reader hown hK hP 0 rfl rfl 0 (by decide) (ht9 _ k412) (fun _ h9 => h9) rfl d_Reader_findDescriptor_17 ?_
      refine lv_iload_n hx hb d_Reader_findDescriptor_20 rfl (lv_at hl 2 rfl) ?_
      refine lv_iconst (v := 1) hx hb d_Reader_findDescriptor_21 (by decide) ?_
      refine lv_iadd hx hb d_Reader_findDescriptor_22 ?_
      refine lv_topi (fun v1 e_v1 => ?_)
      have t_v1 : v1.toInt = la.toInt + 1 := by rw [e_v1]; exact i_add rfl (by decide) (by omega) (by omega)
      refine va_getsN (C := "DiscMaker") (n := "STANDARD") (d := "[B") (v := .ref ts) hx hb (hZs.2.1.1) hS hown (va_Nw.use rfl (hN _ k1174)) (fun _ h9 => h9) d_Reader_findDescriptor_23 ?_
      have hPc := hP.sub (ws' := [(im, .inr (1, [.ref iq, .int L])), (iq, .inl (cB, n, .inl f))]) [1, 2] rfl
      have hDc := hD.sub (ws' := [(im, .inr (1, [.ref iq, .int L])), (iq, .inl (cB, n, .inl f))]) [1, 2] (by decide +kernel) rfl
      have hFc := va_free (wc := [(im, .inr (1, [.ref iq, .int L])), (iq, .inl (cB, n, .inl f))]) hD hS hA [1, 2] rfl
      have hkc : 0 ≤ 0 := by decide
      have hks : 0 ≤ 0 := by decide
      refine va_calli (va_runV (C := "DiscMaker$Bytes") (As := [.int v1, .ref ts]) (rest := []) ⟨hx, hb, hml, hown, hts⟩ (c3_holds l D cB cI cJ cZ cN cF H.size im iq n L f ts 6 gs v1 (by (try dsimp only); first | assumption | omega | trivial) (by (try dsimp only); first | assumption | omega | trivial) (by (try dsimp only); first | assumption | omega | trivial)) (cwV 2 hts (lg_goodV k1175 k1176 k1177 k119 kc_Bytes_holds) rfl rfl rfl (by decide +kernel) ⟨Nat.le_of_ble_eq_true rfl, Nat.le_of_ble_eq_true rfl⟩) ⟨fun a U g mk q => by obtain ⟨q0, q1, qP, qK, qN, qD, qZ0⟩ := q; exact ⟨q0, q1, qP, va_K.moved (u := U) (U := U.calling g mk a) (Vm.Alike.refl U.vm) qK, qN.calling, qD, zT_blind qZ0⟩, va_recv hK hP (ci := 1) (q0 := 1) rfl rfl, fun U hU hW => ⟨rfl, by rw [hU], by rw [hU]; exact hPc, va_K.moved hW.alike hK, NN.warm hW hN, hDc.weaken (fun _ _ _ _ => trivial), zT_pass hZs.2.1.2 hS hFc hW.alike hU⟩⟩ rfl rfl hl.1 rfl (lv_room (Nat.le_of_ble_eq_true rfl)) d_Reader_findDescriptor_26 ⟨hkc, hks⟩) hS (fun q _ h => hFc q h) hFc (fun r2 u t H1 locs ht hvm hp_r2 hB hz1 hk1 hS => ?_)
      obtain ⟨hP1, hD1⟩ := hB
      rw [ht] at hP1
      obtain ⟨hP, hD⟩ := va_join (wr := [(h0, .inr (7, [.ref im, .ref pr, .ref ra, .int cn, .int vw, .int wr]))]) (w1 := [(im, .inr (1, [.ref iq, .int L])), (iq, .inl (cB, n, .inl f))]) hP hD [1, 2] [0] rfl rfl (by decide +kernel) (by decide +kernel) hk1 hFc hP1 hD1
      clear hPc hDc hFc hP1 hD1 hk1 hz1 hkc hks
      generalize H1 = H at hP hS ⊢
      have hP : va_P D CL [(h0, .inr (7, [.ref im, .ref pr, .ref ra, .int cn, .int vw, .int wr])), (im, .inr (1, [.ref iq, .int L])), (iq, .inl (cB, n, .inl f))] H := hP
      have hD : va_D A [(h0, .inr (7, [.ref im, .ref pr, .ref ra, .int cn, .int vw, .int wr])), (im, .inr (1, [.ref iq, .int L])), (iq, .inl (cB, n, .inl f))] := hD
      try dsimp only at hp_r2
      have hr_3 := hp_r2
      refine lv_if_eq (tgt := 86) hx hb d_Reader_findDescriptor_29 (by decide) (fun h_9 => ?_) (fun h_9 => ?_)
      · skip
        have g29_22 : r2.toInt = 0 := (i_eq rfl (by decide)).mp h_9
        refine lv_aload_n hx hb d_Reader_findDescriptor_86 rfl (lv_at hl 0 rfl) ?_
        refine lv_iload_n hx hb d_Reader_findDescriptor_87 rfl (lv_at hl 2 rfl) ?_
        refine va_put (D := D) (ci := 7) (v := .int la) (ty := .int) (C := "DiscMaker$Reader") (T := F_Reader) (N := 6) hx hb ht9 in_Reader t_Reader t_Reader_ok n_Reader hown hK hP hD hS 0 rfl rfl 5 (by decide) (ht9 _ k417) (fun _ h9 => h9) rfl (by decide +kernel) rfl rfl (Nat.le_of_ble_eq_true rfl) d_Reader_findDescriptor_88 (fun H locs hP hD hS => ?_)
        have hP : va_P D CL [(h0, .inr (7, [.ref im, .ref pr, .ref ra, .int cn, .int vw, .int la])), (im, .inr (1, [.ref iq, .int L])), (iq, .inl (cB, n, .inl f))] H := hP
        have hD : va_D A [(h0, .inr (7, [.ref im, .ref pr, .ref ra, .int cn, .int vw, .int la])), (im, .inr (1, [.ref iq, .int L])), (iq, .inl (cB, n, .inl f))] := hD
        refine lv_iconst (v := (-1)) hx hb d_Reader_findDescriptor_91 (by decide) ?_
        have hP9 := hP.sub (ws' := [(h0, .inr (7, [.ref im, .ref pr, .ref ra, .int cn, .int vw, .int la])), (im, .inr (1, [.ref iq, .int L])), (iq, .inl (cB, n, .inl f))]) [0, 1, 2] rfl
        have hD9 := hD.sub (ws' := [(h0, .inr (7, [.ref im, .ref pr, .ref ra, .int cn, .int vw, .int la])), (im, .inr (1, [.ref iq, .int L])), (iq, .inl (cB, n, .inl f))]) [0, 1, 2] (by decide +kernel) rfl
        exact W.iret (v := (-1)) hx hb hr (fun t ht hW => ⟨⟨(-1), la, rfl, (by (try dsimp only); first | assumption | omega | trivial), by rw [ht]; exact hP9, hD9⟩, hS.F ht⟩) hS.2.2 d_Reader_findDescriptor_92
      · skip
        have g29_22 : ¬ r2.toInt = 0 := fun h8 => h_9 ((i_eq rfl (by decide)).mpr h8)
        refine lv_aload_n hx hb d_Reader_findDescriptor_32 rfl (lv_at hl 0 rfl) ?_
        refine va_get (D := D) (ci := 7) (v := .ref im) (C := "DiscMaker$Reader") (T := F_Reader) (N := 6) hx hb ht9 in_Reader hown hK hP 0 rfl rfl 0 (by decide) (ht9 _ k412) (fun _ h9 => h9) rfl d_Reader_findDescriptor_33 ?_
        refine lv_iload_n hx hb d_Reader_findDescriptor_36 rfl (lv_at hl 2 rfl) ?_
        have hPc := hP.sub (ws' := [(im, .inr (1, [.ref iq, .int L])), (iq, .inl (cB, n, .inl f))]) [1, 2] rfl
        have hDc := hD.sub (ws' := [(im, .inr (1, [.ref iq, .int L])), (iq, .inl (cB, n, .inl f))]) [1, 2] (by decide +kernel) rfl
        have hFc := va_free (wc := [(im, .inr (1, [.ref iq, .int L])), (iq, .inl (cB, n, .inl f))]) hD hS hA [1, 2] rfl
        have hkc : 0 ≤ 0 := by decide
        have hks : 0 ≤ 0 := by decide
        refine va_calli (va_runV (C := "DiscMaker$Bytes") (As := [.int la]) (rest := []) ⟨hx, hb, hml, hown, hts⟩ (c3_at l D cB cI cJ cZ cN cF H.size im iq n L f la (by (try dsimp only); first | assumption | omega | trivial) (by (try dsimp only); first | assumption | omega | trivial)) (cwV 1 hts (lg_goodV k1179 k1065 k1066 k119 kc_Bytes_at) rfl rfl rfl (by decide +kernel) ⟨Nat.le_of_ble_eq_true rfl, Nat.le_of_ble_eq_true rfl⟩) ⟨fun a U g mk q => by obtain ⟨q0, q1, qP, qK, qN, qD⟩ := q; exact ⟨q0, q1, qP, va_K.moved (u := U) (U := U.calling g mk a) (Vm.Alike.refl U.vm) qK, qN.calling, qD⟩, va_recv hK hP (ci := 1) (q0 := 1) rfl rfl, fun U hU hW => ⟨rfl, by rw [hU], by rw [hU]; exact hPc, va_K.moved hW.alike hK, NN.warm hW hN, hDc.weaken (fun _ _ _ _ => trivial)⟩⟩ rfl rfl hl.1 rfl (lv_room (Nat.le_of_ble_eq_true rfl)) d_Reader_findDescriptor_37 ⟨hkc, hks⟩) hS (fun q _ h => hFc q h) hFc (fun r4 u t H1 locs ht hvm hp_r4 hB hz1 hk1 hS => ?_)
        obtain ⟨hP1, hD1⟩ := hB
        rw [ht] at hP1
        obtain ⟨hP, hD⟩ := va_join (wr := [(h0, .inr (7, [.ref im, .ref pr, .ref ra, .int cn, .int vw, .int wr]))]) (w1 := [(im, .inr (1, [.ref iq, .int L])), (iq, .inl (cB, n, .inl f))]) hP hD [1, 2] [0] rfl rfl (by decide +kernel) (by decide +kernel) hk1 hFc hP1 hD1
        clear hPc hDc hFc hP1 hD1 hk1 hz1 hkc hks
        generalize H1 = H at hP hS ⊢
        have hP : va_P D CL [(h0, .inr (7, [.ref im, .ref pr, .ref ra, .int cn, .int vw, .int wr])), (im, .inr (1, [.ref iq, .int L])), (iq, .inl (cB, n, .inl f))] H := hP
        have hD : va_D A [(h0, .inr (7, [.ref im, .ref pr, .ref ra, .int cn, .int vw, .int wr])), (im, .inr (1, [.ref iq, .int L])), (iq, .inl (cB, n, .inl f))] := hD
        try dsimp only at hp_r4
        obtain ⟨hr_5, hv_6⟩ := hp_r4
        refine lv_sipush (v := 255) hx hb d_Reader_findDescriptor_40 (by decide) ?_
        refine lv_icmp_ne (tgt := 62) hx hb d_Reader_findDescriptor_43 (by decide) (fun h_9 => ?_) (fun h_9 => ?_)
        · skip
          have g43_33 : ¬ r4.toInt = 255 := fun h8 => h_9 ((i_eq rfl (by decide)).mpr h8)
          refine lv_iload_n hx hb d_Reader_findDescriptor_62 rfl (lv_at hl 1 rfl) ?_
          refine lv_iconst (v := (-1)) hx hb d_Reader_findDescriptor_63 (by decide) ?_
          refine lv_icmp_ne (tgt := 77) hx hb d_Reader_findDescriptor_64 (by decide) (fun h_9 => ?_) (fun h_9 => ?_)
          · skip
            have g64_36 : ¬ wa.toInt = (-1) := fun h8 => h_9 ((i_eq rfl (by decide)).mpr h8)
            obtain ⟨v7, e_v7⟩ : ∃ z : Int32, z = la + 2048 := ⟨_, rfl⟩
            refine lv_iincW (v := v7) hx hb d_Reader_findDescriptor_77 hl (k := 2) rfl e_v7.symm (by decide +kernel) rfl (fun ls hl => ?_)
            have t_v7 : v7.toInt = la.toInt + 2048 := by rw [e_v7]; exact i_add rfl (by decide) (by omega) (by omega)
            have hl : lv_has ls 3 [(2, .int v7), (0, .ref h0), (1, .int wa)] := hl
            refine lv_goto (tgt := 5) hx hb d_Reader_findDescriptor_83 (by decide) ?_
            have hP := hP.sub (ws' := [(h0, .inr (7, [.ref im, .ref pr, .ref ra, .int cn, .int vw, .int wr])), (im, .inr (1, [.ref iq, .int L])), (iq, .inl (cB, n, .inl f))]) [0, 1, 2] rfl
            have hD := hD.sub (ws' := [(h0, .inr (7, [.ref im, .ref pr, .ref ra, .int cn, .int vw, .int wr])), (im, .inr (1, [.ref iq, .int L])), (iq, .inl (cB, n, .inl f))]) [0, 1, 2] (by decide +kernel) rfl
            have hl := lv_sub hl [1, 2, 0] rfl
            exact ih5 _ (by first | omega | (dsimp only; omega)) wa v7 _ _ _ rfl ((by (try dsimp only); first | assumption | omega | trivial)) ((by (try dsimp only); first | assumption | omega | trivial)) hP hD hS hl
          · skip
            have g64_36 : wa.toInt = (-1) := (i_eq rfl (by decide)).mp h_9
            refine lv_aload_n hx hb d_Reader_findDescriptor_67 rfl (lv_at hl 0 rfl) ?_
            refine lv_iload_n hx hb d_Reader_findDescriptor_68 rfl (lv_at hl 2 rfl) ?_
            have hPc := hP.sub (ws' := [(h0, .inr (7, [.ref im, .ref pr, .ref ra, .int cn, .int vw, .int wr])), (im, .inr (1, [.ref iq, .int L])), (iq, .inl (cB, n, .inl f))]) [0, 1, 2] rfl
            have hDc := hD.sub (ws' := [(h0, .inr (7, [.ref im, .ref pr, .ref ra, .int cn, .int vw, .int wr])), (im, .inr (1, [.ref iq, .int L])), (iq, .inl (cB, n, .inl f))]) [0, 1, 2] (by decide +kernel) rfl
            have hFc := va_free (wc := [(h0, .inr (7, [.ref im, .ref pr, .ref ra, .int cn, .int vw, .int wr])), (im, .inr (1, [.ref iq, .int L])), (iq, .inl (cB, n, .inl f))]) hD hS hA [0, 1, 2] rfl
            have hkc : 0 ≤ 0 := by decide
            have hks : 0 ≤ 0 := by decide
            refine va_calli (va_runV (C := "DiscMaker$Reader") (As := [.int la]) (rest := []) ⟨hx, hb, hml, hown, hts⟩ (c3_isWanted l D cB cI cJ cZ cN cF H.size h0 pr ra im iq n L f cn vw wr td ts tl gd gs gl la (by (try dsimp only); first | assumption | omega | trivial) (by (try dsimp only); first | assumption | omega | trivial) (by (try dsimp only); first | assumption | omega | trivial)) (cwV 1 hts (lg_goodV k1180 k1182 k32 k123 kc_Reader_isWanted) rfl rfl rfl (by decide +kernel) ⟨Nat.le_of_ble_eq_true rfl, Nat.le_of_ble_eq_true rfl⟩) ⟨fun a U g mk q => by obtain ⟨q0, q1, qP, qK, qN, qD, qZ0⟩ := q; exact ⟨q0, q1, qP, va_K.moved (u := U) (U := U.calling g mk a) (Vm.Alike.refl U.vm) qK, qN.calling, qD, SZ_blind qZ0⟩, va_recv hK hP (ci := 7) (q0 := 0) rfl rfl, fun U hU hW => ⟨rfl, by rw [hU], by rw [hU]; exact hPc, va_K.moved hW.alike hK, NN.warm hW hN, hDc.weaken (fun _ _ _ _ => trivial), SZ_pass hZs hS hFc hW.alike hU⟩⟩ rfl rfl hl.1 rfl (lv_room (Nat.le_of_ble_eq_true rfl)) d_Reader_findDescriptor_69 ⟨hkc, hks⟩) hS (fun q _ h => hFc q h) hFc (fun r8 u t H1 locs ht hvm hp_r8 hB hz1 hk1 hS => ?_)
            obtain ⟨hP1, hD1⟩ := hB
            rw [ht] at hP1
            obtain ⟨hP, hD⟩ := va_join (wr := []) (w1 := [(h0, .inr (7, [.ref im, .ref pr, .ref ra, .int cn, .int vw, .int wr])), (im, .inr (1, [.ref iq, .int L])), (iq, .inl (cB, n, .inl f))]) hP hD [0, 1, 2] [] rfl rfl (by decide +kernel) (by decide +kernel) hk1 hFc hP1 hD1
            clear hPc hDc hFc hP1 hD1 hk1 hz1 hkc hks
            generalize H1 = H at hP hS ⊢
            have hP : va_P D CL [(h0, .inr (7, [.ref im, .ref pr, .ref ra, .int cn, .int vw, .int wr])), (im, .inr (1, [.ref iq, .int L])), (iq, .inl (cB, n, .inl f))] H := hP
            have hD : va_D A [(h0, .inr (7, [.ref im, .ref pr, .ref ra, .int cn, .int vw, .int wr])), (im, .inr (1, [.ref iq, .int L])), (iq, .inl (cB, n, .inl f))] := hD
            try dsimp only at hp_r8
            have hr_9 := hp_r8
            refine lv_if_eq (tgt := 77) hx hb d_Reader_findDescriptor_72 (by decide) (fun h_9 => ?_) (fun h_9 => ?_)
            · skip
              have g72_43 : r8.toInt = 0 := (i_eq rfl (by decide)).mp h_9
              obtain ⟨v10, e_v10⟩ : ∃ z : Int32, z = la + 2048 := ⟨_, rfl⟩
              refine lv_iincW (v := v10) hx hb d_Reader_findDescriptor_77 hl (k := 2) rfl e_v10.symm (by decide +kernel) rfl (fun ls hl => ?_)
              have t_v10 : v10.toInt = la.toInt + 2048 := by rw [e_v10]; exact i_add rfl (by decide) (by omega) (by omega)
              have hl : lv_has ls 3 [(2, .int v10), (0, .ref h0), (1, .int wa)] := hl
              refine lv_goto (tgt := 5) hx hb d_Reader_findDescriptor_83 (by decide) ?_
              have hP := hP.sub (ws' := [(h0, .inr (7, [.ref im, .ref pr, .ref ra, .int cn, .int vw, .int wr])), (im, .inr (1, [.ref iq, .int L])), (iq, .inl (cB, n, .inl f))]) [0, 1, 2] rfl
              have hD := hD.sub (ws' := [(h0, .inr (7, [.ref im, .ref pr, .ref ra, .int cn, .int vw, .int wr])), (im, .inr (1, [.ref iq, .int L])), (iq, .inl (cB, n, .inl f))]) [0, 1, 2] (by decide +kernel) rfl
              have hl := lv_sub hl [1, 2, 0] rfl
              exact ih5 _ (by first | omega | (dsimp only; omega)) wa v10 _ _ _ rfl ((by (try dsimp only); first | assumption | omega | trivial)) ((by (try dsimp only); first | assumption | omega | trivial)) hP hD hS hl
            · skip
              have g72_43 : ¬ r8.toInt = 0 := fun h8 => h_9 ((i_eq rfl (by decide)).mpr h8)
              refine lv_iload_n hx hb d_Reader_findDescriptor_75 rfl (lv_at hl 2 rfl) ?_
              refine lv_istore_n hx hb d_Reader_findDescriptor_76 rfl hl (by decide) rfl (fun ls hl => ?_)
              have hl : lv_has ls 3 [(1, .int la), (0, .ref h0), (2, .int la)] := hl
              obtain ⟨v11, e_v11⟩ : ∃ z : Int32, z = la + 2048 := ⟨_, rfl⟩
              refine lv_iincW (v := v11) hx hb d_Reader_findDescriptor_77 hl (k := 2) rfl e_v11.symm (by decide +kernel) rfl (fun ls hl => ?_)
              have t_v11 : v11.toInt = la.toInt + 2048 := by rw [e_v11]; exact i_add rfl (by decide) (by omega) (by omega)
              have hl : lv_has ls 3 [(2, .int v11), (1, .int la), (0, .ref h0)] := hl
              refine lv_goto (tgt := 5) hx hb d_Reader_findDescriptor_83 (by decide) ?_
              have hP := hP.sub (ws' := [(h0, .inr (7, [.ref im, .ref pr, .ref ra, .int cn, .int vw, .int wr])), (im, .inr (1, [.ref iq, .int L])), (iq, .inl (cB, n, .inl f))]) [0, 1, 2] rfl
              have hD := hD.sub (ws' := [(h0, .inr (7, [.ref im, .ref pr, .ref ra, .int cn, .int vw, .int wr])), (im, .inr (1, [.ref iq, .int L])), (iq, .inl (cB, n, .inl f))]) [0, 1, 2] (by decide +kernel) rfl
              have hl := lv_sub hl [2, 1, 0] rfl
              exact ih5 _ (by first | omega | (dsimp only; omega)) la v11 _ _ _ rfl ((by (try dsimp only); first | assumption | omega | trivial)) ((by (try dsimp only); first | assumption | omega | trivial)) hP hD hS hl
        · skip
          have g43_33 : r4.toInt = 255 := (i_eq rfl (by decide)).mp h_9
          refine lv_aload_n hx hb d_Reader_findDescriptor_46 rfl (lv_at hl 0 rfl) ?_
          refine lv_iload_n hx hb d_Reader_findDescriptor_47 rfl (lv_at hl 1 rfl) ?_
          refine lv_iconst (v := (-1)) hx hb d_Reader_findDescriptor_48 (by decide) ?_
          refine lv_icmp_ne (tgt := 56) hx hb d_Reader_findDescriptor_49 (by decide) (fun h_9 => ?_) (fun h_9 => ?_)
          · skip
            have g49_55 : ¬ wa.toInt = (-1) := fun h8 => h_9 ((i_eq rfl (by decide)).mpr h8)
            refine lv_iconst (v := (-1)) hx hb d_Reader_findDescriptor_56 (by decide) ?_
            refine va_put (D := D) (ci := 7) (v := .int (-1)) (ty := .int) (C := "DiscMaker$Reader") (T := F_Reader) (N := 6) hx hb ht9 in_Reader t_Reader t_Reader_ok n_Reader hown hK hP hD hS 0 rfl rfl 5 (by decide) (ht9 _ k417) (fun _ h9 => h9) rfl (by decide +kernel) rfl rfl (Nat.le_of_ble_eq_true rfl) d_Reader_findDescriptor_57 (fun H locs hP hD hS => ?_)
            have hP : va_P D CL [(h0, .inr (7, [.ref im, .ref pr, .ref ra, .int cn, .int vw, .int (-1)])), (im, .inr (1, [.ref iq, .int L])), (iq, .inl (cB, n, .inl f))] H := hP
            have hD : va_D A [(h0, .inr (7, [.ref im, .ref pr, .ref ra, .int cn, .int vw, .int (-1)])), (im, .inr (1, [.ref iq, .int L])), (iq, .inl (cB, n, .inl f))] := hD
            refine lv_iload_n hx hb d_Reader_findDescriptor_60 rfl (lv_at hl 1 rfl) ?_
            have hP9 := hP.sub (ws' := [(h0, .inr (7, [.ref im, .ref pr, .ref ra, .int cn, .int vw, .int (-1)])), (im, .inr (1, [.ref iq, .int L])), (iq, .inl (cB, n, .inl f))]) [0, 1, 2] rfl
            have hD9 := hD.sub (ws' := [(h0, .inr (7, [.ref im, .ref pr, .ref ra, .int cn, .int vw, .int (-1)])), (im, .inr (1, [.ref iq, .int L])), (iq, .inl (cB, n, .inl f))]) [0, 1, 2] (by decide +kernel) rfl
            exact W.iret (v := wa) hx hb hr (fun t ht hW => ⟨⟨wa, (-1), rfl, (by (try dsimp only); first | assumption | omega | trivial), by rw [ht]; exact hP9, hD9⟩, hS.F ht⟩) hS.2.2 d_Reader_findDescriptor_61
          · skip
            have g49_55 : wa.toInt = (-1) := (i_eq rfl (by decide)).mp h_9
            refine lv_iload_n hx hb d_Reader_findDescriptor_52 rfl (lv_at hl 2 rfl) ?_
            refine lv_goto (tgt := 57) hx hb d_Reader_findDescriptor_53 (by decide) ?_
            refine va_put (D := D) (ci := 7) (v := .int la) (ty := .int) (C := "DiscMaker$Reader") (T := F_Reader) (N := 6) hx hb ht9 in_Reader t_Reader t_Reader_ok n_Reader hown hK hP hD hS 0 rfl rfl 5 (by decide) (ht9 _ k417) (fun _ h9 => h9) rfl (by decide +kernel) rfl rfl (Nat.le_of_ble_eq_true rfl) d_Reader_findDescriptor_57 (fun H locs hP hD hS => ?_)
            have hP : va_P D CL [(h0, .inr (7, [.ref im, .ref pr, .ref ra, .int cn, .int vw, .int la])), (im, .inr (1, [.ref iq, .int L])), (iq, .inl (cB, n, .inl f))] H := hP
            have hD : va_D A [(h0, .inr (7, [.ref im, .ref pr, .ref ra, .int cn, .int vw, .int la])), (im, .inr (1, [.ref iq, .int L])), (iq, .inl (cB, n, .inl f))] := hD
            refine lv_iload_n hx hb d_Reader_findDescriptor_60 rfl (lv_at hl 1 rfl) ?_
            have hP9 := hP.sub (ws' := [(h0, .inr (7, [.ref im, .ref pr, .ref ra, .int cn, .int vw, .int la])), (im, .inr (1, [.ref iq, .int L])), (iq, .inl (cB, n, .inl f))]) [0, 1, 2] rfl
            have hD9 := hD.sub (ws' := [(h0, .inr (7, [.ref im, .ref pr, .ref ra, .int cn, .int vw, .int la])), (im, .inr (1, [.ref iq, .int L])), (iq, .inl (cB, n, .inl f))]) [0, 1, 2] (by decide +kernel) rfl
            exact W.iret (v := wa) hx hb hr (fun t ht hW => ⟨⟨wa, la, rfl, (by (try dsimp only); first | assumption | omega | trivial), by rw [ht]; exact hP9, hD9⟩, hS.F ht⟩) hS.2.2 d_Reader_findDescriptor_61
  · skip
    intro kk5
    have hP := hP.sub (ws' := [(h0, .inr (7, [.ref im, .ref pr, .ref ra, .int cn, .int vw, .int wr])), (im, .inr (1, [.ref iq, .int L])), (iq, .inl (cB, n, .inl f))]) [0, 1, 2] rfl
    have hD := hD.sub (ws' := [(h0, .inr (7, [.ref im, .ref pr, .ref ra, .int cn, .int vw, .int wr])), (im, .inr (1, [.ref iq, .int L])), (iq, .inl (cB, n, .inl f))]) [0, 1, 2] (by decide +kernel) rfl
    have hl := lv_sub hl [2, 1, 0] rfl
    exact kk5 _ (-1) 32768 _ _ _ rfl ((by (try dsimp only); first | assumption | omega | trivial)) ((by (try dsimp only); first | assumption | omega | trivial)) hP hD hS hl

theorem d_Reader_addRow_0 : decode b_Reader_addRow 0 = .ok (.aload_n 0, 1) := by decide +kernel
theorem d_Reader_addRow_1 : decode b_Reader_addRow 1 = .ok (.getfield 11, 3) := by decide +kernel
theorem d_Reader_addRow_4 : decode b_Reader_addRow 4 = .ok (.aload_n 0, 1) := by decide +kernel
theorem d_Reader_addRow_5 : decode b_Reader_addRow 5 = .ok (.getfield 30, 3) := by decide +kernel
theorem d_Reader_addRow_8 : decode b_Reader_addRow 8 = .ok (.aaload, 1) := by decide +kernel
theorem d_Reader_addRow_9 : decode b_Reader_addRow 9 = .ok (.ifnonnull 19, 3) := by decide +kernel
theorem d_Reader_addRow_12 : decode b_Reader_addRow 12 = .ok (.aload_n 0, 1) := by decide +kernel
theorem d_Reader_addRow_13 : decode b_Reader_addRow 13 = .ok (.getfield 11, 3) := by decide +kernel
theorem d_Reader_addRow_16 : decode b_Reader_addRow 16 = .ok (.aload_n 0, 1) := by decide +kernel
theorem d_Reader_addRow_17 : decode b_Reader_addRow 17 = .ok (.getfield 30, 3) := by decide +kernel
theorem d_Reader_addRow_20 : decode b_Reader_addRow 20 = .ok (.new 9, 3) := by decide +kernel
theorem d_Reader_addRow_23 : decode b_Reader_addRow 23 = .ok (.dup, 1) := by decide +kernel
theorem d_Reader_addRow_24 : decode b_Reader_addRow 24 = .ok (.invokespecial 134, 3) := by decide +kernel
theorem d_Reader_addRow_27 : decode b_Reader_addRow 27 = .ok (.aastore, 1) := by decide +kernel
theorem d_Reader_addRow_28 : decode b_Reader_addRow 28 = .ok (.aload_n 0, 1) := by decide +kernel
theorem d_Reader_addRow_29 : decode b_Reader_addRow 29 = .ok (.getfield 11, 3) := by decide +kernel
theorem d_Reader_addRow_32 : decode b_Reader_addRow 32 = .ok (.aload_n 0, 1) := by decide +kernel
theorem d_Reader_addRow_33 : decode b_Reader_addRow 33 = .ok (.getfield 30, 3) := by decide +kernel
theorem d_Reader_addRow_36 : decode b_Reader_addRow 36 = .ok (.aaload, 1) := by decide +kernel
theorem d_Reader_addRow_37 : decode b_Reader_addRow 37 = .ok (.astore 4, 2) := by decide +kernel
theorem d_Reader_addRow_39 : decode b_Reader_addRow 39 = .ok (.aload_n 0, 1) := by decide +kernel
theorem d_Reader_addRow_40 : decode b_Reader_addRow 40 = .ok (.dup, 1) := by decide +kernel
theorem d_Reader_addRow_41 : decode b_Reader_addRow 41 = .ok (.getfield 30, 3) := by decide +kernel
theorem d_Reader_addRow_44 : decode b_Reader_addRow 44 = .ok (.iconst 1, 1) := by decide +kernel
theorem d_Reader_addRow_45 : decode b_Reader_addRow 45 = .ok (.iadd, 1) := by decide +kernel
theorem d_Reader_addRow_46 : decode b_Reader_addRow 46 = .ok (.putfield 30, 3) := by decide +kernel
theorem d_Reader_addRow_49 : decode b_Reader_addRow 49 = .ok (.aload 4, 2) := by decide +kernel
theorem d_Reader_addRow_51 : decode b_Reader_addRow 51 = .ok (.iload_n 1, 1) := by decide +kernel
theorem d_Reader_addRow_52 : decode b_Reader_addRow 52 = .ok (.iload_n 2, 1) := by decide +kernel
theorem d_Reader_addRow_53 : decode b_Reader_addRow 53 = .ok (.aload_n 0, 1) := by decide +kernel
theorem d_Reader_addRow_54 : decode b_Reader_addRow 54 = .ok (.iload_n 3, 1) := by decide +kernel
theorem d_Reader_addRow_55 : decode b_Reader_addRow 55 = .ok (.invokevirtual 89, 3) := by decide +kernel
theorem d_Reader_addRow_58 : decode b_Reader_addRow 58 = .ok (.aload_n 0, 1) := by decide +kernel
theorem d_Reader_addRow_59 : decode b_Reader_addRow 59 = .ok (.iload_n 3, 1) := by decide +kernel
theorem d_Reader_addRow_60 : decode b_Reader_addRow 60 = .ok (.invokevirtual 116, 3) := by decide +kernel
theorem d_Reader_addRow_63 : decode b_Reader_addRow 63 = .ok (.aload_n 0, 1) := by decide +kernel
theorem d_Reader_addRow_64 : decode b_Reader_addRow 64 = .ok (.iload_n 3, 1) := by decide +kernel
theorem d_Reader_addRow_65 : decode b_Reader_addRow 65 = .ok (.invokevirtual 119, 3) := by decide +kernel
theorem d_Reader_addRow_68 : decode b_Reader_addRow 68 = .ok (.invokevirtual 135, 3) := by decide +kernel
theorem d_Reader_addRow_71 : decode b_Reader_addRow 71 = .ok (.return_, 1) := by decide +kernel
set_option maxHeartbeats 4000000 in
set_option maxRecDepth 100000 in
theorem c3_addRow (l : Launch) (D : va_G) (cB cI cJ cZ cN cF : ClassId) (sz : Nat) (h0 : Nat) (pr : Nat) (ra : Nat) (im : Nat) (iq : Nat) (n : Nat) (L : Int32) (f : Nat → Int32) (cn : Int32) (vw : Int32) (wr : Int32) (fa : Nat → Nat → Nat) (ga : Nat → Nat → Int32) (cf : Nat → Nat → Nat → Int32) (md : Nat) (T0 : Nat) (x : Int32) (y : Int32) (z : Int32) (hL : 0 ≤ L.toInt ∧ L.toInt ≤ n) (hn : n ≤ 3000000) (hcn : 0 ≤ cn.toInt ∧ cn.toInt ≤ md) (hmd : md ≤ 99) (hc9 : cn.toInt < 99) (hz : 0 ≤ z.toInt ∧ z.toInt ≤ 1000000000) (hrec : RecC f L z) (hrok : ROK L.toInt cn.toInt ga) : Met l y_Reader_addRow w_Reader_addRow ({ frames := 2, cells := 3, slots := 473, locals := 57 }) (va_Pc [.ref h0, .int x, .int y, .int z] (fun U => U.heap.size = sz ∧ va_P D CL (([(h0, .inr (7, [.ref im, .ref pr, .ref ra, .int cn, .int vw, .int wr])), (ra, .inl (cF, 99, .inr (.inr (.inr (.inr (rowF fa md)))))), (im, .inr (1, [.ref iq, .int L])), (iq, .inl (cB, n, .inl f))] : va_W) ++ (PL (FC cB fa ga cf) md)) U.heap ∧ va_K D CL (TY cB cI cJ cZ cN cF) U ∧ NN U ∧ va_D (fun _ => True) (([(h0, .inr (7, [.ref im, .ref pr, .ref ra, .int cn, .int vw, .int wr])), (ra, .inl (cF, 99, .inr (.inr (.inr (.inr (rowF fa md)))))), (im, .inr (1, [.ref iq, .int L])), (iq, .inl (cB, n, .inl f))] : va_W) ++ (PL (FC cB fa ga cf) md)) ∧ TOT T0 (va_A (([(h0, .inr (7, [.ref im, .ref pr, .ref ra, .int cn, .int vw, .int wr])), (ra, .inl (cF, 99, .inr (.inr (.inr (.inr (rowF fa md)))))), (im, .inr (1, [.ref iq, .int L])), (iq, .inl (cB, n, .inl f))] : va_W) ++ (PL (FC cB fa ga cf) md)) sz) U U.heap)) (va_Qv (fun (u : Int32 × (Nat → Nat → Nat) × (Nat → Nat → Int32) × (Nat → Nat → Nat → Int32) × Nat) => match u with | (cn2, fa2, ga2, cf2, md2) => (cn2.toInt = cn.toInt + 1 ∧ cn2.toInt ≤ md2 ∧ md ≤ md2 ∧ md2 ≤ 99) ∧ (ROK L.toInt cn2.toInt ga2) ∧ ((ga2 cn.toNatClampNeg 8).toInt = 0 ∧ (ga2 cn.toNatClampNeg 9).toInt = 0)) (fun (u : Int32 × (Nat → Nat → Nat) × (Nat → Nat → Int32) × (Nat → Nat → Nat → Int32) × Nat) (t : State) => match u with | (cn2, fa2, ga2, cf2, md2) => (t.heap.size ≤ sz + 3 * (md2 - md) ∧ tot t.heap ≤ T0 + 473 * (md2 - md)) ∧ va_P D CL (([(h0, .inr (7, [.ref im, .ref pr, .ref ra, .int cn2, .int vw, .int wr])), (ra, .inl (cF, 99, .inr (.inr (.inr (.inr (rowF fa2 md2)))))), (im, .inr (1, [.ref iq, .int L])), (iq, .inl (cB, n, .inl f))] : va_W) ++ (PL (FC cB fa2 ga2 cf2) md2)) t.heap ∧ va_D (va_A (([(h0, .inr (7, [.ref im, .ref pr, .ref ra, .int cn, .int vw, .int wr])), (ra, .inl (cF, 99, .inr (.inr (.inr (.inr (rowF fa md)))))), (im, .inr (1, [.ref iq, .int L])), (iq, .inl (cB, n, .inl f))] : va_W) ++ (PL (FC cB fa ga cf) md)) sz) (([(h0, .inr (7, [.ref im, .ref pr, .ref ra, .int cn2, .int vw, .int wr])), (ra, .inl (cF, 99, .inr (.inr (.inr (.inr (rowF fa2 md2)))))), (im, .inr (1, [.ref iq, .int L])), (iq, .inl (cB, n, .inl f))] : va_W) ++ (PL (FC cB fa2 ga2 cf2) md2))) (va_A (([(h0, .inr (7, [.ref im, .ref pr, .ref ra, .int cn, .int vw, .int wr])), (ra, .inl (cF, 99, .inr (.inr (.inr (.inr (rowF fa md)))))), (im, .inr (1, [.ref iq, .int L])), (iq, .inl (cB, n, .inl f))] : va_W) ++ (PL (FC cB fa ga cf) md)) sz)) 3 473 (va_A (([(h0, .inr (7, [.ref im, .ref pr, .ref ra, .int cn, .int vw, .int wr])), (ra, .inl (cF, 99, .inr (.inr (.inr (.inr (rowF fa md)))))), (im, .inr (1, [.ref iq, .int L])), (iq, .inl (cB, n, .inl f))] : va_W) ++ (PL (FC cB fa ga cf) md)) sz) := by
  refine Met.ofW (cc := b_Reader_addRow) (maxL := 5) (ret := none) (by decide +kernel) rfl ?_
  intro p e s m args below meth c s₁ B hml hv
  obtain ⟨rfl, hsz, hP, hK, hN, hD0, hZq⟩ := hv
  have hx := B.exec
  have hb := B.bytes
  have hr := B.returns
  have hts := atoms_spec (ws := w_Reader_addRow) B.pre
  have ht9 := fun (w : Cond) (h : w ∈ lw_g) => hts w (List.mem_cons_of_mem _ h)
  have hown : s.vm.findClass "DiscMaker$Reader" = some m.cls := findClass_of_methodNamed B.named
  have hlocks := B.notSynchronized
  subst hsz
  have hD := hD0.self (sz := s.heap.size)
  generalize hAe : va_A (([(h0, .inr (7, [.ref im, .ref pr, .ref ra, .int cn, .int vw, .int wr])), (ra, .inl (cF, 99, .inr (.inr (.inr (.inr (rowF fa md)))))), (im, .inr (1, [.ref iq, .int L])), (iq, .inl (cB, n, .inl f))] : va_W) ++ (PL (FC cB fa ga cf) md)) s.heap.size = A at hD hZq ⊢
  have hA : ∀ q : Nat, s.heap.size ≤ q → A q := fun q h => by rw [← hAe]; exact Or.inr h
  have hS : va_S A s.heap s.heap [] := va_S.rf
  have hP : va_P D CL (([(h0, .inr (7, [.ref im, .ref pr, .ref ra, .int cn, .int vw, .int wr])), (ra, .inl (cF, 99, .inr (.inr (.inr (.inr (rowF fa md)))))), (im, .inr (1, [.ref iq, .int L])), (iq, .inl (cB, n, .inl f))] : va_W) ++ (PL (FC cB fa ga cf) md)) s.heap := hP
  have hl := lv_entry [.ref h0, .int x, .int y, .int z] (n := 5) (Nat.le_of_ble_eq_true rfl)
  rw [lg_entry_eq]
  generalize (lg_sl [.ref h0, .int x, .int y, .int z] ++ List.replicate (5 - (lg_sl [.ref h0, .int x, .int y, .int z]).length) Slot.unset).toArray = ls at hl ⊢
  have hl : lv_has ls 5 [(0, .ref h0), (1, .int x), (2, .int y), (3, .int z)] := hl
  have L_m1 : ((-1) : Int32).toInt = (-1) := by decide
  have L_0 : (0 : Int32).toInt = 0 := by decide
  have L_1 : (1 : Int32).toInt = 1 := by decide
  have hrec9 := hrec
  unfold RecC at hrec9
  have hcc := i_cl (a := cn) (by omega)
  rcases Nat.lt_or_ge cn.toNatClampNeg md with hcm | hcm
  · skip
    refine lv_aload_n hx hb d_Reader_addRow_0 rfl (lv_at hl 0 rfl) ?_
    refine va_get (D := D) (ci := 7) (v := .ref ra) (C := "DiscMaker$Reader") (T := F_Reader) (N := 6) hx hb ht9 in_Reader hown hK hP 0 rfl rfl 2 (by decide) (ht9 _ k414) (fun _ h9 => h9) rfl d_Reader_addRow_1 ?_
    refine lv_aload_n hx hb d_Reader_addRow_4 rfl (lv_at hl 0 rfl) ?_
    refine va_get (D := D) (ci := 7) (v := .int cn) (C := "DiscMaker$Reader") (T := F_Reader) (N := 6) hx hb ht9 in_Reader hown hK hP 0 rfl rfl 3 (by decide) (ht9 _ k415) (fun _ h9 => h9) rfl d_Reader_addRow_5 ?_
    refine va_aldq hx hb hK hP 1 5 rfl rfl (vp_in_iff.mpr ⟨by omega, by omega⟩) d_Reader_addRow_8 ?_
    refine W.eq (g2 := F0 m 9 ls [.ref (fa cn.toNatClampNeg 0)]) (by rw [show rowF fa md cn.toNatClampNeg = some (fa cn.toNatClampNeg 0) from rowF_some hcm]; rfl) ?_
    refine lv_ifnonnull (tgt := 28) hx hb d_Reader_addRow_9 (by decide) ?_
    refine lv_aload_n hx hb d_Reader_addRow_28 rfl (lv_at hl 0 rfl) ?_
    refine va_get (D := D) (ci := 7) (v := .ref ra) (C := "DiscMaker$Reader") (T := F_Reader) (N := 6) hx hb ht9 in_Reader hown hK hP 0 rfl rfl 2 (by decide) (ht9 _ k414) (fun _ h9 => h9) rfl d_Reader_addRow_29 ?_
    refine lv_aload_n hx hb d_Reader_addRow_32 rfl (lv_at hl 0 rfl) ?_
    refine va_get (D := D) (ci := 7) (v := .int cn) (C := "DiscMaker$Reader") (T := F_Reader) (N := 6) hx hb ht9 in_Reader hown hK hP 0 rfl rfl 3 (by decide) (ht9 _ k415) (fun _ h9 => h9) rfl d_Reader_addRow_33 ?_
    refine va_aldq hx hb hK hP 1 5 rfl rfl (vp_in_iff.mpr ⟨by omega, by omega⟩) d_Reader_addRow_36 ?_
    refine W.eq (g2 := F0 m 37 ls [.ref (fa cn.toNatClampNeg 0)]) (by rw [show rowF fa md cn.toNatClampNeg = some (fa cn.toNatClampNeg 0) from rowF_some hcm]; rfl) ?_
    obtain ⟨hP, hD⟩ := pl_take (X := [(h0, .inr (7, [.ref im, .ref pr, .ref ra, .int cn, .int vw, .int wr])), (ra, .inl (cF, 99, .inr (.inr (.inr (.inr (rowF fa md)))))), (im, .inr (1, [.ref iq, .int L])), (iq, .inl (cB, n, .inl f))]) (C := FC cB fa ga cf) (m := md) (k := cn.toNatClampNeg) hP hD hcm
    have hP : va_P D CL (([(h0, .inr (7, [.ref im, .ref pr, .ref ra, .int cn, .int vw, .int wr])), (ra, .inl (cF, 99, .inr (.inr (.inr (.inr (rowF fa md)))))), (im, .inr (1, [.ref iq, .int L])), (iq, .inl (cB, n, .inl f)), ((fa cn.toNatClampNeg 0), .inr (2, [.ref (fa cn.toNatClampNeg 1), .ref (fa cn.toNatClampNeg 2), .int (ga cn.toNatClampNeg 0), .int (ga cn.toNatClampNeg 1), .int (ga cn.toNatClampNeg 2), .int (ga cn.toNatClampNeg 3), .int (ga cn.toNatClampNeg 4), .int (ga cn.toNatClampNeg 5), .int (ga cn.toNatClampNeg 6), .int (ga cn.toNatClampNeg 7), .int (ga cn.toNatClampNeg 8), .int (ga cn.toNatClampNeg 9), .int (ga cn.toNatClampNeg 10)])), ((fa cn.toNatClampNeg 1), .inl (cB, 60, .inl (cf cn.toNatClampNeg 1))), ((fa cn.toNatClampNeg 2), .inl (cB, 400, .inl (cf cn.toNatClampNeg 2)))] : va_W) ++ (PO (FC cB fa ga cf) md cn.toNatClampNeg)) s.heap := hP
    have hD : va_D A (([(h0, .inr (7, [.ref im, .ref pr, .ref ra, .int cn, .int vw, .int wr])), (ra, .inl (cF, 99, .inr (.inr (.inr (.inr (rowF fa md)))))), (im, .inr (1, [.ref iq, .int L])), (iq, .inl (cB, n, .inl f)), ((fa cn.toNatClampNeg 0), .inr (2, [.ref (fa cn.toNatClampNeg 1), .ref (fa cn.toNatClampNeg 2), .int (ga cn.toNatClampNeg 0), .int (ga cn.toNatClampNeg 1), .int (ga cn.toNatClampNeg 2), .int (ga cn.toNatClampNeg 3), .int (ga cn.toNatClampNeg 4), .int (ga cn.toNatClampNeg 5), .int (ga cn.toNatClampNeg 6), .int (ga cn.toNatClampNeg 7), .int (ga cn.toNatClampNeg 8), .int (ga cn.toNatClampNeg 9), .int (ga cn.toNatClampNeg 10)])), ((fa cn.toNatClampNeg 1), .inl (cB, 60, .inl (cf cn.toNatClampNeg 1))), ((fa cn.toNatClampNeg 2), .inl (cB, 400, .inl (cf cn.toNatClampNeg 2)))] : va_W) ++ (PO (FC cB fa ga cf) md cn.toNatClampNeg)) := hD
    refine lv_astore hx hb d_Reader_addRow_37 hl (by decide) rfl (fun ls hl => ?_)
    have hl : lv_has ls 5 [(4, .ref (fa cn.toNatClampNeg 0)), (0, .ref h0), (1, .int x), (2, .int y), (3, .int z)] := hl
    refine lv_aload_n hx hb d_Reader_addRow_39 rfl (lv_at hl 1 rfl) ?_
    refine lv_dup hx hb d_Reader_addRow_40 rfl ?_
    refine va_get (D := D) (ci := 7) (v := .int cn) (C := "DiscMaker$Reader") (T := F_Reader) (N := 6) hx hb ht9 in_Reader hown hK hP 0 rfl rfl 3 (by decide) (ht9 _ k415) (fun _ h9 => h9) rfl d_Reader_addRow_41 ?_
    refine lv_iconst (v := 1) hx hb d_Reader_addRow_44 (by decide) ?_
    refine lv_iadd hx hb d_Reader_addRow_45 ?_
    refine lv_topi (fun v1 e_v1 => ?_)
    have t_v1 : v1.toInt = cn.toInt + 1 := by rw [e_v1]; exact i_add rfl (by decide) (by omega) (by omega)
    refine va_put (D := D) (ci := 7) (v := .int v1) (ty := .int) (C := "DiscMaker$Reader") (T := F_Reader) (N := 6) hx hb ht9 in_Reader t_Reader t_Reader_ok n_Reader hown hK hP hD hS 0 rfl rfl 3 (by decide) (ht9 _ k415) (fun _ h9 => h9) rfl (by decide +kernel) rfl rfl (Nat.le_of_ble_eq_true rfl) d_Reader_addRow_46 (fun H locs hP hD hS => ?_)
    have hP : va_P D CL (([(h0, .inr (7, [.ref im, .ref pr, .ref ra, .int v1, .int vw, .int wr])), (ra, .inl (cF, 99, .inr (.inr (.inr (.inr (rowF fa md)))))), (im, .inr (1, [.ref iq, .int L])), (iq, .inl (cB, n, .inl f)), ((fa cn.toNatClampNeg 0), .inr (2, [.ref (fa cn.toNatClampNeg 1), .ref (fa cn.toNatClampNeg 2), .int (ga cn.toNatClampNeg 0), .int (ga cn.toNatClampNeg 1), .int (ga cn.toNatClampNeg 2), .int (ga cn.toNatClampNeg 3), .int (ga cn.toNatClampNeg 4), .int (ga cn.toNatClampNeg 5), .int (ga cn.toNatClampNeg 6), .int (ga cn.toNatClampNeg 7), .int (ga cn.toNatClampNeg 8), .int (ga cn.toNatClampNeg 9), .int (ga cn.toNatClampNeg 10)])), ((fa cn.toNatClampNeg 1), .inl (cB, 60, .inl (cf cn.toNatClampNeg 1))), ((fa cn.toNatClampNeg 2), .inl (cB, 400, .inl (cf cn.toNatClampNeg 2)))] : va_W) ++ (PO (FC cB fa ga cf) md cn.toNatClampNeg)) H := hP
    have hD : va_D A (([(h0, .inr (7, [.ref im, .ref pr, .ref ra, .int v1, .int vw, .int wr])), (ra, .inl (cF, 99, .inr (.inr (.inr (.inr (rowF fa md)))))), (im, .inr (1, [.ref iq, .int L])), (iq, .inl (cB, n, .inl f)), ((fa cn.toNatClampNeg 0), .inr (2, [.ref (fa cn.toNatClampNeg 1), .ref (fa cn.toNatClampNeg 2), .int (ga cn.toNatClampNeg 0), .int (ga cn.toNatClampNeg 1), .int (ga cn.toNatClampNeg 2), .int (ga cn.toNatClampNeg 3), .int (ga cn.toNatClampNeg 4), .int (ga cn.toNatClampNeg 5), .int (ga cn.toNatClampNeg 6), .int (ga cn.toNatClampNeg 7), .int (ga cn.toNatClampNeg 8), .int (ga cn.toNatClampNeg 9), .int (ga cn.toNatClampNeg 10)])), ((fa cn.toNatClampNeg 1), .inl (cB, 60, .inl (cf cn.toNatClampNeg 1))), ((fa cn.toNatClampNeg 2), .inl (cB, 400, .inl (cf cn.toNatClampNeg 2)))] : va_W) ++ (PO (FC cB fa ga cf) md cn.toNatClampNeg)) := hD
    refine lv_aload hx hb d_Reader_addRow_49 (lv_at hl 0 rfl) ?_
    refine lv_iload_n hx hb d_Reader_addRow_51 rfl (lv_at hl 2 rfl) ?_
    refine lv_iload_n hx hb d_Reader_addRow_52 rfl (lv_at hl 3 rfl) ?_
    refine lv_aload_n hx hb d_Reader_addRow_53 rfl (lv_at hl 1 rfl) ?_
    refine lv_iload_n hx hb d_Reader_addRow_54 rfl (lv_at hl 4 rfl) ?_
    have hPc := hP.sub (ws' := [(h0, .inr (7, [.ref im, .ref pr, .ref ra, .int v1, .int vw, .int wr])), (im, .inr (1, [.ref iq, .int L])), (iq, .inl (cB, n, .inl f))]) [0, 2, 3] rfl
    have hDc := hD.sub (ws' := [(h0, .inr (7, [.ref im, .ref pr, .ref ra, .int v1, .int vw, .int wr])), (im, .inr (1, [.ref iq, .int L])), (iq, .inl (cB, n, .inl f))]) [0, 2, 3] (by decide +kernel) rfl
    have hFc := va_free (wc := [(h0, .inr (7, [.ref im, .ref pr, .ref ra, .int v1, .int vw, .int wr])), (im, .inr (1, [.ref iq, .int L])), (iq, .inl (cB, n, .inl f))]) hD hS hA [0, 2, 3] rfl
    have hkc : 0 ≤ 3 := by decide
    have hks : 0 ≤ 473 := by decide
    refine va_calli (va_runV (C := "DiscMaker$Reader") (As := [.int z]) (rest := [.int y, .int x, .ref (fa cn.toNatClampNeg 0)]) ⟨hx, hb, hml, hown, hts⟩ (c3_isDirectory l D cB cI cJ cZ cN cF H.size h0 pr ra im iq n L f v1 vw wr z (by (try dsimp only); first | assumption | omega | trivial) (by (try dsimp only); first | assumption | omega | trivial) (by (try dsimp only); first | assumption | omega | trivial)) (cwV 1 hts (lg_goodV k1209 k1211 k37 k123 kc_Reader_isDirectory) rfl rfl rfl (by decide +kernel) ⟨Nat.le_of_ble_eq_true rfl, Nat.le_of_ble_eq_true rfl⟩) ⟨fun a U g mk q => by obtain ⟨q0, q1, qP, qK, qN, qD⟩ := q; exact ⟨q0, q1, qP, va_K.moved (u := U) (U := U.calling g mk a) (Vm.Alike.refl U.vm) qK, qN.calling, qD⟩, va_recv hK hP (ci := 7) (q0 := 0) rfl rfl, fun U hU hW => ⟨rfl, by rw [hU], by rw [hU]; exact hPc, va_K.moved hW.alike hK, NN.warm hW hN, hDc.weaken (fun _ _ _ _ => trivial)⟩⟩ rfl rfl hl.1 rfl (lv_room (Nat.le_of_ble_eq_true rfl)) d_Reader_addRow_55 ⟨hkc, hks⟩) hS (fun q _ h => hFc q h) hFc (fun r2 u t H1 locs ht hvm hp_r2 hB hz1 hk1 hS => ?_)
    obtain ⟨hP1, hD1⟩ := hB
    rw [ht] at hP1
    obtain ⟨hP, hD⟩ := va_joinQ (X := [(h0, .inr (7, [.ref im, .ref pr, .ref ra, .int v1, .int vw, .int wr])), (ra, .inl (cF, 99, .inr (.inr (.inr (.inr (rowF fa md)))))), (im, .inr (1, [.ref iq, .int L])), (iq, .inl (cB, n, .inl f)), ((fa cn.toNatClampNeg 0), .inr (2, [.ref (fa cn.toNatClampNeg 1), .ref (fa cn.toNatClampNeg 2), .int (ga cn.toNatClampNeg 0), .int (ga cn.toNatClampNeg 1), .int (ga cn.toNatClampNeg 2), .int (ga cn.toNatClampNeg 3), .int (ga cn.toNatClampNeg 4), .int (ga cn.toNatClampNeg 5), .int (ga cn.toNatClampNeg 6), .int (ga cn.toNatClampNeg 7), .int (ga cn.toNatClampNeg 8), .int (ga cn.toNatClampNeg 9), .int (ga cn.toNatClampNeg 10)])), ((fa cn.toNatClampNeg 1), .inl (cB, 60, .inl (cf cn.toNatClampNeg 1))), ((fa cn.toNatClampNeg 2), .inl (cB, 400, .inl (cf cn.toNatClampNeg 2)))]) (cx := [(h0, .inr (7, [.ref im, .ref pr, .ref ra, .int v1, .int vw, .int wr])), (im, .inr (1, [.ref iq, .int L])), (iq, .inl (cB, n, .inl f))]) (wr := [(ra, .inl (cF, 99, .inr (.inr (.inr (.inr (rowF fa md)))))), ((fa cn.toNatClampNeg 0), .inr (2, [.ref (fa cn.toNatClampNeg 1), .ref (fa cn.toNatClampNeg 2), .int (ga cn.toNatClampNeg 0), .int (ga cn.toNatClampNeg 1), .int (ga cn.toNatClampNeg 2), .int (ga cn.toNatClampNeg 3), .int (ga cn.toNatClampNeg 4), .int (ga cn.toNatClampNeg 5), .int (ga cn.toNatClampNeg 6), .int (ga cn.toNatClampNeg 7), .int (ga cn.toNatClampNeg 8), .int (ga cn.toNatClampNeg 9), .int (ga cn.toNatClampNeg 10)])), ((fa cn.toNatClampNeg 1), .inl (cB, 60, .inl (cf cn.toNatClampNeg 1))), ((fa cn.toNatClampNeg 2), .inl (cB, 400, .inl (cf cn.toNatClampNeg 2)))]) (w1 := [(h0, .inr (7, [.ref im, .ref pr, .ref ra, .int v1, .int vw, .int wr])), (im, .inr (1, [.ref iq, .int L])), (iq, .inl (cB, n, .inl f))]) hP hD [0, 2, 3] [1, 4, 5, 6] rfl rfl (by decide +kernel) (by decide +kernel) hk1 hFc hP1 hD1
    clear hPc hDc hFc hP1 hD1 hk1 hz1 hkc hks
    generalize H1 = H at hP hS ⊢
    have hP : va_P D CL (([(ra, .inl (cF, 99, .inr (.inr (.inr (.inr (rowF fa md)))))), ((fa cn.toNatClampNeg 0), .inr (2, [.ref (fa cn.toNatClampNeg 1), .ref (fa cn.toNatClampNeg 2), .int (ga cn.toNatClampNeg 0), .int (ga cn.toNatClampNeg 1), .int (ga cn.toNatClampNeg 2), .int (ga cn.toNatClampNeg 3), .int (ga cn.toNatClampNeg 4), .int (ga cn.toNatClampNeg 5), .int (ga cn.toNatClampNeg 6), .int (ga cn.toNatClampNeg 7), .int (ga cn.toNatClampNeg 8), .int (ga cn.toNatClampNeg 9), .int (ga cn.toNatClampNeg 10)])), ((fa cn.toNatClampNeg 1), .inl (cB, 60, .inl (cf cn.toNatClampNeg 1))), ((fa cn.toNatClampNeg 2), .inl (cB, 400, .inl (cf cn.toNatClampNeg 2))), (h0, .inr (7, [.ref im, .ref pr, .ref ra, .int v1, .int vw, .int wr])), (im, .inr (1, [.ref iq, .int L])), (iq, .inl (cB, n, .inl f))] : va_W) ++ (PO (FC cB fa ga cf) md cn.toNatClampNeg)) H := hP
    have hD : va_D A (([(ra, .inl (cF, 99, .inr (.inr (.inr (.inr (rowF fa md)))))), ((fa cn.toNatClampNeg 0), .inr (2, [.ref (fa cn.toNatClampNeg 1), .ref (fa cn.toNatClampNeg 2), .int (ga cn.toNatClampNeg 0), .int (ga cn.toNatClampNeg 1), .int (ga cn.toNatClampNeg 2), .int (ga cn.toNatClampNeg 3), .int (ga cn.toNatClampNeg 4), .int (ga cn.toNatClampNeg 5), .int (ga cn.toNatClampNeg 6), .int (ga cn.toNatClampNeg 7), .int (ga cn.toNatClampNeg 8), .int (ga cn.toNatClampNeg 9), .int (ga cn.toNatClampNeg 10)])), ((fa cn.toNatClampNeg 1), .inl (cB, 60, .inl (cf cn.toNatClampNeg 1))), ((fa cn.toNatClampNeg 2), .inl (cB, 400, .inl (cf cn.toNatClampNeg 2))), (h0, .inr (7, [.ref im, .ref pr, .ref ra, .int v1, .int vw, .int wr])), (im, .inr (1, [.ref iq, .int L])), (iq, .inl (cB, n, .inl f))] : va_W) ++ (PO (FC cB fa ga cf) md cn.toNatClampNeg)) := hD
    try dsimp only at hp_r2
    obtain ⟨hr_3, hv_4⟩ := hp_r2
    refine lv_aload_n hx hb d_Reader_addRow_58 rfl (lv_at hl 1 rfl) ?_
    refine lv_iload_n hx hb d_Reader_addRow_59 rfl (lv_at hl 4 rfl) ?_
    have hPc := hP.sub (ws' := [(h0, .inr (7, [.ref im, .ref pr, .ref ra, .int v1, .int vw, .int wr])), (im, .inr (1, [.ref iq, .int L])), (iq, .inl (cB, n, .inl f))]) [4, 5, 6] rfl
    have hDc := hD.sub (ws' := [(h0, .inr (7, [.ref im, .ref pr, .ref ra, .int v1, .int vw, .int wr])), (im, .inr (1, [.ref iq, .int L])), (iq, .inl (cB, n, .inl f))]) [4, 5, 6] (by decide +kernel) rfl
    have hFc := va_free (wc := [(h0, .inr (7, [.ref im, .ref pr, .ref ra, .int v1, .int vw, .int wr])), (im, .inr (1, [.ref iq, .int L])), (iq, .inl (cB, n, .inl f))]) hD hS hA [4, 5, 6] rfl
    have hkc : 0 ≤ 3 := by decide
    have hks : 0 ≤ 473 := by decide
    refine va_calli (va_runV (C := "DiscMaker$Reader") (As := [.int z]) (rest := [.int r2, .int y, .int x, .ref (fa cn.toNatClampNeg 0)]) ⟨hx, hb, hml, hown, hts⟩ (c3_sizeAt l D cB cI cJ cZ cN cF H.size h0 pr ra im iq n L f v1 vw wr z (by (try dsimp only); first | assumption | omega | trivial) (by (try dsimp only); first | assumption | omega | trivial) (by (try dsimp only); first | assumption | omega | trivial)) (cwV 1 hts (lg_goodV k1201 k1203 k35 k123 kc_Reader_sizeAt) rfl rfl rfl (by decide +kernel) ⟨Nat.le_of_ble_eq_true rfl, Nat.le_of_ble_eq_true rfl⟩) ⟨fun a U g mk q => by obtain ⟨q0, q1, qP, qK, qN, qD⟩ := q; exact ⟨q0, q1, qP, va_K.moved (u := U) (U := U.calling g mk a) (Vm.Alike.refl U.vm) qK, qN.calling, qD⟩, va_recv hK hP (ci := 7) (q0 := 4) rfl rfl, fun U hU hW => ⟨rfl, by rw [hU], by rw [hU]; exact hPc, va_K.moved hW.alike hK, NN.warm hW hN, hDc.weaken (fun _ _ _ _ => trivial)⟩⟩ rfl rfl hl.1 rfl (lv_room (Nat.le_of_ble_eq_true rfl)) d_Reader_addRow_60 ⟨hkc, hks⟩) hS (fun q _ h => hFc q h) hFc (fun r5 u t H1 locs ht hvm hp_r5 hB hz1 hk1 hS => ?_)
    obtain ⟨hP1, hD1⟩ := hB
    rw [ht] at hP1
    obtain ⟨hP, hD⟩ := va_joinQ (X := [(ra, .inl (cF, 99, .inr (.inr (.inr (.inr (rowF fa md)))))), ((fa cn.toNatClampNeg 0), .inr (2, [.ref (fa cn.toNatClampNeg 1), .ref (fa cn.toNatClampNeg 2), .int (ga cn.toNatClampNeg 0), .int (ga cn.toNatClampNeg 1), .int (ga cn.toNatClampNeg 2), .int (ga cn.toNatClampNeg 3), .int (ga cn.toNatClampNeg 4), .int (ga cn.toNatClampNeg 5), .int (ga cn.toNatClampNeg 6), .int (ga cn.toNatClampNeg 7), .int (ga cn.toNatClampNeg 8), .int (ga cn.toNatClampNeg 9), .int (ga cn.toNatClampNeg 10)])), ((fa cn.toNatClampNeg 1), .inl (cB, 60, .inl (cf cn.toNatClampNeg 1))), ((fa cn.toNatClampNeg 2), .inl (cB, 400, .inl (cf cn.toNatClampNeg 2))), (h0, .inr (7, [.ref im, .ref pr, .ref ra, .int v1, .int vw, .int wr])), (im, .inr (1, [.ref iq, .int L])), (iq, .inl (cB, n, .inl f))]) (cx := [(h0, .inr (7, [.ref im, .ref pr, .ref ra, .int v1, .int vw, .int wr])), (im, .inr (1, [.ref iq, .int L])), (iq, .inl (cB, n, .inl f))]) (wr := [(ra, .inl (cF, 99, .inr (.inr (.inr (.inr (rowF fa md)))))), ((fa cn.toNatClampNeg 0), .inr (2, [.ref (fa cn.toNatClampNeg 1), .ref (fa cn.toNatClampNeg 2), .int (ga cn.toNatClampNeg 0), .int (ga cn.toNatClampNeg 1), .int (ga cn.toNatClampNeg 2), .int (ga cn.toNatClampNeg 3), .int (ga cn.toNatClampNeg 4), .int (ga cn.toNatClampNeg 5), .int (ga cn.toNatClampNeg 6), .int (ga cn.toNatClampNeg 7), .int (ga cn.toNatClampNeg 8), .int (ga cn.toNatClampNeg 9), .int (ga cn.toNatClampNeg 10)])), ((fa cn.toNatClampNeg 1), .inl (cB, 60, .inl (cf cn.toNatClampNeg 1))), ((fa cn.toNatClampNeg 2), .inl (cB, 400, .inl (cf cn.toNatClampNeg 2)))]) (w1 := [(h0, .inr (7, [.ref im, .ref pr, .ref ra, .int v1, .int vw, .int wr])), (im, .inr (1, [.ref iq, .int L])), (iq, .inl (cB, n, .inl f))]) hP hD [4, 5, 6] [0, 1, 2, 3] rfl rfl (by decide +kernel) (by decide +kernel) hk1 hFc hP1 hD1
    clear hPc hDc hFc hP1 hD1 hk1 hz1 hkc hks
    generalize H1 = H at hP hS ⊢
    have hP : va_P D CL (([(ra, .inl (cF, 99, .inr (.inr (.inr (.inr (rowF fa md)))))), ((fa cn.toNatClampNeg 0), .inr (2, [.ref (fa cn.toNatClampNeg 1), .ref (fa cn.toNatClampNeg 2), .int (ga cn.toNatClampNeg 0), .int (ga cn.toNatClampNeg 1), .int (ga cn.toNatClampNeg 2), .int (ga cn.toNatClampNeg 3), .int (ga cn.toNatClampNeg 4), .int (ga cn.toNatClampNeg 5), .int (ga cn.toNatClampNeg 6), .int (ga cn.toNatClampNeg 7), .int (ga cn.toNatClampNeg 8), .int (ga cn.toNatClampNeg 9), .int (ga cn.toNatClampNeg 10)])), ((fa cn.toNatClampNeg 1), .inl (cB, 60, .inl (cf cn.toNatClampNeg 1))), ((fa cn.toNatClampNeg 2), .inl (cB, 400, .inl (cf cn.toNatClampNeg 2))), (h0, .inr (7, [.ref im, .ref pr, .ref ra, .int v1, .int vw, .int wr])), (im, .inr (1, [.ref iq, .int L])), (iq, .inl (cB, n, .inl f))] : va_W) ++ (PO (FC cB fa ga cf) md cn.toNatClampNeg)) H := hP
    have hD : va_D A (([(ra, .inl (cF, 99, .inr (.inr (.inr (.inr (rowF fa md)))))), ((fa cn.toNatClampNeg 0), .inr (2, [.ref (fa cn.toNatClampNeg 1), .ref (fa cn.toNatClampNeg 2), .int (ga cn.toNatClampNeg 0), .int (ga cn.toNatClampNeg 1), .int (ga cn.toNatClampNeg 2), .int (ga cn.toNatClampNeg 3), .int (ga cn.toNatClampNeg 4), .int (ga cn.toNatClampNeg 5), .int (ga cn.toNatClampNeg 6), .int (ga cn.toNatClampNeg 7), .int (ga cn.toNatClampNeg 8), .int (ga cn.toNatClampNeg 9), .int (ga cn.toNatClampNeg 10)])), ((fa cn.toNatClampNeg 1), .inl (cB, 60, .inl (cf cn.toNatClampNeg 1))), ((fa cn.toNatClampNeg 2), .inl (cB, 400, .inl (cf cn.toNatClampNeg 2))), (h0, .inr (7, [.ref im, .ref pr, .ref ra, .int v1, .int vw, .int wr])), (im, .inr (1, [.ref iq, .int L])), (iq, .inl (cB, n, .inl f))] : va_W) ++ (PO (FC cB fa ga cf) md cn.toNatClampNeg)) := hD
    try dsimp only at hp_r5
    have hv_6 := hp_r5
    have qr5 : r5.toInt = (low4B f L (z + 10)).toInt := by rw [hv_6]
    refine lv_aload_n hx hb d_Reader_addRow_63 rfl (lv_at hl 1 rfl) ?_
    refine lv_iload_n hx hb d_Reader_addRow_64 rfl (lv_at hl 4 rfl) ?_
    have hPc := hP.sub (ws' := [(h0, .inr (7, [.ref im, .ref pr, .ref ra, .int v1, .int vw, .int wr])), (im, .inr (1, [.ref iq, .int L])), (iq, .inl (cB, n, .inl f))]) [4, 5, 6] rfl
    have hDc := hD.sub (ws' := [(h0, .inr (7, [.ref im, .ref pr, .ref ra, .int v1, .int vw, .int wr])), (im, .inr (1, [.ref iq, .int L])), (iq, .inl (cB, n, .inl f))]) [4, 5, 6] (by decide +kernel) rfl
    have hFc := va_free (wc := [(h0, .inr (7, [.ref im, .ref pr, .ref ra, .int v1, .int vw, .int wr])), (im, .inr (1, [.ref iq, .int L])), (iq, .inl (cB, n, .inl f))]) hD hS hA [4, 5, 6] rfl
    have hkc : 0 ≤ 3 := by decide
    have hks : 0 ≤ 473 := by decide
    refine va_calli (va_runV (C := "DiscMaker$Reader") (As := [.int z]) (rest := [.int r5, .int r2, .int y, .int x, .ref (fa cn.toNatClampNeg 0)]) ⟨hx, hb, hml, hown, hts⟩ (c3_sectorAt l D cB cI cJ cZ cN cF H.size h0 pr ra im iq n L f v1 vw wr z (by (try dsimp only); first | assumption | omega | trivial) (by (try dsimp only); first | assumption | omega | trivial) (by (try dsimp only); first | assumption | omega | trivial)) (cwV 1 hts (lg_goodV k1205 k1207 k36 k123 kc_Reader_sectorAt) rfl rfl rfl (by decide +kernel) ⟨Nat.le_of_ble_eq_true rfl, Nat.le_of_ble_eq_true rfl⟩) ⟨fun a U g mk q => by obtain ⟨q0, q1, qP, qK, qN, qD⟩ := q; exact ⟨q0, q1, qP, va_K.moved (u := U) (U := U.calling g mk a) (Vm.Alike.refl U.vm) qK, qN.calling, qD⟩, va_recv hK hP (ci := 7) (q0 := 4) rfl rfl, fun U hU hW => ⟨rfl, by rw [hU], by rw [hU]; exact hPc, va_K.moved hW.alike hK, NN.warm hW hN, hDc.weaken (fun _ _ _ _ => trivial)⟩⟩ rfl rfl hl.1 rfl (lv_room (Nat.le_of_ble_eq_true rfl)) d_Reader_addRow_65 ⟨hkc, hks⟩) hS (fun q _ h => hFc q h) hFc (fun r7 u t H1 locs ht hvm hp_r7 hB hz1 hk1 hS => ?_)
    obtain ⟨hP1, hD1⟩ := hB
    rw [ht] at hP1
    obtain ⟨hP, hD⟩ := va_joinQ (X := [(ra, .inl (cF, 99, .inr (.inr (.inr (.inr (rowF fa md)))))), ((fa cn.toNatClampNeg 0), .inr (2, [.ref (fa cn.toNatClampNeg 1), .ref (fa cn.toNatClampNeg 2), .int (ga cn.toNatClampNeg 0), .int (ga cn.toNatClampNeg 1), .int (ga cn.toNatClampNeg 2), .int (ga cn.toNatClampNeg 3), .int (ga cn.toNatClampNeg 4), .int (ga cn.toNatClampNeg 5), .int (ga cn.toNatClampNeg 6), .int (ga cn.toNatClampNeg 7), .int (ga cn.toNatClampNeg 8), .int (ga cn.toNatClampNeg 9), .int (ga cn.toNatClampNeg 10)])), ((fa cn.toNatClampNeg 1), .inl (cB, 60, .inl (cf cn.toNatClampNeg 1))), ((fa cn.toNatClampNeg 2), .inl (cB, 400, .inl (cf cn.toNatClampNeg 2))), (h0, .inr (7, [.ref im, .ref pr, .ref ra, .int v1, .int vw, .int wr])), (im, .inr (1, [.ref iq, .int L])), (iq, .inl (cB, n, .inl f))]) (cx := [(h0, .inr (7, [.ref im, .ref pr, .ref ra, .int v1, .int vw, .int wr])), (im, .inr (1, [.ref iq, .int L])), (iq, .inl (cB, n, .inl f))]) (wr := [(ra, .inl (cF, 99, .inr (.inr (.inr (.inr (rowF fa md)))))), ((fa cn.toNatClampNeg 0), .inr (2, [.ref (fa cn.toNatClampNeg 1), .ref (fa cn.toNatClampNeg 2), .int (ga cn.toNatClampNeg 0), .int (ga cn.toNatClampNeg 1), .int (ga cn.toNatClampNeg 2), .int (ga cn.toNatClampNeg 3), .int (ga cn.toNatClampNeg 4), .int (ga cn.toNatClampNeg 5), .int (ga cn.toNatClampNeg 6), .int (ga cn.toNatClampNeg 7), .int (ga cn.toNatClampNeg 8), .int (ga cn.toNatClampNeg 9), .int (ga cn.toNatClampNeg 10)])), ((fa cn.toNatClampNeg 1), .inl (cB, 60, .inl (cf cn.toNatClampNeg 1))), ((fa cn.toNatClampNeg 2), .inl (cB, 400, .inl (cf cn.toNatClampNeg 2)))]) (w1 := [(h0, .inr (7, [.ref im, .ref pr, .ref ra, .int v1, .int vw, .int wr])), (im, .inr (1, [.ref iq, .int L])), (iq, .inl (cB, n, .inl f))]) hP hD [4, 5, 6] [0, 1, 2, 3] rfl rfl (by decide +kernel) (by decide +kernel) hk1 hFc hP1 hD1
    clear hPc hDc hFc hP1 hD1 hk1 hz1 hkc hks
    generalize H1 = H at hP hS ⊢
    have hP : va_P D CL (([(ra, .inl (cF, 99, .inr (.inr (.inr (.inr (rowF fa md)))))), ((fa cn.toNatClampNeg 0), .inr (2, [.ref (fa cn.toNatClampNeg 1), .ref (fa cn.toNatClampNeg 2), .int (ga cn.toNatClampNeg 0), .int (ga cn.toNatClampNeg 1), .int (ga cn.toNatClampNeg 2), .int (ga cn.toNatClampNeg 3), .int (ga cn.toNatClampNeg 4), .int (ga cn.toNatClampNeg 5), .int (ga cn.toNatClampNeg 6), .int (ga cn.toNatClampNeg 7), .int (ga cn.toNatClampNeg 8), .int (ga cn.toNatClampNeg 9), .int (ga cn.toNatClampNeg 10)])), ((fa cn.toNatClampNeg 1), .inl (cB, 60, .inl (cf cn.toNatClampNeg 1))), ((fa cn.toNatClampNeg 2), .inl (cB, 400, .inl (cf cn.toNatClampNeg 2))), (h0, .inr (7, [.ref im, .ref pr, .ref ra, .int v1, .int vw, .int wr])), (im, .inr (1, [.ref iq, .int L])), (iq, .inl (cB, n, .inl f))] : va_W) ++ (PO (FC cB fa ga cf) md cn.toNatClampNeg)) H := hP
    have hD : va_D A (([(ra, .inl (cF, 99, .inr (.inr (.inr (.inr (rowF fa md)))))), ((fa cn.toNatClampNeg 0), .inr (2, [.ref (fa cn.toNatClampNeg 1), .ref (fa cn.toNatClampNeg 2), .int (ga cn.toNatClampNeg 0), .int (ga cn.toNatClampNeg 1), .int (ga cn.toNatClampNeg 2), .int (ga cn.toNatClampNeg 3), .int (ga cn.toNatClampNeg 4), .int (ga cn.toNatClampNeg 5), .int (ga cn.toNatClampNeg 6), .int (ga cn.toNatClampNeg 7), .int (ga cn.toNatClampNeg 8), .int (ga cn.toNatClampNeg 9), .int (ga cn.toNatClampNeg 10)])), ((fa cn.toNatClampNeg 1), .inl (cB, 60, .inl (cf cn.toNatClampNeg 1))), ((fa cn.toNatClampNeg 2), .inl (cB, 400, .inl (cf cn.toNatClampNeg 2))), (h0, .inr (7, [.ref im, .ref pr, .ref ra, .int v1, .int vw, .int wr])), (im, .inr (1, [.ref iq, .int L])), (iq, .inl (cB, n, .inl f))] : va_W) ++ (PO (FC cB fa ga cf) md cn.toNatClampNeg)) := hD
    try dsimp only at hp_r7
    have hv_8 := hp_r7
    have qr7 : r7.toInt = (low4B f L (z + 2)).toInt := by rw [hv_8]
    have hPc := hP.sub (ws' := [((fa cn.toNatClampNeg 0), .inr (2, [.ref (fa cn.toNatClampNeg 1), .ref (fa cn.toNatClampNeg 2), .int (ga cn.toNatClampNeg 0), .int (ga cn.toNatClampNeg 1), .int (ga cn.toNatClampNeg 2), .int (ga cn.toNatClampNeg 3), .int (ga cn.toNatClampNeg 4), .int (ga cn.toNatClampNeg 5), .int (ga cn.toNatClampNeg 6), .int (ga cn.toNatClampNeg 7), .int (ga cn.toNatClampNeg 8), .int (ga cn.toNatClampNeg 9), .int (ga cn.toNatClampNeg 10)]))]) [1] rfl
    have hDc := hD.sub (ws' := [((fa cn.toNatClampNeg 0), .inr (2, [.ref (fa cn.toNatClampNeg 1), .ref (fa cn.toNatClampNeg 2), .int (ga cn.toNatClampNeg 0), .int (ga cn.toNatClampNeg 1), .int (ga cn.toNatClampNeg 2), .int (ga cn.toNatClampNeg 3), .int (ga cn.toNatClampNeg 4), .int (ga cn.toNatClampNeg 5), .int (ga cn.toNatClampNeg 6), .int (ga cn.toNatClampNeg 7), .int (ga cn.toNatClampNeg 8), .int (ga cn.toNatClampNeg 9), .int (ga cn.toNatClampNeg 10)]))]) [1] (by decide +kernel) rfl
    have hFc := va_free (wc := [((fa cn.toNatClampNeg 0), .inr (2, [.ref (fa cn.toNatClampNeg 1), .ref (fa cn.toNatClampNeg 2), .int (ga cn.toNatClampNeg 0), .int (ga cn.toNatClampNeg 1), .int (ga cn.toNatClampNeg 2), .int (ga cn.toNatClampNeg 3), .int (ga cn.toNatClampNeg 4), .int (ga cn.toNatClampNeg 5), .int (ga cn.toNatClampNeg 6), .int (ga cn.toNatClampNeg 7), .int (ga cn.toNatClampNeg 8), .int (ga cn.toNatClampNeg 9), .int (ga cn.toNatClampNeg 10)]))]) hD hS hA [1] rfl
    have hkc : 0 ≤ 3 := by decide
    have hks : 0 ≤ 473 := by decide
    refine va_callv (va_runV (C := "DiscMaker$Found") (As := [.int x, .int y, .int r2, .int r5, .int r7]) (rest := []) ⟨hx, hb, hml, hown, hts⟩ (c3_Found_begin l D cB cI cJ cZ cN cF H.size (fa cn.toNatClampNeg 0) (fa cn.toNatClampNeg 1) (fa cn.toNatClampNeg 2) (ga cn.toNatClampNeg 0) (ga cn.toNatClampNeg 1) (ga cn.toNatClampNeg 2) (ga cn.toNatClampNeg 3) (ga cn.toNatClampNeg 4) (ga cn.toNatClampNeg 5) (ga cn.toNatClampNeg 6) (ga cn.toNatClampNeg 7) (ga cn.toNatClampNeg 8) (ga cn.toNatClampNeg 9) (ga cn.toNatClampNeg 10) x y r2 r5 r7 (by (try dsimp only); first | assumption | omega | trivial)) (cwV 5 hts (lg_goodV k1280 k1281 k1282 k141 kc_Found_begin) rfl rfl rfl (by decide +kernel) ⟨Nat.le_of_ble_eq_true rfl, Nat.le_of_ble_eq_true rfl⟩) ⟨fun a U g mk q => by obtain ⟨q0, q1, qP, qK, qN, qD⟩ := q; exact ⟨q0, q1, qP, va_K.moved (u := U) (U := U.calling g mk a) (Vm.Alike.refl U.vm) qK, qN.calling, qD⟩, va_recv hK hP (ci := 2) (q0 := 1) rfl rfl, fun U hU hW => ⟨rfl, by rw [hU], by rw [hU]; exact hPc, va_K.moved hW.alike hK, NN.warm hW hN, hDc.weaken (fun _ _ _ _ => trivial)⟩⟩ rfl rfl hl.1 rfl (lv_room (Nat.le_of_ble_eq_true rfl)) d_Reader_addRow_68 ⟨hkc, hks⟩) hS (fun q _ h => hFc q h) hFc (fun u t H1 locs ht hvm hp_r9 hB hz1 hk1 hS => ?_)
    obtain ⟨s2_10, rfl⟩ : ∃ z, z = u := ⟨_, rfl⟩
    obtain ⟨hP1, hD1⟩ := hB
    rw [ht] at hP1
    obtain ⟨hP, hD⟩ := va_joinQ (X := [(ra, .inl (cF, 99, .inr (.inr (.inr (.inr (rowF fa md)))))), ((fa cn.toNatClampNeg 0), .inr (2, [.ref (fa cn.toNatClampNeg 1), .ref (fa cn.toNatClampNeg 2), .int (ga cn.toNatClampNeg 0), .int (ga cn.toNatClampNeg 1), .int (ga cn.toNatClampNeg 2), .int (ga cn.toNatClampNeg 3), .int (ga cn.toNatClampNeg 4), .int (ga cn.toNatClampNeg 5), .int (ga cn.toNatClampNeg 6), .int (ga cn.toNatClampNeg 7), .int (ga cn.toNatClampNeg 8), .int (ga cn.toNatClampNeg 9), .int (ga cn.toNatClampNeg 10)])), ((fa cn.toNatClampNeg 1), .inl (cB, 60, .inl (cf cn.toNatClampNeg 1))), ((fa cn.toNatClampNeg 2), .inl (cB, 400, .inl (cf cn.toNatClampNeg 2))), (h0, .inr (7, [.ref im, .ref pr, .ref ra, .int v1, .int vw, .int wr])), (im, .inr (1, [.ref iq, .int L])), (iq, .inl (cB, n, .inl f))]) (cx := [((fa cn.toNatClampNeg 0), .inr (2, [.ref (fa cn.toNatClampNeg 1), .ref (fa cn.toNatClampNeg 2), .int (ga cn.toNatClampNeg 0), .int (ga cn.toNatClampNeg 1), .int (ga cn.toNatClampNeg 2), .int (ga cn.toNatClampNeg 3), .int (ga cn.toNatClampNeg 4), .int (ga cn.toNatClampNeg 5), .int (ga cn.toNatClampNeg 6), .int (ga cn.toNatClampNeg 7), .int (ga cn.toNatClampNeg 8), .int (ga cn.toNatClampNeg 9), .int (ga cn.toNatClampNeg 10)]))]) (wr := [(ra, .inl (cF, 99, .inr (.inr (.inr (.inr (rowF fa md)))))), ((fa cn.toNatClampNeg 1), .inl (cB, 60, .inl (cf cn.toNatClampNeg 1))), ((fa cn.toNatClampNeg 2), .inl (cB, 400, .inl (cf cn.toNatClampNeg 2))), (h0, .inr (7, [.ref im, .ref pr, .ref ra, .int v1, .int vw, .int wr])), (im, .inr (1, [.ref iq, .int L])), (iq, .inl (cB, n, .inl f))]) (w1 := [((fa cn.toNatClampNeg 0), .inr (2, [.ref (fa cn.toNatClampNeg 1), .ref (fa cn.toNatClampNeg 2), .int x, .int y, .int s2_10, .int r5, .int r7, .int 0, .int 0, .int 0, .int 0, .int 0, .int r2]))]) hP hD [1] [0, 2, 3, 4, 5, 6] rfl rfl (by decide +kernel) (by decide +kernel) hk1 hFc hP1 hD1
    clear hPc hDc hFc hP1 hD1 hk1 hz1 hkc hks
    generalize H1 = H at hP hS ⊢
    have hP : va_P D CL (([(ra, .inl (cF, 99, .inr (.inr (.inr (.inr (rowF fa md)))))), ((fa cn.toNatClampNeg 1), .inl (cB, 60, .inl (cf cn.toNatClampNeg 1))), ((fa cn.toNatClampNeg 2), .inl (cB, 400, .inl (cf cn.toNatClampNeg 2))), (h0, .inr (7, [.ref im, .ref pr, .ref ra, .int v1, .int vw, .int wr])), (im, .inr (1, [.ref iq, .int L])), (iq, .inl (cB, n, .inl f)), ((fa cn.toNatClampNeg 0), .inr (2, [.ref (fa cn.toNatClampNeg 1), .ref (fa cn.toNatClampNeg 2), .int x, .int y, .int s2_10, .int r5, .int r7, .int 0, .int 0, .int 0, .int 0, .int 0, .int r2]))] : va_W) ++ (PO (FC cB fa ga cf) md cn.toNatClampNeg)) H := hP
    have hD : va_D A (([(ra, .inl (cF, 99, .inr (.inr (.inr (.inr (rowF fa md)))))), ((fa cn.toNatClampNeg 1), .inl (cB, 60, .inl (cf cn.toNatClampNeg 1))), ((fa cn.toNatClampNeg 2), .inl (cB, 400, .inl (cf cn.toNatClampNeg 2))), (h0, .inr (7, [.ref im, .ref pr, .ref ra, .int v1, .int vw, .int wr])), (im, .inr (1, [.ref iq, .int L])), (iq, .inl (cB, n, .inl f)), ((fa cn.toNatClampNeg 0), .inr (2, [.ref (fa cn.toNatClampNeg 1), .ref (fa cn.toNatClampNeg 2), .int x, .int y, .int s2_10, .int r5, .int r7, .int 0, .int 0, .int 0, .int 0, .int 0, .int r2]))] : va_W) ++ (PO (FC cB fa ga cf) md cn.toNatClampNeg)) := hD
    try dsimp only at hp_r9
    have hs_11 := hp_r9
    have hP := hP.part (X := [(ra, .inl (cF, 99, .inr (.inr (.inr (.inr (rowF fa md)))))), ((fa cn.toNatClampNeg 1), .inl (cB, 60, .inl (cf cn.toNatClampNeg 1))), ((fa cn.toNatClampNeg 2), .inl (cB, 400, .inl (cf cn.toNatClampNeg 2))), (h0, .inr (7, [.ref im, .ref pr, .ref ra, .int v1, .int vw, .int wr])), (im, .inr (1, [.ref iq, .int L])), (iq, .inl (cB, n, .inl f)), ((fa cn.toNatClampNeg 0), .inr (2, [.ref (fa cn.toNatClampNeg 1), .ref (fa cn.toNatClampNeg 2), .int x, .int y, .int s2_10, .int r5, .int r7, .int 0, .int 0, .int 0, .int 0, .int 0, .int r2]))]) (cx := [(ra, .inl (cF, 99, .inr (.inr (.inr (.inr (rowF fa md)))))), (h0, .inr (7, [.ref im, .ref pr, .ref ra, .int v1, .int vw, .int wr])), (im, .inr (1, [.ref iq, .int L])), (iq, .inl (cB, n, .inl f)), ((fa cn.toNatClampNeg 0), .inr (2, [.ref (fa cn.toNatClampNeg 1), .ref (fa cn.toNatClampNeg 2), .int x, .int y, .int s2_10, .int r5, .int r7, .int 0, .int 0, .int 0, .int 0, .int 0, .int r2])), ((fa cn.toNatClampNeg 1), .inl (cB, 60, .inl (cf cn.toNatClampNeg 1))), ((fa cn.toNatClampNeg 2), .inl (cB, 400, .inl (cf cn.toNatClampNeg 2)))]) [0, 3, 4, 5, 6, 1, 2] rfl
    have hD := hD.part (X := [(ra, .inl (cF, 99, .inr (.inr (.inr (.inr (rowF fa md)))))), ((fa cn.toNatClampNeg 1), .inl (cB, 60, .inl (cf cn.toNatClampNeg 1))), ((fa cn.toNatClampNeg 2), .inl (cB, 400, .inl (cf cn.toNatClampNeg 2))), (h0, .inr (7, [.ref im, .ref pr, .ref ra, .int v1, .int vw, .int wr])), (im, .inr (1, [.ref iq, .int L])), (iq, .inl (cB, n, .inl f)), ((fa cn.toNatClampNeg 0), .inr (2, [.ref (fa cn.toNatClampNeg 1), .ref (fa cn.toNatClampNeg 2), .int x, .int y, .int s2_10, .int r5, .int r7, .int 0, .int 0, .int 0, .int 0, .int 0, .int r2]))]) (cx := [(ra, .inl (cF, 99, .inr (.inr (.inr (.inr (rowF fa md)))))), (h0, .inr (7, [.ref im, .ref pr, .ref ra, .int v1, .int vw, .int wr])), (im, .inr (1, [.ref iq, .int L])), (iq, .inl (cB, n, .inl f)), ((fa cn.toNatClampNeg 0), .inr (2, [.ref (fa cn.toNatClampNeg 1), .ref (fa cn.toNatClampNeg 2), .int x, .int y, .int s2_10, .int r5, .int r7, .int 0, .int 0, .int 0, .int 0, .int 0, .int r2])), ((fa cn.toNatClampNeg 1), .inl (cB, 60, .inl (cf cn.toNatClampNeg 1))), ((fa cn.toNatClampNeg 2), .inl (cB, 400, .inl (cf cn.toNatClampNeg 2)))]) [0, 3, 4, 5, 6, 1, 2] (by decide +kernel) rfl
    obtain ⟨gg12, e_gg12⟩ : ∃ z : Nat → Nat → Int32, z = upK ga cn.toNatClampNeg (v11 x y s2_10 r5 r7 0 0 0 0 0 r2) := ⟨_, rfl⟩
    obtain ⟨cc13, e_cc13⟩ : ∃ z : Nat → Nat → Nat → Int32, z = upK cf cn.toNatClampNeg (c12 (cf cn.toNatClampNeg 1) (cf cn.toNatClampNeg 2)) := ⟨_, rfl⟩
    have hP : va_P D CL ((([(ra, .inl (cF, 99, .inr (.inr (.inr (.inr (rowF fa md)))))), (h0, .inr (7, [.ref im, .ref pr, .ref ra, .int v1, .int vw, .int wr])), (im, .inr (1, [.ref iq, .int L])), (iq, .inl (cB, n, .inl f))] : va_W) ++ FC cB fa gg12 cc13 cn.toNatClampNeg) ++ (PO (FC cB fa ga cf) md cn.toNatClampNeg)) H := by rw [show FC cB fa gg12 cc13 cn.toNatClampNeg = [((fa cn.toNatClampNeg 0), .inr (2, [.ref (fa cn.toNatClampNeg 1), .ref (fa cn.toNatClampNeg 2), .int x, .int y, .int s2_10, .int r5, .int r7, .int 0, .int 0, .int 0, .int 0, .int 0, .int r2])), ((fa cn.toNatClampNeg 1), .inl (cB, 60, .inl (cf cn.toNatClampNeg 1))), ((fa cn.toNatClampNeg 2), .inl (cB, 400, .inl (cf cn.toNatClampNeg 2)))] from by unfold FC; rw [e_gg12, e_cc13, upK_at, upK_at]; rfl]; exact hP
    have hD : va_D A ((([(ra, .inl (cF, 99, .inr (.inr (.inr (.inr (rowF fa md)))))), (h0, .inr (7, [.ref im, .ref pr, .ref ra, .int v1, .int vw, .int wr])), (im, .inr (1, [.ref iq, .int L])), (iq, .inl (cB, n, .inl f))] : va_W) ++ FC cB fa gg12 cc13 cn.toNatClampNeg) ++ (PO (FC cB fa ga cf) md cn.toNatClampNeg)) := by rw [show FC cB fa gg12 cc13 cn.toNatClampNeg = [((fa cn.toNatClampNeg 0), .inr (2, [.ref (fa cn.toNatClampNeg 1), .ref (fa cn.toNatClampNeg 2), .int x, .int y, .int s2_10, .int r5, .int r7, .int 0, .int 0, .int 0, .int 0, .int 0, .int r2])), ((fa cn.toNatClampNeg 1), .inl (cB, 60, .inl (cf cn.toNatClampNeg 1))), ((fa cn.toNatClampNeg 2), .inl (cB, 400, .inl (cf cn.toNatClampNeg 2)))] from by unfold FC; rw [e_gg12, e_cc13, upK_at, upK_at]; rfl]; exact hD
    obtain ⟨hP, hD⟩ := pl_give (X := [(ra, .inl (cF, 99, .inr (.inr (.inr (.inr (rowF fa md)))))), (h0, .inr (7, [.ref im, .ref pr, .ref ra, .int v1, .int vw, .int wr])), (im, .inr (1, [.ref iq, .int L])), (iq, .inl (cB, n, .inl f))]) (C := FC cB fa ga cf) (C' := FC cB fa gg12 cc13) hP hD hcm (fun j h1 _ => FC_off2 e_gg12 e_cc13 h1)
    have hP : va_P D CL (([(ra, .inl (cF, 99, .inr (.inr (.inr (.inr (rowF fa md)))))), (h0, .inr (7, [.ref im, .ref pr, .ref ra, .int v1, .int vw, .int wr])), (im, .inr (1, [.ref iq, .int L])), (iq, .inl (cB, n, .inl f))] : va_W) ++ (PL (FC cB fa gg12 cc13) md)) H := hP
    have hD : va_D A (([(ra, .inl (cF, 99, .inr (.inr (.inr (.inr (rowF fa md)))))), (h0, .inr (7, [.ref im, .ref pr, .ref ra, .int v1, .int vw, .int wr])), (im, .inr (1, [.ref iq, .int L])), (iq, .inl (cB, n, .inl f))] : va_W) ++ (PL (FC cB fa gg12 cc13) md)) := hD
    have hT0 : tot s.heap = T0 := hZq
    refine zz_know (fun hk9 hn9 => ?_)
    have hP9 := hP.part (X := [(ra, .inl (cF, 99, .inr (.inr (.inr (.inr (rowF fa md)))))), (h0, .inr (7, [.ref im, .ref pr, .ref ra, .int v1, .int vw, .int wr])), (im, .inr (1, [.ref iq, .int L])), (iq, .inl (cB, n, .inl f))]) (cx := [(h0, .inr (7, [.ref im, .ref pr, .ref ra, .int v1, .int vw, .int wr])), (ra, .inl (cF, 99, .inr (.inr (.inr (.inr (rowF fa md)))))), (im, .inr (1, [.ref iq, .int L])), (iq, .inl (cB, n, .inl f))]) [1, 0, 2, 3] rfl
    have hD9 := hD.part (X := [(ra, .inl (cF, 99, .inr (.inr (.inr (.inr (rowF fa md)))))), (h0, .inr (7, [.ref im, .ref pr, .ref ra, .int v1, .int vw, .int wr])), (im, .inr (1, [.ref iq, .int L])), (iq, .inl (cB, n, .inl f))]) (cx := [(h0, .inr (7, [.ref im, .ref pr, .ref ra, .int v1, .int vw, .int wr])), (ra, .inl (cF, 99, .inr (.inr (.inr (.inr (rowF fa md)))))), (im, .inr (1, [.ref iq, .int L])), (iq, .inl (cB, n, .inl f))]) [1, 0, 2, 3] (by decide +kernel) rfl
    refine W.widen (k := 3) (n := 473) (by decide) (by decide) ?_
    exact W.vret hx hb hr (fun t ht hW => ⟨⟨(v1, fa, gg12, cc13, md), rfl, ⟨(by (try dsimp only); first | assumption | omega | trivial), (by (try dsimp only); rw [e_gg12]; refine ROK_push (k := cn.toNatClampNeg) hrok rfl (by omega) (by omega) ⟨?_, ?_, ?_⟩ <;> (try simp only [v11_2, v11_3, v11_4, v11_8, v11_9]) <;> omega), (by (try dsimp only); rw [e_gg12, show cn.toNatClampNeg = cn.toNatClampNeg by omega, upK_at]; simp only [v11_8, v11_9]; omega)⟩, ⟨by rw [ht]; omega, by rw [ht]; omega⟩, by rw [ht]; exact hP9, hD9⟩, hS.F ht⟩) hS.2.2 d_Reader_addRow_71
  · skip
    refine lv_aload_n hx hb d_Reader_addRow_0 rfl (lv_at hl 0 rfl) ?_
    refine va_get (D := D) (ci := 7) (v := .ref ra) (C := "DiscMaker$Reader") (T := F_Reader) (N := 6) hx hb ht9 in_Reader hown hK hP 0 rfl rfl 2 (by decide) (ht9 _ k414) (fun _ h9 => h9) rfl d_Reader_addRow_1 ?_
    refine lv_aload_n hx hb d_Reader_addRow_4 rfl (lv_at hl 0 rfl) ?_
    refine va_get (D := D) (ci := 7) (v := .int cn) (C := "DiscMaker$Reader") (T := F_Reader) (N := 6) hx hb ht9 in_Reader hown hK hP 0 rfl rfl 3 (by decide) (ht9 _ k415) (fun _ h9 => h9) rfl d_Reader_addRow_5 ?_
    refine va_aldq hx hb hK hP 1 5 rfl rfl (vp_in_iff.mpr ⟨by omega, by omega⟩) d_Reader_addRow_8 ?_
    refine W.eq (g2 := F0 m 9 ls [.null]) (by rw [show rowF fa md cn.toNatClampNeg = none from rowF_none (by omega)]; rfl) ?_
    refine lv_ifnonnullN hx hb d_Reader_addRow_9 ?_
    refine lv_aload_n hx hb d_Reader_addRow_12 rfl (lv_at hl 0 rfl) ?_
    refine va_get (D := D) (ci := 7) (v := .ref ra) (C := "DiscMaker$Reader") (T := F_Reader) (N := 6) hx hb ht9 in_Reader hown hK hP 0 rfl rfl 2 (by decide) (ht9 _ k414) (fun _ h9 => h9) rfl d_Reader_addRow_13 ?_
    refine lv_aload_n hx hb d_Reader_addRow_16 rfl (lv_at hl 0 rfl) ?_
    refine va_get (D := D) (ci := 7) (v := .int cn) (C := "DiscMaker$Reader") (T := F_Reader) (N := 6) hx hb ht9 in_Reader hown hK hP 0 rfl rfl 3 (by decide) (ht9 _ k415) (fun _ h9 => h9) rfl d_Reader_addRow_17 ?_
    have hc_20 : 1 ≤ 3 := by decide
    have hs_20 : 13 ≤ 473 := by decide
    refine va_new (ci := 2) (fs := [.null, .null, .int 0, .int 0, .int 0, .int 0, .int 0, .int 0, .int 0, .int 0, .int 0, .int 0, .int 0]) (C := "DiscMaker$Found") (T := F_Found) (N := 13) hx hb ht9 in_Found t_Found t_Found_ok hown (ht9 _ k384) (ht9 _ k1218) (ht9 _ k141) hK hP hD hS hA rfl (by decide) hc_20 hs_20 d_Reader_addRow_20 (fun q14 H hP hD hS => ?_)
    have hP := hP.swap (a := [(h0, .inr (7, [.ref im, .ref pr, .ref ra, .int cn, .int vw, .int wr])), (ra, .inl (cF, 99, .inr (.inr (.inr (.inr (rowF fa md)))))), (im, .inr (1, [.ref iq, .int L])), (iq, .inl (cB, n, .inl f))]) (b := (PL (FC cB fa ga cf) md))
    have hD := hD.swap (a := [(h0, .inr (7, [.ref im, .ref pr, .ref ra, .int cn, .int vw, .int wr])), (ra, .inl (cF, 99, .inr (.inr (.inr (.inr (rowF fa md)))))), (im, .inr (1, [.ref iq, .int L])), (iq, .inl (cB, n, .inl f))]) (b := (PL (FC cB fa ga cf) md))
    have hP : va_P D CL (([(h0, .inr (7, [.ref im, .ref pr, .ref ra, .int cn, .int vw, .int wr])), (ra, .inl (cF, 99, .inr (.inr (.inr (.inr (rowF fa md)))))), (im, .inr (1, [.ref iq, .int L])), (iq, .inl (cB, n, .inl f)), (q14, .inr (2, [.null, .null, .int 0, .int 0, .int 0, .int 0, .int 0, .int 0, .int 0, .int 0, .int 0, .int 0, .int 0]))] : va_W) ++ (PL (FC cB fa ga cf) md)) H := hP
    have hD : va_D A (([(h0, .inr (7, [.ref im, .ref pr, .ref ra, .int cn, .int vw, .int wr])), (ra, .inl (cF, 99, .inr (.inr (.inr (.inr (rowF fa md)))))), (im, .inr (1, [.ref iq, .int L])), (iq, .inl (cB, n, .inl f)), (q14, .inr (2, [.null, .null, .int 0, .int 0, .int 0, .int 0, .int 0, .int 0, .int 0, .int 0, .int 0, .int 0, .int 0]))] : va_W) ++ (PL (FC cB fa ga cf) md)) := hD
    refine W.widen (k := 1) (n := 13) (by decide) (by decide) ?_
    refine lv_dup hx hb d_Reader_addRow_23 rfl ?_
    have hPc := hP.sub (ws' := [(q14, .inr (2, [.null, .null, .int 0, .int 0, .int 0, .int 0, .int 0, .int 0, .int 0, .int 0, .int 0, .int 0, .int 0]))]) [4] rfl
    have hDc := hD.sub (ws' := [(q14, .inr (2, [.null, .null, .int 0, .int 0, .int 0, .int 0, .int 0, .int 0, .int 0, .int 0, .int 0, .int 0, .int 0]))]) [4] (by decide +kernel) rfl
    have hFc := va_free (wc := [(q14, .inr (2, [.null, .null, .int 0, .int 0, .int 0, .int 0, .int 0, .int 0, .int 0, .int 0, .int 0, .int 0, .int 0]))]) hD hS hA [4] rfl
    have hkc : 3 ≤ 3 := by decide
    have hks : 473 ≤ 473 := by decide
    refine va_callv (va_runIN (As := []) (rest := [.ref q14, .int cn, .ref ra]) ⟨hx, hb, hml, hown, hts⟩ (c3_Found_init l D cB cI cJ cZ cN cF H.size q14) ⟨va_cnB 0 hts (lg_good kc_Found_init) rfl rfl rfl (hN _ k1219) (ht9 _ k141) (by decide +kernel) ⟨Nat.le_of_ble_eq_true rfl, Nat.le_of_ble_eq_true rfl⟩, rfl, ht9 _ k1220⟩ ⟨fun a U g mk q => by obtain ⟨q0, q1, qP, qK, qN, qD⟩ := q; exact ⟨q0, q1, qP, va_K.moved (u := U) (U := U.calling g mk a) (Vm.Alike.refl U.vm) qK, qN.calling, qD⟩, fun U hU hW => ⟨rfl, by rw [hU], by rw [hU]; exact hPc, va_K.moved hW.alike hK, NN.warm hW hN, hDc.weaken (fun _ _ _ _ => trivial)⟩⟩ rfl rfl hl.1 rfl (lv_room (Nat.le_of_ble_eq_true rfl)) d_Reader_addRow_24 ⟨hkc, hks⟩) hS (fun q _ h => hFc q h) hFc (fun u t H1 locs ht hvm hp_r15 hB hz1 hk1 hS => ?_)
    obtain ⟨q1_16, q2_17⟩ := u
    obtain ⟨hP1, hD1⟩ := hB
    rw [ht] at hP1
    obtain ⟨hP, hD⟩ := va_joinQ (X := [(h0, .inr (7, [.ref im, .ref pr, .ref ra, .int cn, .int vw, .int wr])), (ra, .inl (cF, 99, .inr (.inr (.inr (.inr (rowF fa md)))))), (im, .inr (1, [.ref iq, .int L])), (iq, .inl (cB, n, .inl f)), (q14, .inr (2, [.null, .null, .int 0, .int 0, .int 0, .int 0, .int 0, .int 0, .int 0, .int 0, .int 0, .int 0, .int 0]))]) (cx := [(q14, .inr (2, [.null, .null, .int 0, .int 0, .int 0, .int 0, .int 0, .int 0, .int 0, .int 0, .int 0, .int 0, .int 0]))]) (wr := [(h0, .inr (7, [.ref im, .ref pr, .ref ra, .int cn, .int vw, .int wr])), (ra, .inl (cF, 99, .inr (.inr (.inr (.inr (rowF fa md)))))), (im, .inr (1, [.ref iq, .int L])), (iq, .inl (cB, n, .inl f))]) (w1 := [(q14, .inr (2, [.ref q1_16, .ref q2_17, .int 0, .int 0, .int 0, .int 0, .int 0, .int 0, .int 0, .int 0, .int 0, .int 0, .int 0])), (q1_16, .inl (cB, 60, .inl (fun _ => 0))), (q2_17, .inl (cB, 400, .inl (fun _ => 0)))]) hP hD [4] [0, 1, 2, 3] rfl rfl (by decide +kernel) (by decide +kernel) hk1 hFc hP1 hD1
    clear hPc hDc hFc hP1 hD1 hk1 hz1 hkc hks
    generalize H1 = H at hP hS ⊢
    have hP : va_P D CL (([(h0, .inr (7, [.ref im, .ref pr, .ref ra, .int cn, .int vw, .int wr])), (ra, .inl (cF, 99, .inr (.inr (.inr (.inr (rowF fa md)))))), (im, .inr (1, [.ref iq, .int L])), (iq, .inl (cB, n, .inl f)), (q14, .inr (2, [.ref q1_16, .ref q2_17, .int 0, .int 0, .int 0, .int 0, .int 0, .int 0, .int 0, .int 0, .int 0, .int 0, .int 0])), (q1_16, .inl (cB, 60, .inl (fun _ => 0))), (q2_17, .inl (cB, 400, .inl (fun _ => 0)))] : va_W) ++ (PL (FC cB fa ga cf) md)) H := hP
    have hD : va_D A (([(h0, .inr (7, [.ref im, .ref pr, .ref ra, .int cn, .int vw, .int wr])), (ra, .inl (cF, 99, .inr (.inr (.inr (.inr (rowF fa md)))))), (im, .inr (1, [.ref iq, .int L])), (iq, .inl (cB, n, .inl f)), (q14, .inr (2, [.ref q1_16, .ref q2_17, .int 0, .int 0, .int 0, .int 0, .int 0, .int 0, .int 0, .int 0, .int 0, .int 0, .int 0])), (q1_16, .inl (cB, 60, .inl (fun _ => 0))), (q2_17, .inl (cB, 400, .inl (fun _ => 0)))] : va_W) ++ (PL (FC cB fa ga cf) md)) := hD
    refine W.widen (k := 3) (n := 473) (by decide) (by decide) ?_
    refine va_astq hx hb hK hP hD hS 1 5 4 2 rfl rfl rfl rfl (vp_in_iff.mpr ⟨by omega, by omega⟩) d_Reader_addRow_27 (fun H locs hP hD hS => ?_)
    have hP : va_P D CL (([(h0, .inr (7, [.ref im, .ref pr, .ref ra, .int cn, .int vw, .int wr])), (ra, .inl (cF, 99, .inr (.inr (.inr (.inr (va_up (rowF fa md) cn.toNatClampNeg (some q14))))))), (im, .inr (1, [.ref iq, .int L])), (iq, .inl (cB, n, .inl f)), (q14, .inr (2, [.ref q1_16, .ref q2_17, .int 0, .int 0, .int 0, .int 0, .int 0, .int 0, .int 0, .int 0, .int 0, .int 0, .int 0])), (q1_16, .inl (cB, 60, .inl (fun _ => 0))), (q2_17, .inl (cB, 400, .inl (fun _ => 0)))] : va_W) ++ (PL (FC cB fa ga cf) md)) H := hP
    have hD : va_D A (([(h0, .inr (7, [.ref im, .ref pr, .ref ra, .int cn, .int vw, .int wr])), (ra, .inl (cF, 99, .inr (.inr (.inr (.inr (va_up (rowF fa md) cn.toNatClampNeg (some q14))))))), (im, .inr (1, [.ref iq, .int L])), (iq, .inl (cB, n, .inl f)), (q14, .inr (2, [.ref q1_16, .ref q2_17, .int 0, .int 0, .int 0, .int 0, .int 0, .int 0, .int 0, .int 0, .int 0, .int 0, .int 0])), (q1_16, .inl (cB, 60, .inl (fun _ => 0))), (q2_17, .inl (cB, 400, .inl (fun _ => 0)))] : va_W) ++ (PL (FC cB fa ga cf) md)) := hD
    refine lv_aload_n hx hb d_Reader_addRow_28 rfl (lv_at hl 0 rfl) ?_
    refine va_get (D := D) (ci := 7) (v := .ref ra) (C := "DiscMaker$Reader") (T := F_Reader) (N := 6) hx hb ht9 in_Reader hown hK hP 0 rfl rfl 2 (by decide) (ht9 _ k414) (fun _ h9 => h9) rfl d_Reader_addRow_29 ?_
    refine lv_aload_n hx hb d_Reader_addRow_32 rfl (lv_at hl 0 rfl) ?_
    refine va_get (D := D) (ci := 7) (v := .int cn) (C := "DiscMaker$Reader") (T := F_Reader) (N := 6) hx hb ht9 in_Reader hown hK hP 0 rfl rfl 3 (by decide) (ht9 _ k415) (fun _ h9 => h9) rfl d_Reader_addRow_33 ?_
    refine va_aldq hx hb hK hP 1 5 rfl rfl (vp_in_iff.mpr ⟨by omega, by omega⟩) d_Reader_addRow_36 ?_
    refine W.eq (g2 := F0 m 37 ls [.ref q14]) (by rw [show va_up (rowF fa md) cn.toNatClampNeg (some q14) cn.toNatClampNeg = some q14 from if_pos rfl]; rfl) ?_
    refine lv_astore hx hb d_Reader_addRow_37 hl (by decide) rfl (fun ls hl => ?_)
    have hl : lv_has ls 5 [(4, .ref q14), (0, .ref h0), (1, .int x), (2, .int y), (3, .int z)] := hl
    refine lv_aload_n hx hb d_Reader_addRow_39 rfl (lv_at hl 1 rfl) ?_
    refine lv_dup hx hb d_Reader_addRow_40 rfl ?_
    refine va_get (D := D) (ci := 7) (v := .int cn) (C := "DiscMaker$Reader") (T := F_Reader) (N := 6) hx hb ht9 in_Reader hown hK hP 0 rfl rfl 3 (by decide) (ht9 _ k415) (fun _ h9 => h9) rfl d_Reader_addRow_41 ?_
    refine lv_iconst (v := 1) hx hb d_Reader_addRow_44 (by decide) ?_
    refine lv_iadd hx hb d_Reader_addRow_45 ?_
    refine lv_topi (fun v18 e_v18 => ?_)
    have t_v18 : v18.toInt = cn.toInt + 1 := by rw [e_v18]; exact i_add rfl (by decide) (by omega) (by omega)
    refine va_put (D := D) (ci := 7) (v := .int v18) (ty := .int) (C := "DiscMaker$Reader") (T := F_Reader) (N := 6) hx hb ht9 in_Reader t_Reader t_Reader_ok n_Reader hown hK hP hD hS 0 rfl rfl 3 (by decide) (ht9 _ k415) (fun _ h9 => h9) rfl (by decide +kernel) rfl rfl (Nat.le_of_ble_eq_true rfl) d_Reader_addRow_46 (fun H locs hP hD hS => ?_)
    have hP : va_P D CL (([(h0, .inr (7, [.ref im, .ref pr, .ref ra, .int v18, .int vw, .int wr])), (ra, .inl (cF, 99, .inr (.inr (.inr (.inr (va_up (rowF fa md) cn.toNatClampNeg (some q14))))))), (im, .inr (1, [.ref iq, .int L])), (iq, .inl (cB, n, .inl f)), (q14, .inr (2, [.ref q1_16, .ref q2_17, .int 0, .int 0, .int 0, .int 0, .int 0, .int 0, .int 0, .int 0, .int 0, .int 0, .int 0])), (q1_16, .inl (cB, 60, .inl (fun _ => 0))), (q2_17, .inl (cB, 400, .inl (fun _ => 0)))] : va_W) ++ (PL (FC cB fa ga cf) md)) H := hP
    have hD : va_D A (([(h0, .inr (7, [.ref im, .ref pr, .ref ra, .int v18, .int vw, .int wr])), (ra, .inl (cF, 99, .inr (.inr (.inr (.inr (va_up (rowF fa md) cn.toNatClampNeg (some q14))))))), (im, .inr (1, [.ref iq, .int L])), (iq, .inl (cB, n, .inl f)), (q14, .inr (2, [.ref q1_16, .ref q2_17, .int 0, .int 0, .int 0, .int 0, .int 0, .int 0, .int 0, .int 0, .int 0, .int 0, .int 0])), (q1_16, .inl (cB, 60, .inl (fun _ => 0))), (q2_17, .inl (cB, 400, .inl (fun _ => 0)))] : va_W) ++ (PL (FC cB fa ga cf) md)) := hD
    refine lv_aload hx hb d_Reader_addRow_49 (lv_at hl 0 rfl) ?_
    refine lv_iload_n hx hb d_Reader_addRow_51 rfl (lv_at hl 2 rfl) ?_
    refine lv_iload_n hx hb d_Reader_addRow_52 rfl (lv_at hl 3 rfl) ?_
    refine lv_aload_n hx hb d_Reader_addRow_53 rfl (lv_at hl 1 rfl) ?_
    refine lv_iload_n hx hb d_Reader_addRow_54 rfl (lv_at hl 4 rfl) ?_
    have hPc := hP.sub (ws' := [(h0, .inr (7, [.ref im, .ref pr, .ref ra, .int v18, .int vw, .int wr])), (im, .inr (1, [.ref iq, .int L])), (iq, .inl (cB, n, .inl f))]) [0, 2, 3] rfl
    have hDc := hD.sub (ws' := [(h0, .inr (7, [.ref im, .ref pr, .ref ra, .int v18, .int vw, .int wr])), (im, .inr (1, [.ref iq, .int L])), (iq, .inl (cB, n, .inl f))]) [0, 2, 3] (by decide +kernel) rfl
    have hFc := va_free (wc := [(h0, .inr (7, [.ref im, .ref pr, .ref ra, .int v18, .int vw, .int wr])), (im, .inr (1, [.ref iq, .int L])), (iq, .inl (cB, n, .inl f))]) hD hS hA [0, 2, 3] rfl
    have hkc : 3 ≤ 3 := by decide
    have hks : 473 ≤ 473 := by decide
    refine va_calli (va_runV (C := "DiscMaker$Reader") (As := [.int z]) (rest := [.int y, .int x, .ref q14]) ⟨hx, hb, hml, hown, hts⟩ (c3_isDirectory l D cB cI cJ cZ cN cF H.size h0 pr ra im iq n L f v18 vw wr z (by (try dsimp only); first | assumption | omega | trivial) (by (try dsimp only); first | assumption | omega | trivial) (by (try dsimp only); first | assumption | omega | trivial)) (cwV 1 hts (lg_goodV k1209 k1211 k37 k123 kc_Reader_isDirectory) rfl rfl rfl (by decide +kernel) ⟨Nat.le_of_ble_eq_true rfl, Nat.le_of_ble_eq_true rfl⟩) ⟨fun a U g mk q => by obtain ⟨q0, q1, qP, qK, qN, qD⟩ := q; exact ⟨q0, q1, qP, va_K.moved (u := U) (U := U.calling g mk a) (Vm.Alike.refl U.vm) qK, qN.calling, qD⟩, va_recv hK hP (ci := 7) (q0 := 0) rfl rfl, fun U hU hW => ⟨rfl, by rw [hU], by rw [hU]; exact hPc, va_K.moved hW.alike hK, NN.warm hW hN, hDc.weaken (fun _ _ _ _ => trivial)⟩⟩ rfl rfl hl.1 rfl (lv_room (Nat.le_of_ble_eq_true rfl)) d_Reader_addRow_55 ⟨hkc, hks⟩) hS (fun q _ h => hFc q h) hFc (fun r19 u t H1 locs ht hvm hp_r19 hB hz1 hk1 hS => ?_)
    obtain ⟨hP1, hD1⟩ := hB
    rw [ht] at hP1
    obtain ⟨hP, hD⟩ := va_joinQ (X := [(h0, .inr (7, [.ref im, .ref pr, .ref ra, .int v18, .int vw, .int wr])), (ra, .inl (cF, 99, .inr (.inr (.inr (.inr (va_up (rowF fa md) cn.toNatClampNeg (some q14))))))), (im, .inr (1, [.ref iq, .int L])), (iq, .inl (cB, n, .inl f)), (q14, .inr (2, [.ref q1_16, .ref q2_17, .int 0, .int 0, .int 0, .int 0, .int 0, .int 0, .int 0, .int 0, .int 0, .int 0, .int 0])), (q1_16, .inl (cB, 60, .inl (fun _ => 0))), (q2_17, .inl (cB, 400, .inl (fun _ => 0)))]) (cx := [(h0, .inr (7, [.ref im, .ref pr, .ref ra, .int v18, .int vw, .int wr])), (im, .inr (1, [.ref iq, .int L])), (iq, .inl (cB, n, .inl f))]) (wr := [(ra, .inl (cF, 99, .inr (.inr (.inr (.inr (va_up (rowF fa md) cn.toNatClampNeg (some q14))))))), (q14, .inr (2, [.ref q1_16, .ref q2_17, .int 0, .int 0, .int 0, .int 0, .int 0, .int 0, .int 0, .int 0, .int 0, .int 0, .int 0])), (q1_16, .inl (cB, 60, .inl (fun _ => 0))), (q2_17, .inl (cB, 400, .inl (fun _ => 0)))]) (w1 := [(h0, .inr (7, [.ref im, .ref pr, .ref ra, .int v18, .int vw, .int wr])), (im, .inr (1, [.ref iq, .int L])), (iq, .inl (cB, n, .inl f))]) hP hD [0, 2, 3] [1, 4, 5, 6] rfl rfl (by decide +kernel) (by decide +kernel) hk1 hFc hP1 hD1
    clear hPc hDc hFc hP1 hD1 hk1 hz1 hkc hks
    generalize H1 = H at hP hS ⊢
    have hP : va_P D CL (([(ra, .inl (cF, 99, .inr (.inr (.inr (.inr (va_up (rowF fa md) cn.toNatClampNeg (some q14))))))), (q14, .inr (2, [.ref q1_16, .ref q2_17, .int 0, .int 0, .int 0, .int 0, .int 0, .int 0, .int 0, .int 0, .int 0, .int 0, .int 0])), (q1_16, .inl (cB, 60, .inl (fun _ => 0))), (q2_17, .inl (cB, 400, .inl (fun _ => 0))), (h0, .inr (7, [.ref im, .ref pr, .ref ra, .int v18, .int vw, .int wr])), (im, .inr (1, [.ref iq, .int L])), (iq, .inl (cB, n, .inl f))] : va_W) ++ (PL (FC cB fa ga cf) md)) H := hP
    have hD : va_D A (([(ra, .inl (cF, 99, .inr (.inr (.inr (.inr (va_up (rowF fa md) cn.toNatClampNeg (some q14))))))), (q14, .inr (2, [.ref q1_16, .ref q2_17, .int 0, .int 0, .int 0, .int 0, .int 0, .int 0, .int 0, .int 0, .int 0, .int 0, .int 0])), (q1_16, .inl (cB, 60, .inl (fun _ => 0))), (q2_17, .inl (cB, 400, .inl (fun _ => 0))), (h0, .inr (7, [.ref im, .ref pr, .ref ra, .int v18, .int vw, .int wr])), (im, .inr (1, [.ref iq, .int L])), (iq, .inl (cB, n, .inl f))] : va_W) ++ (PL (FC cB fa ga cf) md)) := hD
    try dsimp only at hp_r19
    obtain ⟨hr_20, hv_21⟩ := hp_r19
    refine lv_aload_n hx hb d_Reader_addRow_58 rfl (lv_at hl 1 rfl) ?_
    refine lv_iload_n hx hb d_Reader_addRow_59 rfl (lv_at hl 4 rfl) ?_
    have hPc := hP.sub (ws' := [(h0, .inr (7, [.ref im, .ref pr, .ref ra, .int v18, .int vw, .int wr])), (im, .inr (1, [.ref iq, .int L])), (iq, .inl (cB, n, .inl f))]) [4, 5, 6] rfl
    have hDc := hD.sub (ws' := [(h0, .inr (7, [.ref im, .ref pr, .ref ra, .int v18, .int vw, .int wr])), (im, .inr (1, [.ref iq, .int L])), (iq, .inl (cB, n, .inl f))]) [4, 5, 6] (by decide +kernel) rfl
    have hFc := va_free (wc := [(h0, .inr (7, [.ref im, .ref pr, .ref ra, .int v18, .int vw, .int wr])), (im, .inr (1, [.ref iq, .int L])), (iq, .inl (cB, n, .inl f))]) hD hS hA [4, 5, 6] rfl
    have hkc : 3 ≤ 3 := by decide
    have hks : 473 ≤ 473 := by decide
    refine va_calli (va_runV (C := "DiscMaker$Reader") (As := [.int z]) (rest := [.int r19, .int y, .int x, .ref q14]) ⟨hx, hb, hml, hown, hts⟩ (c3_sizeAt l D cB cI cJ cZ cN cF H.size h0 pr ra im iq n L f v18 vw wr z (by (try dsimp only); first | assumption | omega | trivial) (by (try dsimp only); first | assumption | omega | trivial) (by (try dsimp only); first | assumption | omega | trivial)) (cwV 1 hts (lg_goodV k1201 k1203 k35 k123 kc_Reader_sizeAt) rfl rfl rfl (by decide +kernel) ⟨Nat.le_of_ble_eq_true rfl, Nat.le_of_ble_eq_true rfl⟩) ⟨fun a U g mk q => by obtain ⟨q0, q1, qP, qK, qN, qD⟩ := q; exact ⟨q0, q1, qP, va_K.moved (u := U) (U := U.calling g mk a) (Vm.Alike.refl U.vm) qK, qN.calling, qD⟩, va_recv hK hP (ci := 7) (q0 := 4) rfl rfl, fun U hU hW => ⟨rfl, by rw [hU], by rw [hU]; exact hPc, va_K.moved hW.alike hK, NN.warm hW hN, hDc.weaken (fun _ _ _ _ => trivial)⟩⟩ rfl rfl hl.1 rfl (lv_room (Nat.le_of_ble_eq_true rfl)) d_Reader_addRow_60 ⟨hkc, hks⟩) hS (fun q _ h => hFc q h) hFc (fun r22 u t H1 locs ht hvm hp_r22 hB hz1 hk1 hS => ?_)
    obtain ⟨hP1, hD1⟩ := hB
    rw [ht] at hP1
    obtain ⟨hP, hD⟩ := va_joinQ (X := [(ra, .inl (cF, 99, .inr (.inr (.inr (.inr (va_up (rowF fa md) cn.toNatClampNeg (some q14))))))), (q14, .inr (2, [.ref q1_16, .ref q2_17, .int 0, .int 0, .int 0, .int 0, .int 0, .int 0, .int 0, .int 0, .int 0, .int 0, .int 0])), (q1_16, .inl (cB, 60, .inl (fun _ => 0))), (q2_17, .inl (cB, 400, .inl (fun _ => 0))), (h0, .inr (7, [.ref im, .ref pr, .ref ra, .int v18, .int vw, .int wr])), (im, .inr (1, [.ref iq, .int L])), (iq, .inl (cB, n, .inl f))]) (cx := [(h0, .inr (7, [.ref im, .ref pr, .ref ra, .int v18, .int vw, .int wr])), (im, .inr (1, [.ref iq, .int L])), (iq, .inl (cB, n, .inl f))]) (wr := [(ra, .inl (cF, 99, .inr (.inr (.inr (.inr (va_up (rowF fa md) cn.toNatClampNeg (some q14))))))), (q14, .inr (2, [.ref q1_16, .ref q2_17, .int 0, .int 0, .int 0, .int 0, .int 0, .int 0, .int 0, .int 0, .int 0, .int 0, .int 0])), (q1_16, .inl (cB, 60, .inl (fun _ => 0))), (q2_17, .inl (cB, 400, .inl (fun _ => 0)))]) (w1 := [(h0, .inr (7, [.ref im, .ref pr, .ref ra, .int v18, .int vw, .int wr])), (im, .inr (1, [.ref iq, .int L])), (iq, .inl (cB, n, .inl f))]) hP hD [4, 5, 6] [0, 1, 2, 3] rfl rfl (by decide +kernel) (by decide +kernel) hk1 hFc hP1 hD1
    clear hPc hDc hFc hP1 hD1 hk1 hz1 hkc hks
    generalize H1 = H at hP hS ⊢
    have hP : va_P D CL (([(ra, .inl (cF, 99, .inr (.inr (.inr (.inr (va_up (rowF fa md) cn.toNatClampNeg (some q14))))))), (q14, .inr (2, [.ref q1_16, .ref q2_17, .int 0, .int 0, .int 0, .int 0, .int 0, .int 0, .int 0, .int 0, .int 0, .int 0, .int 0])), (q1_16, .inl (cB, 60, .inl (fun _ => 0))), (q2_17, .inl (cB, 400, .inl (fun _ => 0))), (h0, .inr (7, [.ref im, .ref pr, .ref ra, .int v18, .int vw, .int wr])), (im, .inr (1, [.ref iq, .int L])), (iq, .inl (cB, n, .inl f))] : va_W) ++ (PL (FC cB fa ga cf) md)) H := hP
    have hD : va_D A (([(ra, .inl (cF, 99, .inr (.inr (.inr (.inr (va_up (rowF fa md) cn.toNatClampNeg (some q14))))))), (q14, .inr (2, [.ref q1_16, .ref q2_17, .int 0, .int 0, .int 0, .int 0, .int 0, .int 0, .int 0, .int 0, .int 0, .int 0, .int 0])), (q1_16, .inl (cB, 60, .inl (fun _ => 0))), (q2_17, .inl (cB, 400, .inl (fun _ => 0))), (h0, .inr (7, [.ref im, .ref pr, .ref ra, .int v18, .int vw, .int wr])), (im, .inr (1, [.ref iq, .int L])), (iq, .inl (cB, n, .inl f))] : va_W) ++ (PL (FC cB fa ga cf) md)) := hD
    try dsimp only at hp_r22
    have hv_23 := hp_r22
    have qr22 : r22.toInt = (low4B f L (z + 10)).toInt := by rw [hv_23]
    refine lv_aload_n hx hb d_Reader_addRow_63 rfl (lv_at hl 1 rfl) ?_
    refine lv_iload_n hx hb d_Reader_addRow_64 rfl (lv_at hl 4 rfl) ?_
    have hPc := hP.sub (ws' := [(h0, .inr (7, [.ref im, .ref pr, .ref ra, .int v18, .int vw, .int wr])), (im, .inr (1, [.ref iq, .int L])), (iq, .inl (cB, n, .inl f))]) [4, 5, 6] rfl
    have hDc := hD.sub (ws' := [(h0, .inr (7, [.ref im, .ref pr, .ref ra, .int v18, .int vw, .int wr])), (im, .inr (1, [.ref iq, .int L])), (iq, .inl (cB, n, .inl f))]) [4, 5, 6] (by decide +kernel) rfl
    have hFc := va_free (wc := [(h0, .inr (7, [.ref im, .ref pr, .ref ra, .int v18, .int vw, .int wr])), (im, .inr (1, [.ref iq, .int L])), (iq, .inl (cB, n, .inl f))]) hD hS hA [4, 5, 6] rfl
    have hkc : 3 ≤ 3 := by decide
    have hks : 473 ≤ 473 := by decide
    refine va_calli (va_runV (C := "DiscMaker$Reader") (As := [.int z]) (rest := [.int r22, .int r19, .int y, .int x, .ref q14]) ⟨hx, hb, hml, hown, hts⟩ (c3_sectorAt l D cB cI cJ cZ cN cF H.size h0 pr ra im iq n L f v18 vw wr z (by (try dsimp only); first | assumption | omega | trivial) (by (try dsimp only); first | assumption | omega | trivial) (by (try dsimp only); first | assumption | omega | trivial)) (cwV 1 hts (lg_goodV k1205 k1207 k36 k123 kc_Reader_sectorAt) rfl rfl rfl (by decide +kernel) ⟨Nat.le_of_ble_eq_true rfl, Nat.le_of_ble_eq_true rfl⟩) ⟨fun a U g mk q => by obtain ⟨q0, q1, qP, qK, qN, qD⟩ := q; exact ⟨q0, q1, qP, va_K.moved (u := U) (U := U.calling g mk a) (Vm.Alike.refl U.vm) qK, qN.calling, qD⟩, va_recv hK hP (ci := 7) (q0 := 4) rfl rfl, fun U hU hW => ⟨rfl, by rw [hU], by rw [hU]; exact hPc, va_K.moved hW.alike hK, NN.warm hW hN, hDc.weaken (fun _ _ _ _ => trivial)⟩⟩ rfl rfl hl.1 rfl (lv_room (Nat.le_of_ble_eq_true rfl)) d_Reader_addRow_65 ⟨hkc, hks⟩) hS (fun q _ h => hFc q h) hFc (fun r24 u t H1 locs ht hvm hp_r24 hB hz1 hk1 hS => ?_)
    obtain ⟨hP1, hD1⟩ := hB
    rw [ht] at hP1
    obtain ⟨hP, hD⟩ := va_joinQ (X := [(ra, .inl (cF, 99, .inr (.inr (.inr (.inr (va_up (rowF fa md) cn.toNatClampNeg (some q14))))))), (q14, .inr (2, [.ref q1_16, .ref q2_17, .int 0, .int 0, .int 0, .int 0, .int 0, .int 0, .int 0, .int 0, .int 0, .int 0, .int 0])), (q1_16, .inl (cB, 60, .inl (fun _ => 0))), (q2_17, .inl (cB, 400, .inl (fun _ => 0))), (h0, .inr (7, [.ref im, .ref pr, .ref ra, .int v18, .int vw, .int wr])), (im, .inr (1, [.ref iq, .int L])), (iq, .inl (cB, n, .inl f))]) (cx := [(h0, .inr (7, [.ref im, .ref pr, .ref ra, .int v18, .int vw, .int wr])), (im, .inr (1, [.ref iq, .int L])), (iq, .inl (cB, n, .inl f))]) (wr := [(ra, .inl (cF, 99, .inr (.inr (.inr (.inr (va_up (rowF fa md) cn.toNatClampNeg (some q14))))))), (q14, .inr (2, [.ref q1_16, .ref q2_17, .int 0, .int 0, .int 0, .int 0, .int 0, .int 0, .int 0, .int 0, .int 0, .int 0, .int 0])), (q1_16, .inl (cB, 60, .inl (fun _ => 0))), (q2_17, .inl (cB, 400, .inl (fun _ => 0)))]) (w1 := [(h0, .inr (7, [.ref im, .ref pr, .ref ra, .int v18, .int vw, .int wr])), (im, .inr (1, [.ref iq, .int L])), (iq, .inl (cB, n, .inl f))]) hP hD [4, 5, 6] [0, 1, 2, 3] rfl rfl (by decide +kernel) (by decide +kernel) hk1 hFc hP1 hD1
    clear hPc hDc hFc hP1 hD1 hk1 hz1 hkc hks
    generalize H1 = H at hP hS ⊢
    have hP : va_P D CL (([(ra, .inl (cF, 99, .inr (.inr (.inr (.inr (va_up (rowF fa md) cn.toNatClampNeg (some q14))))))), (q14, .inr (2, [.ref q1_16, .ref q2_17, .int 0, .int 0, .int 0, .int 0, .int 0, .int 0, .int 0, .int 0, .int 0, .int 0, .int 0])), (q1_16, .inl (cB, 60, .inl (fun _ => 0))), (q2_17, .inl (cB, 400, .inl (fun _ => 0))), (h0, .inr (7, [.ref im, .ref pr, .ref ra, .int v18, .int vw, .int wr])), (im, .inr (1, [.ref iq, .int L])), (iq, .inl (cB, n, .inl f))] : va_W) ++ (PL (FC cB fa ga cf) md)) H := hP
    have hD : va_D A (([(ra, .inl (cF, 99, .inr (.inr (.inr (.inr (va_up (rowF fa md) cn.toNatClampNeg (some q14))))))), (q14, .inr (2, [.ref q1_16, .ref q2_17, .int 0, .int 0, .int 0, .int 0, .int 0, .int 0, .int 0, .int 0, .int 0, .int 0, .int 0])), (q1_16, .inl (cB, 60, .inl (fun _ => 0))), (q2_17, .inl (cB, 400, .inl (fun _ => 0))), (h0, .inr (7, [.ref im, .ref pr, .ref ra, .int v18, .int vw, .int wr])), (im, .inr (1, [.ref iq, .int L])), (iq, .inl (cB, n, .inl f))] : va_W) ++ (PL (FC cB fa ga cf) md)) := hD
    try dsimp only at hp_r24
    have hv_25 := hp_r24
    have qr24 : r24.toInt = (low4B f L (z + 2)).toInt := by rw [hv_25]
    have hPc := hP.sub (ws' := [(q14, .inr (2, [.ref q1_16, .ref q2_17, .int 0, .int 0, .int 0, .int 0, .int 0, .int 0, .int 0, .int 0, .int 0, .int 0, .int 0]))]) [1] rfl
    have hDc := hD.sub (ws' := [(q14, .inr (2, [.ref q1_16, .ref q2_17, .int 0, .int 0, .int 0, .int 0, .int 0, .int 0, .int 0, .int 0, .int 0, .int 0, .int 0]))]) [1] (by decide +kernel) rfl
    have hFc := va_free (wc := [(q14, .inr (2, [.ref q1_16, .ref q2_17, .int 0, .int 0, .int 0, .int 0, .int 0, .int 0, .int 0, .int 0, .int 0, .int 0, .int 0]))]) hD hS hA [1] rfl
    have hkc : 3 ≤ 3 := by decide
    have hks : 473 ≤ 473 := by decide
    refine va_callv (va_runV (C := "DiscMaker$Found") (As := [.int x, .int y, .int r19, .int r22, .int r24]) (rest := []) ⟨hx, hb, hml, hown, hts⟩ (c3_Found_begin l D cB cI cJ cZ cN cF H.size q14 q1_16 q2_17 0 0 0 0 0 0 0 0 0 0 0 x y r19 r22 r24 (by (try dsimp only); first | assumption | omega | trivial)) (cwV 5 hts (lg_goodV k1280 k1281 k1282 k141 kc_Found_begin) rfl rfl rfl (by decide +kernel) ⟨Nat.le_of_ble_eq_true rfl, Nat.le_of_ble_eq_true rfl⟩) ⟨fun a U g mk q => by obtain ⟨q0, q1, qP, qK, qN, qD⟩ := q; exact ⟨q0, q1, qP, va_K.moved (u := U) (U := U.calling g mk a) (Vm.Alike.refl U.vm) qK, qN.calling, qD⟩, va_recv hK hP (ci := 2) (q0 := 1) rfl rfl, fun U hU hW => ⟨rfl, by rw [hU], by rw [hU]; exact hPc, va_K.moved hW.alike hK, NN.warm hW hN, hDc.weaken (fun _ _ _ _ => trivial)⟩⟩ rfl rfl hl.1 rfl (lv_room (Nat.le_of_ble_eq_true rfl)) d_Reader_addRow_68 ⟨hkc, hks⟩) hS (fun q _ h => hFc q h) hFc (fun u t H1 locs ht hvm hp_r26 hB hz1 hk1 hS => ?_)
    obtain ⟨s2_27, rfl⟩ : ∃ z, z = u := ⟨_, rfl⟩
    obtain ⟨hP1, hD1⟩ := hB
    rw [ht] at hP1
    obtain ⟨hP, hD⟩ := va_joinQ (X := [(ra, .inl (cF, 99, .inr (.inr (.inr (.inr (va_up (rowF fa md) cn.toNatClampNeg (some q14))))))), (q14, .inr (2, [.ref q1_16, .ref q2_17, .int 0, .int 0, .int 0, .int 0, .int 0, .int 0, .int 0, .int 0, .int 0, .int 0, .int 0])), (q1_16, .inl (cB, 60, .inl (fun _ => 0))), (q2_17, .inl (cB, 400, .inl (fun _ => 0))), (h0, .inr (7, [.ref im, .ref pr, .ref ra, .int v18, .int vw, .int wr])), (im, .inr (1, [.ref iq, .int L])), (iq, .inl (cB, n, .inl f))]) (cx := [(q14, .inr (2, [.ref q1_16, .ref q2_17, .int 0, .int 0, .int 0, .int 0, .int 0, .int 0, .int 0, .int 0, .int 0, .int 0, .int 0]))]) (wr := [(ra, .inl (cF, 99, .inr (.inr (.inr (.inr (va_up (rowF fa md) cn.toNatClampNeg (some q14))))))), (q1_16, .inl (cB, 60, .inl (fun _ => 0))), (q2_17, .inl (cB, 400, .inl (fun _ => 0))), (h0, .inr (7, [.ref im, .ref pr, .ref ra, .int v18, .int vw, .int wr])), (im, .inr (1, [.ref iq, .int L])), (iq, .inl (cB, n, .inl f))]) (w1 := [(q14, .inr (2, [.ref q1_16, .ref q2_17, .int x, .int y, .int s2_27, .int r22, .int r24, .int 0, .int 0, .int 0, .int 0, .int 0, .int r19]))]) hP hD [1] [0, 2, 3, 4, 5, 6] rfl rfl (by decide +kernel) (by decide +kernel) hk1 hFc hP1 hD1
    clear hPc hDc hFc hP1 hD1 hk1 hz1 hkc hks
    generalize H1 = H at hP hS ⊢
    have hP : va_P D CL (([(ra, .inl (cF, 99, .inr (.inr (.inr (.inr (va_up (rowF fa md) cn.toNatClampNeg (some q14))))))), (q1_16, .inl (cB, 60, .inl (fun _ => 0))), (q2_17, .inl (cB, 400, .inl (fun _ => 0))), (h0, .inr (7, [.ref im, .ref pr, .ref ra, .int v18, .int vw, .int wr])), (im, .inr (1, [.ref iq, .int L])), (iq, .inl (cB, n, .inl f)), (q14, .inr (2, [.ref q1_16, .ref q2_17, .int x, .int y, .int s2_27, .int r22, .int r24, .int 0, .int 0, .int 0, .int 0, .int 0, .int r19]))] : va_W) ++ (PL (FC cB fa ga cf) md)) H := hP
    have hD : va_D A (([(ra, .inl (cF, 99, .inr (.inr (.inr (.inr (va_up (rowF fa md) cn.toNatClampNeg (some q14))))))), (q1_16, .inl (cB, 60, .inl (fun _ => 0))), (q2_17, .inl (cB, 400, .inl (fun _ => 0))), (h0, .inr (7, [.ref im, .ref pr, .ref ra, .int v18, .int vw, .int wr])), (im, .inr (1, [.ref iq, .int L])), (iq, .inl (cB, n, .inl f)), (q14, .inr (2, [.ref q1_16, .ref q2_17, .int x, .int y, .int s2_27, .int r22, .int r24, .int 0, .int 0, .int 0, .int 0, .int 0, .int r19]))] : va_W) ++ (PL (FC cB fa ga cf) md)) := hD
    try dsimp only at hp_r26
    have hs_28 := hp_r26
    have hP := hP.part (X := [(ra, .inl (cF, 99, .inr (.inr (.inr (.inr (va_up (rowF fa md) cn.toNatClampNeg (some q14))))))), (q1_16, .inl (cB, 60, .inl (fun _ => 0))), (q2_17, .inl (cB, 400, .inl (fun _ => 0))), (h0, .inr (7, [.ref im, .ref pr, .ref ra, .int v18, .int vw, .int wr])), (im, .inr (1, [.ref iq, .int L])), (iq, .inl (cB, n, .inl f)), (q14, .inr (2, [.ref q1_16, .ref q2_17, .int x, .int y, .int s2_27, .int r22, .int r24, .int 0, .int 0, .int 0, .int 0, .int 0, .int r19]))]) (cx := [(ra, .inl (cF, 99, .inr (.inr (.inr (.inr (va_up (rowF fa md) cn.toNatClampNeg (some q14))))))), (h0, .inr (7, [.ref im, .ref pr, .ref ra, .int v18, .int vw, .int wr])), (im, .inr (1, [.ref iq, .int L])), (iq, .inl (cB, n, .inl f)), (q14, .inr (2, [.ref q1_16, .ref q2_17, .int x, .int y, .int s2_27, .int r22, .int r24, .int 0, .int 0, .int 0, .int 0, .int 0, .int r19])), (q1_16, .inl (cB, 60, .inl (fun _ => 0))), (q2_17, .inl (cB, 400, .inl (fun _ => 0)))]) [0, 3, 4, 5, 6, 1, 2] rfl
    have hD := hD.part (X := [(ra, .inl (cF, 99, .inr (.inr (.inr (.inr (va_up (rowF fa md) cn.toNatClampNeg (some q14))))))), (q1_16, .inl (cB, 60, .inl (fun _ => 0))), (q2_17, .inl (cB, 400, .inl (fun _ => 0))), (h0, .inr (7, [.ref im, .ref pr, .ref ra, .int v18, .int vw, .int wr])), (im, .inr (1, [.ref iq, .int L])), (iq, .inl (cB, n, .inl f)), (q14, .inr (2, [.ref q1_16, .ref q2_17, .int x, .int y, .int s2_27, .int r22, .int r24, .int 0, .int 0, .int 0, .int 0, .int 0, .int r19]))]) (cx := [(ra, .inl (cF, 99, .inr (.inr (.inr (.inr (va_up (rowF fa md) cn.toNatClampNeg (some q14))))))), (h0, .inr (7, [.ref im, .ref pr, .ref ra, .int v18, .int vw, .int wr])), (im, .inr (1, [.ref iq, .int L])), (iq, .inl (cB, n, .inl f)), (q14, .inr (2, [.ref q1_16, .ref q2_17, .int x, .int y, .int s2_27, .int r22, .int r24, .int 0, .int 0, .int 0, .int 0, .int 0, .int r19])), (q1_16, .inl (cB, 60, .inl (fun _ => 0))), (q2_17, .inl (cB, 400, .inl (fun _ => 0)))]) [0, 3, 4, 5, 6, 1, 2] (by decide +kernel) rfl
    obtain ⟨fa5, e_fa5⟩ : ∃ z : Nat → Nat → Nat, z = upK fa md (ad3 q14 q1_16 q2_17) := ⟨_, rfl⟩
    obtain ⟨ga5, e_ga5⟩ : ∃ z : Nat → Nat → Int32, z = upK ga md (v11 x y s2_27 r22 r24 0 0 0 0 0 r19) := ⟨_, rfl⟩
    obtain ⟨cf5, e_cf5⟩ : ∃ z : Nat → Nat → Nat → Int32, z = upK cf md (c12 (fun _ => 0) (fun _ => 0)) := ⟨_, rfl⟩
    have hrw : va_up (rowF fa md) cn.toNatClampNeg (some q14) = rowF fa5 (md + 1) := rowF_push (by omega) (by rw [e_fa5, upK_at]) (by rw [e_fa5, upK_at]; rfl)
    have hP : va_P D CL ((([(ra, .inl (cF, 99, .inr (.inr (.inr (.inr (rowF fa5 (md + 1))))))), (h0, .inr (7, [.ref im, .ref pr, .ref ra, .int v18, .int vw, .int wr])), (im, .inr (1, [.ref iq, .int L])), (iq, .inl (cB, n, .inl f))] : va_W) ++ FC cB fa5 ga5 cf5 md) ++ PL (FC cB fa ga cf) md) H := by rw [show FC cB fa5 ga5 cf5 md = [(q14, .inr (2, [.ref q1_16, .ref q2_17, .int x, .int y, .int s2_27, .int r22, .int r24, .int 0, .int 0, .int 0, .int 0, .int 0, .int r19])), (q1_16, .inl (cB, 60, .inl (fun _ => 0))), (q2_17, .inl (cB, 400, .inl (fun _ => 0)))] from by unfold FC; rw [e_fa5, e_ga5, e_cf5, upK_at, upK_at, upK_at]; rfl, ← hrw]; exact hP
    have hD : va_D A ((([(ra, .inl (cF, 99, .inr (.inr (.inr (.inr (rowF fa5 (md + 1))))))), (h0, .inr (7, [.ref im, .ref pr, .ref ra, .int v18, .int vw, .int wr])), (im, .inr (1, [.ref iq, .int L])), (iq, .inl (cB, n, .inl f))] : va_W) ++ FC cB fa5 ga5 cf5 md) ++ PL (FC cB fa ga cf) md) := by rw [show FC cB fa5 ga5 cf5 md = [(q14, .inr (2, [.ref q1_16, .ref q2_17, .int x, .int y, .int s2_27, .int r22, .int r24, .int 0, .int 0, .int 0, .int 0, .int 0, .int r19])), (q1_16, .inl (cB, 60, .inl (fun _ => 0))), (q2_17, .inl (cB, 400, .inl (fun _ => 0)))] from by unfold FC; rw [e_fa5, e_ga5, e_cf5, upK_at, upK_at, upK_at]; rfl, ← hrw]; exact hD
    obtain ⟨hP, hD⟩ := pl_push (X := [(ra, .inl (cF, 99, .inr (.inr (.inr (.inr (rowF fa5 (md + 1))))))), (h0, .inr (7, [.ref im, .ref pr, .ref ra, .int v18, .int vw, .int wr])), (im, .inr (1, [.ref iq, .int L])), (iq, .inl (cB, n, .inl f))]) (C := FC cB fa ga cf) (C' := FC cB fa5 ga5 cf5) (m := md) hP hD (fun j hj => FC_off e_fa5 e_ga5 e_cf5 (by omega))
    have hP : va_P D CL (([(ra, .inl (cF, 99, .inr (.inr (.inr (.inr (rowF fa5 (md + 1))))))), (h0, .inr (7, [.ref im, .ref pr, .ref ra, .int v18, .int vw, .int wr])), (im, .inr (1, [.ref iq, .int L])), (iq, .inl (cB, n, .inl f))] : va_W) ++ (PL (FC cB fa5 ga5 cf5) (md + 1))) H := hP
    have hD : va_D A (([(ra, .inl (cF, 99, .inr (.inr (.inr (.inr (rowF fa5 (md + 1))))))), (h0, .inr (7, [.ref im, .ref pr, .ref ra, .int v18, .int vw, .int wr])), (im, .inr (1, [.ref iq, .int L])), (iq, .inl (cB, n, .inl f))] : va_W) ++ (PL (FC cB fa5 ga5 cf5) (md + 1))) := hD
    have hT0 : tot s.heap = T0 := hZq
    refine zz_know (fun hk9 hn9 => ?_)
    have hP9 := hP.part (X := [(ra, .inl (cF, 99, .inr (.inr (.inr (.inr (rowF fa5 (md + 1))))))), (h0, .inr (7, [.ref im, .ref pr, .ref ra, .int v18, .int vw, .int wr])), (im, .inr (1, [.ref iq, .int L])), (iq, .inl (cB, n, .inl f))]) (cx := [(h0, .inr (7, [.ref im, .ref pr, .ref ra, .int v18, .int vw, .int wr])), (ra, .inl (cF, 99, .inr (.inr (.inr (.inr (rowF fa5 (md + 1))))))), (im, .inr (1, [.ref iq, .int L])), (iq, .inl (cB, n, .inl f))]) [1, 0, 2, 3] rfl
    have hD9 := hD.part (X := [(ra, .inl (cF, 99, .inr (.inr (.inr (.inr (rowF fa5 (md + 1))))))), (h0, .inr (7, [.ref im, .ref pr, .ref ra, .int v18, .int vw, .int wr])), (im, .inr (1, [.ref iq, .int L])), (iq, .inl (cB, n, .inl f))]) (cx := [(h0, .inr (7, [.ref im, .ref pr, .ref ra, .int v18, .int vw, .int wr])), (ra, .inl (cF, 99, .inr (.inr (.inr (.inr (rowF fa5 (md + 1))))))), (im, .inr (1, [.ref iq, .int L])), (iq, .inl (cB, n, .inl f))]) [1, 0, 2, 3] (by decide +kernel) rfl
    exact W.vret hx hb hr (fun t ht hW => ⟨⟨(v18, fa5, ga5, cf5, (md + 1)), rfl, ⟨(by (try dsimp only); first | assumption | omega | trivial), (by (try dsimp only); rw [e_ga5]; refine ROK_push (k := md) hrok rfl (by omega) (by omega) ⟨?_, ?_, ?_⟩ <;> (try simp only [v11_2, v11_3, v11_4, v11_8, v11_9]) <;> omega), (by (try dsimp only); rw [e_ga5, show cn.toNatClampNeg = md by omega, upK_at]; simp only [v11_8, v11_9]; omega)⟩, ⟨by rw [ht]; omega, by rw [ht]; omega⟩, by rw [ht]; exact hP9, hD9⟩, hS.F ht⟩) hS.2.2 d_Reader_addRow_71

theorem d_Reader_isTaken_0 : decode b_Reader_isTaken 0 = .ok (.iconst 0, 1) := by decide +kernel
theorem d_Reader_isTaken_1 : decode b_Reader_isTaken 1 = .ok (.istore_n 2, 1) := by decide +kernel
theorem d_Reader_isTaken_2 : decode b_Reader_isTaken 2 = .ok (.iload_n 2, 1) := by decide +kernel
theorem d_Reader_isTaken_3 : decode b_Reader_isTaken 3 = .ok (.aload_n 0, 1) := by decide +kernel
theorem d_Reader_isTaken_4 : decode b_Reader_isTaken 4 = .ok (.getfield 30, 3) := by decide +kernel
theorem d_Reader_isTaken_7 : decode b_Reader_isTaken 7 = .ok (.if_icmp .ge 36, 3) := by decide +kernel
theorem d_Reader_isTaken_10 : decode b_Reader_isTaken 10 = .ok (.aload_n 0, 1) := by decide +kernel
theorem d_Reader_isTaken_11 : decode b_Reader_isTaken 11 = .ok (.getfield 11, 3) := by decide +kernel
theorem d_Reader_isTaken_14 : decode b_Reader_isTaken 14 = .ok (.iload_n 2, 1) := by decide +kernel
theorem d_Reader_isTaken_15 : decode b_Reader_isTaken 15 = .ok (.aaload, 1) := by decide +kernel
theorem d_Reader_isTaken_16 : decode b_Reader_isTaken 16 = .ok (.getfield 130, 3) := by decide +kernel
theorem d_Reader_isTaken_19 : decode b_Reader_isTaken 19 = .ok (.ifCond .eq 18, 3) := by decide +kernel
theorem d_Reader_isTaken_22 : decode b_Reader_isTaken 22 = .ok (.aload_n 0, 1) := by decide +kernel
theorem d_Reader_isTaken_23 : decode b_Reader_isTaken 23 = .ok (.getfield 11, 3) := by decide +kernel
theorem d_Reader_isTaken_26 : decode b_Reader_isTaken 26 = .ok (.iload_n 2, 1) := by decide +kernel
theorem d_Reader_isTaken_27 : decode b_Reader_isTaken 27 = .ok (.aaload, 1) := by decide +kernel
theorem d_Reader_isTaken_28 : decode b_Reader_isTaken 28 = .ok (.getfield 96, 3) := by decide +kernel
theorem d_Reader_isTaken_31 : decode b_Reader_isTaken 31 = .ok (.iload_n 1, 1) := by decide +kernel
theorem d_Reader_isTaken_32 : decode b_Reader_isTaken 32 = .ok (.if_icmp .ne 5, 3) := by decide +kernel
theorem d_Reader_isTaken_35 : decode b_Reader_isTaken 35 = .ok (.iconst 1, 1) := by decide +kernel
theorem d_Reader_isTaken_36 : decode b_Reader_isTaken 36 = .ok (.ireturn, 1) := by decide +kernel
theorem d_Reader_isTaken_37 : decode b_Reader_isTaken 37 = .ok (.iinc 2 1, 3) := by decide +kernel
theorem d_Reader_isTaken_40 : decode b_Reader_isTaken 40 = .ok (.goto (-38), 3) := by decide +kernel
theorem d_Reader_isTaken_43 : decode b_Reader_isTaken 43 = .ok (.iconst 0, 1) := by decide +kernel
theorem d_Reader_isTaken_44 : decode b_Reader_isTaken 44 = .ok (.ireturn, 1) := by decide +kernel
set_option maxHeartbeats 4000000 in
set_option maxRecDepth 100000 in
theorem c3_Reader_isTaken (l : Launch) (D : va_G) (cB cI cJ cZ cN cF : ClassId) (sz : Nat) (h0 : Nat) (pr : Nat) (ra : Nat) (im : Nat) (cn : Int32) (vw : Int32) (wr : Int32) (fa : Nat → Nat → Nat) (ga : Nat → Nat → Int32) (cf : Nat → Nat → Nat → Int32) (md : Nat) (x : Int32) (hcn : 0 ≤ cn.toInt ∧ cn.toInt ≤ md) (hmd : md ≤ 99) : Met l y_Reader_isTaken w_Reader_isTaken ({ frames := 0, cells := 0, slots := 0, locals := 0 }) (va_Pc [.ref h0, .int x] (fun U => U.heap.size = sz ∧ va_P D CL (([(h0, .inr (7, [.ref im, .ref pr, .ref ra, .int cn, .int vw, .int wr])), (ra, .inl (cF, 99, .inr (.inr (.inr (.inr (rowF fa md))))))] : va_W) ++ (PL (FC cB fa ga cf) md)) U.heap ∧ va_K D CL (TY cB cI cJ cZ cN cF) U ∧ NN U ∧ va_D (fun _ => True) (([(h0, .inr (7, [.ref im, .ref pr, .ref ra, .int cn, .int vw, .int wr])), (ra, .inl (cF, 99, .inr (.inr (.inr (.inr (rowF fa md))))))] : va_W) ++ (PL (FC cB fa ga cf) md)))) (va_Qi (fun (r : Int32) (u : Unit) => (0 ≤ r.toInt ∧ r.toInt ≤ 1)) (fun (u : Unit) (t : State) => match u with | () => va_P D CL (([(h0, .inr (7, [.ref im, .ref pr, .ref ra, .int cn, .int vw, .int wr])), (ra, .inl (cF, 99, .inr (.inr (.inr (.inr (rowF fa md))))))] : va_W) ++ (PL (FC cB fa ga cf) md)) t.heap ∧ va_D (va_A (([(h0, .inr (7, [.ref im, .ref pr, .ref ra, .int cn, .int vw, .int wr])), (ra, .inl (cF, 99, .inr (.inr (.inr (.inr (rowF fa md))))))] : va_W) ++ (PL (FC cB fa ga cf) md)) sz) (([(h0, .inr (7, [.ref im, .ref pr, .ref ra, .int cn, .int vw, .int wr])), (ra, .inl (cF, 99, .inr (.inr (.inr (.inr (rowF fa md))))))] : va_W) ++ (PL (FC cB fa ga cf) md))) (va_A (([(h0, .inr (7, [.ref im, .ref pr, .ref ra, .int cn, .int vw, .int wr])), (ra, .inl (cF, 99, .inr (.inr (.inr (.inr (rowF fa md))))))] : va_W) ++ (PL (FC cB fa ga cf) md)) sz)) 0 0 (va_A (([(h0, .inr (7, [.ref im, .ref pr, .ref ra, .int cn, .int vw, .int wr])), (ra, .inl (cF, 99, .inr (.inr (.inr (.inr (rowF fa md))))))] : va_W) ++ (PL (FC cB fa ga cf) md)) sz) := by
  refine Met.ofW (cc := b_Reader_isTaken) (maxL := 3) (ret := some .boolean) (by decide +kernel) rfl ?_
  intro p e s m args below meth c s₁ B hml hv
  obtain ⟨rfl, hsz, hP, hK, hN, hD0⟩ := hv
  have hx := B.exec
  have hb := B.bytes
  have hr := B.returns
  have hts := atoms_spec (ws := w_Reader_isTaken) B.pre
  have ht9 := fun (w : Cond) (h : w ∈ lw_g) => hts w (List.mem_cons_of_mem _ h)
  have hown : s.vm.findClass "DiscMaker$Reader" = some m.cls := findClass_of_methodNamed B.named
  have hlocks := B.notSynchronized
  subst hsz
  have hD := hD0.self (sz := s.heap.size)
  generalize hAe : va_A (([(h0, .inr (7, [.ref im, .ref pr, .ref ra, .int cn, .int vw, .int wr])), (ra, .inl (cF, 99, .inr (.inr (.inr (.inr (rowF fa md))))))] : va_W) ++ (PL (FC cB fa ga cf) md)) s.heap.size = A at hD ⊢
  have hA : ∀ q : Nat, s.heap.size ≤ q → A q := fun q h => by rw [← hAe]; exact Or.inr h
  have hS : va_S A s.heap s.heap [] := va_S.rf
  have hP : va_P D CL (([(h0, .inr (7, [.ref im, .ref pr, .ref ra, .int cn, .int vw, .int wr])), (ra, .inl (cF, 99, .inr (.inr (.inr (.inr (rowF fa md))))))] : va_W) ++ (PL (FC cB fa ga cf) md)) s.heap := hP
  have hl := lv_entry [.ref h0, .int x] (n := 3) (Nat.le_of_ble_eq_true rfl)
  rw [lg_entry_eq]
  generalize (lg_sl [.ref h0, .int x] ++ List.replicate (3 - (lg_sl [.ref h0, .int x]).length) Slot.unset).toArray = ls at hl ⊢
  have hl : lv_has ls 3 [(0, .ref h0), (1, .int x)] := hl
  have L_m1 : ((-1) : Int32).toInt = (-1) := by decide
  have L_0 : (0 : Int32).toInt = 0 := by decide
  have L_1 : (1 : Int32).toInt = 1 := by decide
  refine lv_iconst (v := 0) hx hb d_Reader_isTaken_0 (by decide) ?_
  refine lv_istore_n hx hb d_Reader_isTaken_1 rfl hl (by decide) rfl (fun ls hl => ?_)
  have hl : lv_has ls 3 [(2, .int 0), (0, .ref h0), (1, .int x)] := hl
  refine zz_labM (B := fun (lk : Nat) (K : Heap → List Loc → Array Slot → List Value → Prop) => ∀ (kx : Int32) (H : Heap) (locs : List Loc) (ls : Array Slot), lk = (cn.toInt - kx.toInt).toNat → (0 ≤ kx.toInt ∧ kx.toInt ≤ cn.toInt) → va_P D CL (([(h0, .inr (7, [.ref im, .ref pr, .ref ra, .int cn, .int vw, .int wr])), (ra, .inl (cF, 99, .inr (.inr (.inr (.inr (rowF fa md))))))] : va_W) ++ (PL (FC cB fa ga cf) md)) H → va_D A (([(h0, .inr (7, [.ref im, .ref pr, .ref ra, .int cn, .int vw, .int wr])), (ra, .inl (cF, 99, .inr (.inr (.inr (.inr (rowF fa md))))))] : va_W) ++ (PL (FC cB fa ga cf) md)) → va_S A s.heap H locs → lv_has ls 3 [(0, .ref h0), (1, .int x), (2, .int kx)] → K H locs ls []) 2 ?_ ?_
  · skip
    intro lk ih2 kx H locs ls hm2 e1 hP hD hS hl
    refine lv_iload_n hx hb d_Reader_isTaken_2 rfl (lv_at hl 2 rfl) ?_
    refine lv_aload_n hx hb d_Reader_isTaken_3 rfl (lv_at hl 0 rfl) ?_
    refine va_get (D := D) (ci := 7) (v := .int cn) (C := "DiscMaker$Reader") (T := F_Reader) (N := 6) hx hb ht9 in_Reader hown hK hP 0 rfl rfl 3 (by decide) (ht9 _ k415) (fun _ h9 => h9) rfl d_Reader_isTaken_4 ?_
    refine lv_icmp_ge (tgt := 43) hx hb d_Reader_isTaken_7 (by decide) (fun h_9 => ?_) (fun h_9 => ?_)
    · skip
      have g7_6 : cn.toInt ≤ kx.toInt := (i_le rfl rfl).mp h_9
      refine lv_iconst (v := 0) hx hb d_Reader_isTaken_43 (by decide) ?_
      have hP9 := hP.part (X := [(h0, .inr (7, [.ref im, .ref pr, .ref ra, .int cn, .int vw, .int wr])), (ra, .inl (cF, 99, .inr (.inr (.inr (.inr (rowF fa md))))))]) (cx := [(h0, .inr (7, [.ref im, .ref pr, .ref ra, .int cn, .int vw, .int wr])), (ra, .inl (cF, 99, .inr (.inr (.inr (.inr (rowF fa md))))))]) [0, 1] rfl
      have hD9 := hD.part (X := [(h0, .inr (7, [.ref im, .ref pr, .ref ra, .int cn, .int vw, .int wr])), (ra, .inl (cF, 99, .inr (.inr (.inr (.inr (rowF fa md))))))]) (cx := [(h0, .inr (7, [.ref im, .ref pr, .ref ra, .int cn, .int vw, .int wr])), (ra, .inl (cF, 99, .inr (.inr (.inr (.inr (rowF fa md))))))]) [0, 1] (by decide +kernel) rfl
      exact W.zret (v := 0) hx hb hr (by first | rfl | decide | exact i_narZ (by omega)) (fun t ht hW => ⟨⟨0, (), rfl, (by (try dsimp only); first | assumption | omega | trivial), by rw [ht]; exact hP9, hD9⟩, hS.F ht⟩) hS.2.2 d_Reader_isTaken_44
    · skip
      have g7_6 : ¬ cn.toInt ≤ kx.toInt := fun h8 => h_9 ((i_le rfl rfl).mpr h8)
      refine lv_aload_n hx hb d_Reader_isTaken_10 rfl (lv_at hl 0 rfl) ?_
      refine va_get (D := D) (ci := 7) (v := .ref ra) (C := "DiscMaker$Reader") (T := F_Reader) (N := 6) hx hb ht9 in_Reader hown hK hP 0 rfl rfl 2 (by decide) (ht9 _ k414) (fun _ h9 => h9) rfl d_Reader_isTaken_11 ?_
      refine lv_iload_n hx hb d_Reader_isTaken_14 rfl (lv_at hl 2 rfl) ?_
      refine va_aldq hx hb hK hP 1 5 rfl rfl (vp_in_iff.mpr ⟨by omega, by omega⟩) d_Reader_isTaken_15 ?_
      have hk1 : kx.toNatClampNeg < md := by have := i_cl (a := kx) (by omega); omega
      obtain ⟨i_hj2, hj2⟩ : ∃ j : Nat, (PL (FC cB fa ga cf) md)[j]? = some ((fa kx.toNatClampNeg 0), .inr (2, [.ref (fa kx.toNatClampNeg 1), .ref (fa kx.toNatClampNeg 2), .int (ga kx.toNatClampNeg 0), .int (ga kx.toNatClampNeg 1), .int (ga kx.toNatClampNeg 2), .int (ga kx.toNatClampNeg 3), .int (ga kx.toNatClampNeg 4), .int (ga kx.toNatClampNeg 5), .int (ga kx.toNatClampNeg 6), .int (ga kx.toNatClampNeg 7), .int (ga kx.toNatClampNeg 8), .int (ga kx.toNatClampNeg 9), .int (ga kx.toNatClampNeg 10)])) := PL_get (i := 0) hk1 rfl
      refine W.eq (g2 := F0 m 16 ls [.ref (fa kx.toNatClampNeg 0)]) (by rw [show rowF fa md kx.toNatClampNeg = some (fa kx.toNatClampNeg 0) from rowF_some hk1]; rfl) ?_
      refine va_getN (D := D) (ci := 2) (v := .int (ga kx.toNatClampNeg 10)) (C := "DiscMaker$Found") (T := F_Found) (N := 13) hx hb ht9 in_Found hown hK hP _ (pix (X := [(h0, .inr (7, [.ref im, .ref pr, .ref ra, .int cn, .int vw, .int wr])), (ra, .inl (cF, 99, .inr (.inr (.inr (.inr (rowF fa md))))))]) hj2) rfl 12 (by decide) (va_Nw.use rfl (hN _ k1252)) (fun _ h9 => h9) rfl d_Reader_isTaken_16 ?_
      refine lv_if_eq (tgt := 37) hx hb d_Reader_isTaken_19 (by decide) (fun h_9 => ?_) (fun h_9 => ?_)
      · skip
        have g19_14 : (ga kx.toNatClampNeg 10).toInt = 0 := (i_eq rfl (by decide)).mp h_9
        obtain ⟨v3, e_v3⟩ : ∃ z : Int32, z = kx + 1 := ⟨_, rfl⟩
        refine lv_iinc (v := v3) hx hb d_Reader_isTaken_37 hl (k := 2) rfl e_v3.symm (by decide +kernel) rfl (fun ls hl => ?_)
        have t_v3 : v3.toInt = kx.toInt + 1 := by rw [e_v3]; exact i_add rfl (by decide) (by omega) (by omega)
        have hl : lv_has ls 3 [(2, .int v3), (0, .ref h0), (1, .int x)] := hl
        refine lv_goto (tgt := 2) hx hb d_Reader_isTaken_40 (by decide) ?_
        have hP := hP.part (X := [(h0, .inr (7, [.ref im, .ref pr, .ref ra, .int cn, .int vw, .int wr])), (ra, .inl (cF, 99, .inr (.inr (.inr (.inr (rowF fa md))))))]) (cx := [(h0, .inr (7, [.ref im, .ref pr, .ref ra, .int cn, .int vw, .int wr])), (ra, .inl (cF, 99, .inr (.inr (.inr (.inr (rowF fa md))))))]) [0, 1] rfl
        have hD := hD.part (X := [(h0, .inr (7, [.ref im, .ref pr, .ref ra, .int cn, .int vw, .int wr])), (ra, .inl (cF, 99, .inr (.inr (.inr (.inr (rowF fa md))))))]) (cx := [(h0, .inr (7, [.ref im, .ref pr, .ref ra, .int cn, .int vw, .int wr])), (ra, .inl (cF, 99, .inr (.inr (.inr (.inr (rowF fa md))))))]) [0, 1] (by decide +kernel) rfl
        have hl := lv_sub hl [1, 2, 0] rfl
        exact ih2 _ (by first | omega | (dsimp only; omega)) v3 _ _ _ rfl ((by (try dsimp only); first | assumption | omega | trivial)) hP hD hS hl
      · skip
        have g19_14 : ¬ (ga kx.toNatClampNeg 10).toInt = 0 := fun h8 => h_9 ((i_eq rfl (by decide)).mpr h8)
        refine lv_aload_n hx hb d_Reader_isTaken_22 rfl (lv_at hl 0 rfl) ?_
        refine va_get (D := D) (ci := 7) (v := .ref ra) (C := "DiscMaker$Reader") (T := F_Reader) (N := 6) hx hb ht9 in_Reader hown hK hP 0 rfl rfl 2 (by decide) (ht9 _ k414) (fun _ h9 => h9) rfl d_Reader_isTaken_23 ?_
        refine lv_iload_n hx hb d_Reader_isTaken_26 rfl (lv_at hl 2 rfl) ?_
        refine va_aldq hx hb hK hP 1 5 rfl rfl (vp_in_iff.mpr ⟨by omega, by omega⟩) d_Reader_isTaken_27 ?_
        have hk4 : kx.toNatClampNeg < md := by have := i_cl (a := kx) (by omega); omega
        obtain ⟨i_hj5, hj5⟩ : ∃ j : Nat, (PL (FC cB fa ga cf) md)[j]? = some ((fa kx.toNatClampNeg 0), .inr (2, [.ref (fa kx.toNatClampNeg 1), .ref (fa kx.toNatClampNeg 2), .int (ga kx.toNatClampNeg 0), .int (ga kx.toNatClampNeg 1), .int (ga kx.toNatClampNeg 2), .int (ga kx.toNatClampNeg 3), .int (ga kx.toNatClampNeg 4), .int (ga kx.toNatClampNeg 5), .int (ga kx.toNatClampNeg 6), .int (ga kx.toNatClampNeg 7), .int (ga kx.toNatClampNeg 8), .int (ga kx.toNatClampNeg 9), .int (ga kx.toNatClampNeg 10)])) := PL_get (i := 0) hk4 rfl
        refine W.eq (g2 := F0 m 28 ls [.ref (fa kx.toNatClampNeg 0)]) (by rw [show rowF fa md kx.toNatClampNeg = some (fa kx.toNatClampNeg 0) from rowF_some hk4]; rfl) ?_
        refine va_getN (D := D) (ci := 2) (v := .int (ga kx.toNatClampNeg 4)) (C := "DiscMaker$Found") (T := F_Found) (N := 13) hx hb ht9 in_Found hown hK hP _ (pix (X := [(h0, .inr (7, [.ref im, .ref pr, .ref ra, .int cn, .int vw, .int wr])), (ra, .inl (cF, 99, .inr (.inr (.inr (.inr (rowF fa md))))))]) hj5) rfl 6 (by decide) (va_Nw.use rfl (hN _ k1238)) (fun _ h9 => h9) rfl d_Reader_isTaken_28 ?_
        refine lv_iload_n hx hb d_Reader_isTaken_31 rfl (lv_at hl 1 rfl) ?_
        refine lv_icmp_ne (tgt := 37) hx hb d_Reader_isTaken_32 (by decide) (fun h_9 => ?_) (fun h_9 => ?_)
        · skip
          have g32_24 : ¬ (ga kx.toNatClampNeg 4).toInt = x.toInt := fun h8 => h_9 ((i_eq rfl rfl).mpr h8)
          obtain ⟨v6, e_v6⟩ : ∃ z : Int32, z = kx + 1 := ⟨_, rfl⟩
          refine lv_iinc (v := v6) hx hb d_Reader_isTaken_37 hl (k := 2) rfl e_v6.symm (by decide +kernel) rfl (fun ls hl => ?_)
          have t_v6 : v6.toInt = kx.toInt + 1 := by rw [e_v6]; exact i_add rfl (by decide) (by omega) (by omega)
          have hl : lv_has ls 3 [(2, .int v6), (0, .ref h0), (1, .int x)] := hl
          refine lv_goto (tgt := 2) hx hb d_Reader_isTaken_40 (by decide) ?_
          have hP := hP.part (X := [(h0, .inr (7, [.ref im, .ref pr, .ref ra, .int cn, .int vw, .int wr])), (ra, .inl (cF, 99, .inr (.inr (.inr (.inr (rowF fa md))))))]) (cx := [(h0, .inr (7, [.ref im, .ref pr, .ref ra, .int cn, .int vw, .int wr])), (ra, .inl (cF, 99, .inr (.inr (.inr (.inr (rowF fa md))))))]) [0, 1] rfl
          have hD := hD.part (X := [(h0, .inr (7, [.ref im, .ref pr, .ref ra, .int cn, .int vw, .int wr])), (ra, .inl (cF, 99, .inr (.inr (.inr (.inr (rowF fa md))))))]) (cx := [(h0, .inr (7, [.ref im, .ref pr, .ref ra, .int cn, .int vw, .int wr])), (ra, .inl (cF, 99, .inr (.inr (.inr (.inr (rowF fa md))))))]) [0, 1] (by decide +kernel) rfl
          have hl := lv_sub hl [1, 2, 0] rfl
          exact ih2 _ (by first | omega | (dsimp only; omega)) v6 _ _ _ rfl ((by (try dsimp only); first | assumption | omega | trivial)) hP hD hS hl
        · skip
          have g32_24 : (ga kx.toNatClampNeg 4).toInt = x.toInt := (i_eq rfl rfl).mp h_9
          refine lv_iconst (v := 1) hx hb d_Reader_isTaken_35 (by decide) ?_
          have hP9 := hP.part (X := [(h0, .inr (7, [.ref im, .ref pr, .ref ra, .int cn, .int vw, .int wr])), (ra, .inl (cF, 99, .inr (.inr (.inr (.inr (rowF fa md))))))]) (cx := [(h0, .inr (7, [.ref im, .ref pr, .ref ra, .int cn, .int vw, .int wr])), (ra, .inl (cF, 99, .inr (.inr (.inr (.inr (rowF fa md))))))]) [0, 1] rfl
          have hD9 := hD.part (X := [(h0, .inr (7, [.ref im, .ref pr, .ref ra, .int cn, .int vw, .int wr])), (ra, .inl (cF, 99, .inr (.inr (.inr (.inr (rowF fa md))))))]) (cx := [(h0, .inr (7, [.ref im, .ref pr, .ref ra, .int cn, .int vw, .int wr])), (ra, .inl (cF, 99, .inr (.inr (.inr (.inr (rowF fa md))))))]) [0, 1] (by decide +kernel) rfl
          exact W.zret (v := 1) hx hb hr (by first | rfl | decide | exact i_narZ (by omega)) (fun t ht hW => ⟨⟨1, (), rfl, (by (try dsimp only); first | assumption | omega | trivial), by rw [ht]; exact hP9, hD9⟩, hS.F ht⟩) hS.2.2 d_Reader_isTaken_36
  · skip
    intro kk2
    have hP := hP.part (X := [(h0, .inr (7, [.ref im, .ref pr, .ref ra, .int cn, .int vw, .int wr])), (ra, .inl (cF, 99, .inr (.inr (.inr (.inr (rowF fa md))))))]) (cx := [(h0, .inr (7, [.ref im, .ref pr, .ref ra, .int cn, .int vw, .int wr])), (ra, .inl (cF, 99, .inr (.inr (.inr (.inr (rowF fa md))))))]) [0, 1] rfl
    have hD := hD.part (X := [(h0, .inr (7, [.ref im, .ref pr, .ref ra, .int cn, .int vw, .int wr])), (ra, .inl (cF, 99, .inr (.inr (.inr (.inr (rowF fa md))))))]) (cx := [(h0, .inr (7, [.ref im, .ref pr, .ref ra, .int cn, .int vw, .int wr])), (ra, .inl (cF, 99, .inr (.inr (.inr (.inr (rowF fa md))))))]) [0, 1] (by decide +kernel) rfl
    have hl := lv_sub hl [1, 2, 0] rfl
    exact kk2 _ 0 _ _ _ rfl ((by (try dsimp only); first | assumption | omega | trivial)) hP hD hS hl
