theorem d_DiscMaker_isWithin_0 : decode b_DiscMaker_isWithin 0 = .ok (.iload_n 0, 1) := by decide +kernel
theorem d_DiscMaker_isWithin_1 : decode b_DiscMaker_isWithin 1 = .ok (.ifCond .lt 12, 3) := by decide +kernel
theorem d_DiscMaker_isWithin_4 : decode b_DiscMaker_isWithin 4 = .ok (.iload_n 0, 1) := by decide +kernel
theorem d_DiscMaker_isWithin_5 : decode b_DiscMaker_isWithin 5 = .ok (.iload_n 1, 1) := by decide +kernel
theorem d_DiscMaker_isWithin_6 : decode b_DiscMaker_isWithin 6 = .ok (.if_icmp .gt 7, 3) := by decide +kernel
theorem d_DiscMaker_isWithin_9 : decode b_DiscMaker_isWithin 9 = .ok (.iconst 1, 1) := by decide +kernel
theorem d_DiscMaker_isWithin_10 : decode b_DiscMaker_isWithin 10 = .ok (.goto 4, 3) := by decide +kernel
theorem d_DiscMaker_isWithin_13 : decode b_DiscMaker_isWithin 13 = .ok (.iconst 0, 1) := by decide +kernel
theorem d_DiscMaker_isWithin_14 : decode b_DiscMaker_isWithin 14 = .ok (.ireturn, 1) := by decide +kernel
set_option maxHeartbeats 4000000 in
set_option maxRecDepth 100000 in
theorem c3_isWithin (l : Launch) (D : va_G) (cB cI cJ cZ cN cF : ClassId) (sz : Nat) (x : Int32) (y : Int32) : Met l y_DiscMaker_isWithin w_DiscMaker_isWithin ({ frames := 0, cells := 0, slots := 0, locals := 0 }) (va_Pc [.int x, .int y] (fun U => U.heap.size = sz ∧ va_P D CL [] U.heap ∧ va_K D CL (TY cB cI cJ cZ cN cF) U ∧ NN U ∧ va_D (fun _ => True) [])) (va_Qi (fun (r : Int32) (u : Unit) => (0 ≤ r.toInt ∧ r.toInt ≤ 1) ∧ (r.toInt ≠ 0 → 0 ≤ x.toInt ∧ x.toInt ≤ y.toInt) ∧ (BoolIs r (0 ≤ x.toInt ∧ x.toInt ≤ y.toInt))) (fun (u : Unit) (t : State) => match u with | () => va_P D CL [] t.heap ∧ va_D (va_A [] sz) []) (va_A [] sz)) 0 0 (va_A [] sz) := by
  refine Met.ofW (cc := b_DiscMaker_isWithin) (maxL := 2) (ret := some .boolean) (by decide +kernel) rfl ?_
  intro p e s m args below meth c s₁ B hml hv
  obtain ⟨rfl, hsz, hP, hK, hN, hD0⟩ := hv
  have hx := B.exec
  have hb := B.bytes
  have hr := B.returns
  have hts := atoms_spec (ws := w_DiscMaker_isWithin) B.pre
  have ht9 := fun (w : Cond) (h : w ∈ lw_g) => hts w (List.mem_cons_of_mem _ h)
  have hown : s.vm.findClass "DiscMaker" = some m.cls := findClass_of_methodNamed B.named
  have hlocks := B.notSynchronized
  subst hsz
  have hD := hD0.self (sz := s.heap.size)
  generalize hAe : va_A [] s.heap.size = A at hD ⊢
  have hA : ∀ q : Nat, s.heap.size ≤ q → A q := fun q h => by rw [← hAe]; exact Or.inr h
  have hS : va_S A s.heap s.heap [] := va_S.rf
  have hP : va_P D CL [] s.heap := hP
  have hl := lv_entry [.int x, .int y] (n := 2) (Nat.le_of_ble_eq_true rfl)
  rw [lg_entry_eq]
  generalize (lg_sl [.int x, .int y] ++ List.replicate (2 - (lg_sl [.int x, .int y]).length) Slot.unset).toArray = ls at hl ⊢
  have hl : lv_has ls 2 [(0, .int x), (1, .int y)] := hl
  have L_m1 : ((-1) : Int32).toInt = (-1) := by decide
  have L_0 : (0 : Int32).toInt = 0 := by decide
  have L_1 : (1 : Int32).toInt = 1 := by decide
  refine lv_iload_n hx hb d_DiscMaker_isWithin_0 rfl (lv_at hl 0 rfl) ?_
  refine lv_if_lt (tgt := 13) hx hb d_DiscMaker_isWithin_1 (by decide) (fun h_9 => ?_) (fun h_9 => ?_)
  · skip
    have g1_2 : x.toInt < 0 := (i_lt rfl (by decide)).mp h_9
    refine lv_iconst (v := 0) hx hb d_DiscMaker_isWithin_13 (by decide) ?_
    have hP9 := hP.sub (ws' := []) [] rfl
    have hD9 := hD.sub (ws' := []) [] (by decide +kernel) rfl
    exact W.zret (v := 0) hx hb hr (by first | rfl | decide | exact i_narZ (by omega)) (fun t ht hW => ⟨⟨0, (), rfl, ⟨(by (try dsimp only); first | assumption | omega | trivial), (by (try dsimp only); intro h7; first | (exfalso; omega) | omega | assumption), (by (try dsimp only); unfold BoolIs; omega)⟩, by rw [ht]; exact hP9, hD9⟩, hS.F ht⟩) hS.2.2 d_DiscMaker_isWithin_14
  · skip
    have g1_2 : ¬ x.toInt < 0 := fun h8 => h_9 ((i_lt rfl (by decide)).mpr h8)
    refine lv_iload_n hx hb d_DiscMaker_isWithin_4 rfl (lv_at hl 0 rfl) ?_
    refine lv_iload_n hx hb d_DiscMaker_isWithin_5 rfl (lv_at hl 1 rfl) ?_
    refine lv_icmp_gt (tgt := 13) hx hb d_DiscMaker_isWithin_6 (by decide) (fun h_9 => ?_) (fun h_9 => ?_)
    · skip
      have g6_7 : y.toInt < x.toInt := (i_lt rfl rfl).mp h_9
      refine lv_iconst (v := 0) hx hb d_DiscMaker_isWithin_13 (by decide) ?_
      have hP9 := hP.sub (ws' := []) [] rfl
      have hD9 := hD.sub (ws' := []) [] (by decide +kernel) rfl
      exact W.zret (v := 0) hx hb hr (by first | rfl | decide | exact i_narZ (by omega)) (fun t ht hW => ⟨⟨0, (), rfl, ⟨(by (try dsimp only); first | assumption | omega | trivial), (by (try dsimp only); intro h7; first | (exfalso; omega) | omega | assumption), (by (try dsimp only); unfold BoolIs; omega)⟩, by rw [ht]; exact hP9, hD9⟩, hS.F ht⟩) hS.2.2 d_DiscMaker_isWithin_14
    · skip
      have g6_7 : ¬ y.toInt < x.toInt := fun h8 => h_9 ((i_lt rfl rfl).mpr h8)
      refine lv_iconst (v := 1) hx hb d_DiscMaker_isWithin_9 (by decide) ?_
      refine lv_goto (tgt := 14) hx hb d_DiscMaker_isWithin_10 (by decide) ?_
      have hP9 := hP.sub (ws' := []) [] rfl
      have hD9 := hD.sub (ws' := []) [] (by decide +kernel) rfl
      exact W.zret (v := 1) hx hb hr (by first | rfl | decide | exact i_narZ (by omega)) (fun t ht hW => ⟨⟨1, (), rfl, ⟨(by (try dsimp only); first | assumption | omega | trivial), (by (try dsimp only); intro h7; first | (exfalso; omega) | omega | assumption), (by (try dsimp only); unfold BoolIs; omega)⟩, by rw [ht]; exact hP9, hD9⟩, hS.F ht⟩) hS.2.2 d_DiscMaker_isWithin_14

theorem d_DiscMaker_isOwnership_0 : decode b_DiscMaker_isOwnership 0 = .ok (.iload_n 0, 1) := by decide +kernel
theorem d_DiscMaker_isOwnership_1 : decode b_DiscMaker_isOwnership 1 = .ok (.ldc 178, 2) := by decide +kernel
theorem d_DiscMaker_isOwnership_3 : decode b_DiscMaker_isOwnership 3 = .ok (.invokestatic 79, 3) := by decide +kernel
theorem d_DiscMaker_isOwnership_6 : decode b_DiscMaker_isOwnership 6 = .ok (.ifCond .eq 25, 3) := by decide +kernel
theorem d_DiscMaker_isOwnership_9 : decode b_DiscMaker_isOwnership 9 = .ok (.iload_n 1, 1) := by decide +kernel
theorem d_DiscMaker_isOwnership_10 : decode b_DiscMaker_isOwnership 10 = .ok (.ldc 178, 2) := by decide +kernel
theorem d_DiscMaker_isOwnership_12 : decode b_DiscMaker_isOwnership 12 = .ok (.invokestatic 79, 3) := by decide +kernel
theorem d_DiscMaker_isOwnership_15 : decode b_DiscMaker_isOwnership 15 = .ok (.ifCond .eq 16, 3) := by decide +kernel
theorem d_DiscMaker_isOwnership_18 : decode b_DiscMaker_isOwnership 18 = .ok (.iload_n 2, 1) := by decide +kernel
theorem d_DiscMaker_isOwnership_19 : decode b_DiscMaker_isOwnership 19 = .ok (.ldc 178, 2) := by decide +kernel
theorem d_DiscMaker_isOwnership_21 : decode b_DiscMaker_isOwnership 21 = .ok (.invokestatic 79, 3) := by decide +kernel
theorem d_DiscMaker_isOwnership_24 : decode b_DiscMaker_isOwnership 24 = .ok (.ifCond .eq 7, 3) := by decide +kernel
theorem d_DiscMaker_isOwnership_27 : decode b_DiscMaker_isOwnership 27 = .ok (.iconst 1, 1) := by decide +kernel
theorem d_DiscMaker_isOwnership_28 : decode b_DiscMaker_isOwnership 28 = .ok (.goto 4, 3) := by decide +kernel
theorem d_DiscMaker_isOwnership_31 : decode b_DiscMaker_isOwnership 31 = .ok (.iconst 0, 1) := by decide +kernel
theorem d_DiscMaker_isOwnership_32 : decode b_DiscMaker_isOwnership 32 = .ok (.ireturn, 1) := by decide +kernel
set_option maxHeartbeats 4000000 in
set_option maxRecDepth 100000 in
theorem c3_isOwnership (l : Launch) (D : va_G) (cB cI cJ cZ cN cF : ClassId) (sz : Nat) (x : Int32) (y : Int32) (z : Int32) : Met l y_DiscMaker_isOwnership w_DiscMaker_isOwnership ({ frames := 1, cells := 0, slots := 0, locals := 27 }) (va_Pc [.int x, .int y, .int z] (fun U => U.heap.size = sz ∧ va_P D CL [] U.heap ∧ va_K D CL (TY cB cI cJ cZ cN cF) U ∧ NN U ∧ va_D (fun _ => True) [])) (va_Qi (fun (r : Int32) (u : Unit) => (0 ≤ r.toInt ∧ r.toInt ≤ 1) ∧ (BoolIs r (OwnP x y z))) (fun (u : Unit) (t : State) => match u with | () => va_P D CL [] t.heap ∧ va_D (va_A [] sz) []) (va_A [] sz)) 0 0 (va_A [] sz) := by
  refine Met.ofW (cc := b_DiscMaker_isOwnership) (maxL := 3) (ret := some .boolean) (by decide +kernel) rfl ?_
  intro p e s m args below meth c s₁ B hml hv
  obtain ⟨rfl, hsz, hP, hK, hN, hD0⟩ := hv
  have hx := B.exec
  have hb := B.bytes
  have hr := B.returns
  have hts := atoms_spec (ws := w_DiscMaker_isOwnership) B.pre
  have ht9 := fun (w : Cond) (h : w ∈ lw_g) => hts w (List.mem_cons_of_mem _ h)
  have hown : s.vm.findClass "DiscMaker" = some m.cls := findClass_of_methodNamed B.named
  have hlocks := B.notSynchronized
  subst hsz
  have hD := hD0.self (sz := s.heap.size)
  generalize hAe : va_A [] s.heap.size = A at hD ⊢
  have hA : ∀ q : Nat, s.heap.size ≤ q → A q := fun q h => by rw [← hAe]; exact Or.inr h
  have hS : va_S A s.heap s.heap [] := va_S.rf
  have hP : va_P D CL [] s.heap := hP
  have hl := lv_entry [.int x, .int y, .int z] (n := 3) (Nat.le_of_ble_eq_true rfl)
  rw [lg_entry_eq]
  generalize (lg_sl [.int x, .int y, .int z] ++ List.replicate (3 - (lg_sl [.int x, .int y, .int z]).length) Slot.unset).toArray = ls at hl ⊢
  have hl : lv_has ls 3 [(0, .int x), (1, .int y), (2, .int z)] := hl
  have L_m1 : ((-1) : Int32).toInt = (-1) := by decide
  have L_0 : (0 : Int32).toInt = 0 := by decide
  have L_1 : (1 : Int32).toInt = 1 := by decide
  have L_1000000 : (1000000 : Int32).toInt = 1000000 := by decide
  refine lv_iload_n hx hb d_DiscMaker_isOwnership_0 rfl (lv_at hl 0 rfl) ?_
  refine lv_ldc (v := 1000000) hx hb hown (ht9 _ k478) d_DiscMaker_isOwnership_1 ?_
  have hPc := hP.sub (ws' := []) [] rfl
  have hDc := hD.sub (ws' := []) [] (by decide +kernel) rfl
  have hFc := va_free (wc := []) hD hS hA [] rfl
  have hkc : 0 ≤ 0 := by decide
  have hks : 0 ≤ 0 := by decide
  refine va_calli (va_runS (As := [.int x, .int 1000000]) (rest := []) ⟨hx, hb, hml, hown, hts⟩ (c3_isWithin l D cB cI cJ cZ cN cF s.heap.size x 1000000) (cwS 2 hts (lg_goodS k479 k480 k115 kc_DiscMaker_isWithin) rfl rfl rfl (by decide +kernel) ⟨Nat.le_of_ble_eq_true rfl, Nat.le_of_ble_eq_true rfl⟩) ⟨fun a U g mk q => by obtain ⟨q0, q1, qP, qK, qN, qD⟩ := q; exact ⟨q0, q1, qP, va_K.moved (u := U) (U := U.calling g mk a) (Vm.Alike.refl U.vm) qK, qN.calling, qD⟩, fun U hU hW => ⟨rfl, by rw [hU], by rw [hU]; exact hPc, va_K.moved hW.alike hK, NN.warm hW hN, hDc.weaken (fun _ _ _ _ => trivial)⟩⟩ rfl rfl hl.1 rfl (lv_room (Nat.le_of_ble_eq_true rfl)) d_DiscMaker_isOwnership_3 ⟨hkc, hks⟩) hS (fun q _ h => hFc q h) hFc (fun r1 u t H1 locs ht hvm hp_r1 hB hz1 hk1 hS => ?_)
  obtain ⟨hP1, hD1⟩ := hB
  rw [ht] at hP1
  obtain ⟨hP, hD⟩ := va_join (wr := []) (w1 := []) hP hD [] [] rfl rfl (by decide +kernel) (by decide +kernel) hk1 hFc hP1 hD1
  clear hPc hDc hFc hP1 hD1 hk1 hz1 hkc hks
  generalize H1 = H at hP hS ⊢
  have hP : va_P D CL [] H := hP
  have hD : va_D A [] := hD
  try dsimp only at hp_r1
  obtain ⟨hr_2, hv_3, hb_4⟩ := hp_r1
  try rw [L_1000000] at hv_3
  try rw [L_1000000] at hb_4
  refine lv_if_eq (tgt := 31) hx hb d_DiscMaker_isOwnership_6 (by decide) (fun h_9 => ?_) (fun h_9 => ?_)
  · skip
    have g6_4 : r1.toInt = 0 := (i_eq rfl (by decide)).mp h_9
    refine lv_iconst (v := 0) hx hb d_DiscMaker_isOwnership_31 (by decide) ?_
    have hP9 := hP.sub (ws' := []) [] rfl
    have hD9 := hD.sub (ws' := []) [] (by decide +kernel) rfl
    exact W.zret (v := 0) hx hb hr (by first | rfl | decide | exact i_narZ (by omega)) (fun t ht hW => ⟨⟨0, (), rfl, ⟨(by (try dsimp only); first | assumption | omega | trivial), (BoolIs.no (fun h7 => hb_4.f (by omega) h7.1))⟩, by rw [ht]; exact hP9, hD9⟩, hS.F ht⟩) hS.2.2 d_DiscMaker_isOwnership_32
  · skip
    have g6_4 : ¬ r1.toInt = 0 := fun h8 => h_9 ((i_eq rfl (by decide)).mpr h8)
    refine lv_iload_n hx hb d_DiscMaker_isOwnership_9 rfl (lv_at hl 1 rfl) ?_
    refine lv_ldc (v := 1000000) hx hb hown (ht9 _ k478) d_DiscMaker_isOwnership_10 ?_
    have hPc := hP.sub (ws' := []) [] rfl
    have hDc := hD.sub (ws' := []) [] (by decide +kernel) rfl
    have hFc := va_free (wc := []) hD hS hA [] rfl
    have hkc : 0 ≤ 0 := by decide
    have hks : 0 ≤ 0 := by decide
    refine va_calli (va_runS (As := [.int y, .int 1000000]) (rest := []) ⟨hx, hb, hml, hown, hts⟩ (c3_isWithin l D cB cI cJ cZ cN cF H.size y 1000000) (cwS 2 hts (lg_goodS k479 k480 k115 kc_DiscMaker_isWithin) rfl rfl rfl (by decide +kernel) ⟨Nat.le_of_ble_eq_true rfl, Nat.le_of_ble_eq_true rfl⟩) ⟨fun a U g mk q => by obtain ⟨q0, q1, qP, qK, qN, qD⟩ := q; exact ⟨q0, q1, qP, va_K.moved (u := U) (U := U.calling g mk a) (Vm.Alike.refl U.vm) qK, qN.calling, qD⟩, fun U hU hW => ⟨rfl, by rw [hU], by rw [hU]; exact hPc, va_K.moved hW.alike hK, NN.warm hW hN, hDc.weaken (fun _ _ _ _ => trivial)⟩⟩ rfl rfl hl.1 rfl (lv_room (Nat.le_of_ble_eq_true rfl)) d_DiscMaker_isOwnership_12 ⟨hkc, hks⟩) hS (fun q _ h => hFc q h) hFc (fun r5 u t H1 locs ht hvm hp_r5 hB hz1 hk1 hS => ?_)
    obtain ⟨hP1, hD1⟩ := hB
    rw [ht] at hP1
    obtain ⟨hP, hD⟩ := va_join (wr := []) (w1 := []) hP hD [] [] rfl rfl (by decide +kernel) (by decide +kernel) hk1 hFc hP1 hD1
    clear hPc hDc hFc hP1 hD1 hk1 hz1 hkc hks
    generalize H1 = H at hP hS ⊢
    have hP : va_P D CL [] H := hP
    have hD : va_D A [] := hD
    try dsimp only at hp_r5
    obtain ⟨hr_6, hv_7, hb_8⟩ := hp_r5
    try rw [L_1000000] at hv_7
    try rw [L_1000000] at hb_8
    refine lv_if_eq (tgt := 31) hx hb d_DiscMaker_isOwnership_15 (by decide) (fun h_9 => ?_) (fun h_9 => ?_)
    · skip
      have g15_10 : r5.toInt = 0 := (i_eq rfl (by decide)).mp h_9
      refine lv_iconst (v := 0) hx hb d_DiscMaker_isOwnership_31 (by decide) ?_
      have hP9 := hP.sub (ws' := []) [] rfl
      have hD9 := hD.sub (ws' := []) [] (by decide +kernel) rfl
      exact W.zret (v := 0) hx hb hr (by first | rfl | decide | exact i_narZ (by omega)) (fun t ht hW => ⟨⟨0, (), rfl, ⟨(by (try dsimp only); first | assumption | omega | trivial), (BoolIs.no (fun h7 => hb_8.f (by omega) h7.2.1))⟩, by rw [ht]; exact hP9, hD9⟩, hS.F ht⟩) hS.2.2 d_DiscMaker_isOwnership_32
    · skip
      have g15_10 : ¬ r5.toInt = 0 := fun h8 => h_9 ((i_eq rfl (by decide)).mpr h8)
      refine lv_iload_n hx hb d_DiscMaker_isOwnership_18 rfl (lv_at hl 2 rfl) ?_
      refine lv_ldc (v := 1000000) hx hb hown (ht9 _ k478) d_DiscMaker_isOwnership_19 ?_
      have hPc := hP.sub (ws' := []) [] rfl
      have hDc := hD.sub (ws' := []) [] (by decide +kernel) rfl
      have hFc := va_free (wc := []) hD hS hA [] rfl
      have hkc : 0 ≤ 0 := by decide
      have hks : 0 ≤ 0 := by decide
      refine va_calli (va_runS (As := [.int z, .int 1000000]) (rest := []) ⟨hx, hb, hml, hown, hts⟩ (c3_isWithin l D cB cI cJ cZ cN cF H.size z 1000000) (cwS 2 hts (lg_goodS k479 k480 k115 kc_DiscMaker_isWithin) rfl rfl rfl (by decide +kernel) ⟨Nat.le_of_ble_eq_true rfl, Nat.le_of_ble_eq_true rfl⟩) ⟨fun a U g mk q => by obtain ⟨q0, q1, qP, qK, qN, qD⟩ := q; exact ⟨q0, q1, qP, va_K.moved (u := U) (U := U.calling g mk a) (Vm.Alike.refl U.vm) qK, qN.calling, qD⟩, fun U hU hW => ⟨rfl, by rw [hU], by rw [hU]; exact hPc, va_K.moved hW.alike hK, NN.warm hW hN, hDc.weaken (fun _ _ _ _ => trivial)⟩⟩ rfl rfl hl.1 rfl (lv_room (Nat.le_of_ble_eq_true rfl)) d_DiscMaker_isOwnership_21 ⟨hkc, hks⟩) hS (fun q _ h => hFc q h) hFc (fun r9 u t H1 locs ht hvm hp_r9 hB hz1 hk1 hS => ?_)
      obtain ⟨hP1, hD1⟩ := hB
      rw [ht] at hP1
      obtain ⟨hP, hD⟩ := va_join (wr := []) (w1 := []) hP hD [] [] rfl rfl (by decide +kernel) (by decide +kernel) hk1 hFc hP1 hD1
      clear hPc hDc hFc hP1 hD1 hk1 hz1 hkc hks
      generalize H1 = H at hP hS ⊢
      have hP : va_P D CL [] H := hP
      have hD : va_D A [] := hD
      try dsimp only at hp_r9
      obtain ⟨hr_10, hv_11, hb_12⟩ := hp_r9
      try rw [L_1000000] at hv_11
      try rw [L_1000000] at hb_12
      refine lv_if_eq (tgt := 31) hx hb d_DiscMaker_isOwnership_24 (by decide) (fun h_9 => ?_) (fun h_9 => ?_)
      · skip
        have g24_16 : r9.toInt = 0 := (i_eq rfl (by decide)).mp h_9
        refine lv_iconst (v := 0) hx hb d_DiscMaker_isOwnership_31 (by decide) ?_
        have hP9 := hP.sub (ws' := []) [] rfl
        have hD9 := hD.sub (ws' := []) [] (by decide +kernel) rfl
        exact W.zret (v := 0) hx hb hr (by first | rfl | decide | exact i_narZ (by omega)) (fun t ht hW => ⟨⟨0, (), rfl, ⟨(by (try dsimp only); first | assumption | omega | trivial), (BoolIs.no (fun h7 => hb_12.f (by omega) h7.2.2))⟩, by rw [ht]; exact hP9, hD9⟩, hS.F ht⟩) hS.2.2 d_DiscMaker_isOwnership_32
      · skip
        have g24_16 : ¬ r9.toInt = 0 := fun h8 => h_9 ((i_eq rfl (by decide)).mpr h8)
        refine lv_iconst (v := 1) hx hb d_DiscMaker_isOwnership_27 (by decide) ?_
        refine lv_goto (tgt := 32) hx hb d_DiscMaker_isOwnership_28 (by decide) ?_
        have hP9 := hP.sub (ws' := []) [] rfl
        have hD9 := hD.sub (ws' := []) [] (by decide +kernel) rfl
        exact W.zret (v := 1) hx hb hr (by first | rfl | decide | exact i_narZ (by omega)) (fun t ht hW => ⟨⟨1, (), rfl, ⟨(by (try dsimp only); first | assumption | omega | trivial), (BoolIs.yes ⟨hb_4.t (by omega), hb_8.t (by omega), hb_12.t (by omega)⟩)⟩, by rw [ht]; exact hP9, hD9⟩, hS.F ht⟩) hS.2.2 d_DiscMaker_isOwnership_32

theorem d_DiscMaker_isNameCharacter_0 : decode b_DiscMaker_isNameCharacter 0 = .ok (.iload_n 0, 1) := by decide +kernel
theorem d_DiscMaker_isNameCharacter_1 : decode b_DiscMaker_isNameCharacter 1 = .ok (.invokestatic 182, 3) := by decide +kernel
theorem d_DiscMaker_isNameCharacter_4 : decode b_DiscMaker_isNameCharacter 4 = .ok (.ifCond .ne 34, 3) := by decide +kernel
theorem d_DiscMaker_isNameCharacter_7 : decode b_DiscMaker_isNameCharacter 7 = .ok (.iload_n 0, 1) := by decide +kernel
theorem d_DiscMaker_isNameCharacter_8 : decode b_DiscMaker_isNameCharacter 8 = .ok (.invokestatic 185, 3) := by decide +kernel
theorem d_DiscMaker_isNameCharacter_11 : decode b_DiscMaker_isNameCharacter 11 = .ok (.ifCond .ne 27, 3) := by decide +kernel
theorem d_DiscMaker_isNameCharacter_14 : decode b_DiscMaker_isNameCharacter 14 = .ok (.iload_n 0, 1) := by decide +kernel
theorem d_DiscMaker_isNameCharacter_15 : decode b_DiscMaker_isNameCharacter 15 = .ok (.bipush 46, 2) := by decide +kernel
theorem d_DiscMaker_isNameCharacter_17 : decode b_DiscMaker_isNameCharacter 17 = .ok (.if_icmp .eq 21, 3) := by decide +kernel
theorem d_DiscMaker_isNameCharacter_20 : decode b_DiscMaker_isNameCharacter 20 = .ok (.iload_n 0, 1) := by decide +kernel
theorem d_DiscMaker_isNameCharacter_21 : decode b_DiscMaker_isNameCharacter 21 = .ok (.bipush 45, 2) := by decide +kernel
theorem d_DiscMaker_isNameCharacter_23 : decode b_DiscMaker_isNameCharacter 23 = .ok (.if_icmp .eq 15, 3) := by decide +kernel
theorem d_DiscMaker_isNameCharacter_26 : decode b_DiscMaker_isNameCharacter 26 = .ok (.iload_n 0, 1) := by decide +kernel
theorem d_DiscMaker_isNameCharacter_27 : decode b_DiscMaker_isNameCharacter 27 = .ok (.bipush 95, 2) := by decide +kernel
theorem d_DiscMaker_isNameCharacter_29 : decode b_DiscMaker_isNameCharacter 29 = .ok (.if_icmp .eq 9, 3) := by decide +kernel
theorem d_DiscMaker_isNameCharacter_32 : decode b_DiscMaker_isNameCharacter 32 = .ok (.iload_n 0, 1) := by decide +kernel
theorem d_DiscMaker_isNameCharacter_33 : decode b_DiscMaker_isNameCharacter 33 = .ok (.bipush 43, 2) := by decide +kernel
theorem d_DiscMaker_isNameCharacter_35 : decode b_DiscMaker_isNameCharacter 35 = .ok (.if_icmp .ne 7, 3) := by decide +kernel
theorem d_DiscMaker_isNameCharacter_38 : decode b_DiscMaker_isNameCharacter 38 = .ok (.iconst 1, 1) := by decide +kernel
theorem d_DiscMaker_isNameCharacter_39 : decode b_DiscMaker_isNameCharacter 39 = .ok (.goto 4, 3) := by decide +kernel
theorem d_DiscMaker_isNameCharacter_42 : decode b_DiscMaker_isNameCharacter 42 = .ok (.iconst 0, 1) := by decide +kernel
theorem d_DiscMaker_isNameCharacter_43 : decode b_DiscMaker_isNameCharacter 43 = .ok (.ireturn, 1) := by decide +kernel
set_option maxHeartbeats 4000000 in
set_option maxRecDepth 100000 in
theorem c3_isNameCharacter (l : Launch) (D : va_G) (cB cI cJ cZ cN cF : ClassId) (sz : Nat) (x : Int32) : Met l y_DiscMaker_isNameCharacter w_DiscMaker_isNameCharacter ({ frames := 1, cells := 0, slots := 0, locals := 26 }) (va_Pc [.int x] (fun U => U.heap.size = sz ∧ va_P D CL [] U.heap ∧ va_K D CL (TY cB cI cJ cZ cN cF) U ∧ NN U ∧ va_D (fun _ => True) [])) (va_Qi (fun (r : Int32) (u : Unit) => (0 ≤ r.toInt ∧ r.toInt ≤ 1) ∧ (BoolIs r (nch x.toInt))) (fun (u : Unit) (t : State) => match u with | () => va_P D CL [] t.heap ∧ va_D (va_A [] sz) []) (va_A [] sz)) 0 0 (va_A [] sz) := by
  refine Met.ofW (cc := b_DiscMaker_isNameCharacter) (maxL := 1) (ret := some .boolean) (by decide +kernel) rfl ?_
  intro p e s m args below meth c s₁ B hml hv
  obtain ⟨rfl, hsz, hP, hK, hN, hD0⟩ := hv
  have hx := B.exec
  have hb := B.bytes
  have hr := B.returns
  have hts := atoms_spec (ws := w_DiscMaker_isNameCharacter) B.pre
  have ht9 := fun (w : Cond) (h : w ∈ lw_g) => hts w (List.mem_cons_of_mem _ h)
  have hown : s.vm.findClass "DiscMaker" = some m.cls := findClass_of_methodNamed B.named
  have hlocks := B.notSynchronized
  subst hsz
  have hD := hD0.self (sz := s.heap.size)
  generalize hAe : va_A [] s.heap.size = A at hD ⊢
  have hA : ∀ q : Nat, s.heap.size ≤ q → A q := fun q h => by rw [← hAe]; exact Or.inr h
  have hS : va_S A s.heap s.heap [] := va_S.rf
  have hP : va_P D CL [] s.heap := hP
  have hl := lv_entry [.int x] (n := 1) (Nat.le_of_ble_eq_true rfl)
  rw [lg_entry_eq]
  generalize (lg_sl [.int x] ++ List.replicate (1 - (lg_sl [.int x]).length) Slot.unset).toArray = ls at hl ⊢
  have hl : lv_has ls 1 [(0, .int x)] := hl
  have L_m1 : ((-1) : Int32).toInt = (-1) := by decide
  have L_0 : (0 : Int32).toInt = 0 := by decide
  have L_1 : (1 : Int32).toInt = 1 := by decide
  have L_43 : (43 : Int32).toInt = 43 := by decide
  have L_45 : (45 : Int32).toInt = 45 := by decide
  have L_46 : (46 : Int32).toInt = 46 := by decide
  have L_95 : (95 : Int32).toInt = 95 := by decide
  refine lv_iload_n hx hb d_DiscMaker_isNameCharacter_0 rfl (lv_at hl 0 rfl) ?_
  have hPc := hP.sub (ws' := []) [] rfl
  have hDc := hD.sub (ws' := []) [] (by decide +kernel) rfl
  have hFc := va_free (wc := []) hD hS hA [] rfl
  have hkc : 0 ≤ 0 := by decide
  have hks : 0 ≤ 0 := by decide
  refine va_calli (va_runS (As := [.int x]) (rest := []) ⟨hx, hb, hml, hown, hts⟩ (c3_isLetter l D cB cI cJ cZ cN cF s.heap.size x) (cwS 1 hts (lg_goodS k809 k810 k115 kc_DiscMaker_isLetter) rfl rfl rfl (by decide +kernel) ⟨Nat.le_of_ble_eq_true rfl, Nat.le_of_ble_eq_true rfl⟩) ⟨fun a U g mk q => by obtain ⟨q0, q1, qP, qK, qN, qD⟩ := q; exact ⟨q0, q1, qP, va_K.moved (u := U) (U := U.calling g mk a) (Vm.Alike.refl U.vm) qK, qN.calling, qD⟩, fun U hU hW => ⟨rfl, by rw [hU], by rw [hU]; exact hPc, va_K.moved hW.alike hK, NN.warm hW hN, hDc.weaken (fun _ _ _ _ => trivial)⟩⟩ rfl rfl hl.1 rfl (lv_room (Nat.le_of_ble_eq_true rfl)) d_DiscMaker_isNameCharacter_1 ⟨hkc, hks⟩) hS (fun q _ h => hFc q h) hFc (fun r1 u t H1 locs ht hvm hp_r1 hB hz1 hk1 hS => ?_)
  obtain ⟨hP1, hD1⟩ := hB
  rw [ht] at hP1
  obtain ⟨hP, hD⟩ := va_join (wr := []) (w1 := []) hP hD [] [] rfl rfl (by decide +kernel) (by decide +kernel) hk1 hFc hP1 hD1
  clear hPc hDc hFc hP1 hD1 hk1 hz1 hkc hks
  generalize H1 = H at hP hS ⊢
  have hP : va_P D CL [] H := hP
  have hD : va_D A [] := hD
  try dsimp only at hp_r1
  obtain ⟨hr_2, hd_3⟩ := hp_r1
  refine lv_if_ne (tgt := 38) hx hb d_DiscMaker_isNameCharacter_4 (by decide) (fun h_9 => ?_) (fun h_9 => ?_)
  · skip
    have g4_3 : ¬ r1.toInt = 0 := fun h8 => h_9 ((i_eq rfl (by decide)).mpr h8)
    refine lv_iconst (v := 1) hx hb d_DiscMaker_isNameCharacter_38 (by decide) ?_
    refine lv_goto (tgt := 43) hx hb d_DiscMaker_isNameCharacter_39 (by decide) ?_
    have hP9 := hP.sub (ws' := []) [] rfl
    have hD9 := hD.sub (ws' := []) [] (by decide +kernel) rfl
    exact W.zret (v := 1) hx hb hr (by first | rfl | decide | exact i_narZ (by omega)) (fun t ht hW => ⟨⟨1, (), rfl, ⟨(by (try dsimp only); first | assumption | omega | trivial), (by (try dsimp only); first | exact BoolIs.yes (Or.inl (hd_3.t (by omega))))⟩, by rw [ht]; exact hP9, hD9⟩, hS.F ht⟩) hS.2.2 d_DiscMaker_isNameCharacter_43
  · skip
    have g4_3 : r1.toInt = 0 := (i_eq rfl (by decide)).mp h_9
    refine lv_iload_n hx hb d_DiscMaker_isNameCharacter_7 rfl (lv_at hl 0 rfl) ?_
    have hPc := hP.sub (ws' := []) [] rfl
    have hDc := hD.sub (ws' := []) [] (by decide +kernel) rfl
    have hFc := va_free (wc := []) hD hS hA [] rfl
    have hkc : 0 ≤ 0 := by decide
    have hks : 0 ≤ 0 := by decide
    refine va_calli (va_runS (As := [.int x]) (rest := []) ⟨hx, hb, hml, hown, hts⟩ (c3_isDigit l D cB cI cJ cZ cN cF H.size x) (cwS 1 hts (lg_goodS k812 k813 k115 kc_DiscMaker_isDigit) rfl rfl rfl (by decide +kernel) ⟨Nat.le_of_ble_eq_true rfl, Nat.le_of_ble_eq_true rfl⟩) ⟨fun a U g mk q => by obtain ⟨q0, q1, qP, qK, qN, qD⟩ := q; exact ⟨q0, q1, qP, va_K.moved (u := U) (U := U.calling g mk a) (Vm.Alike.refl U.vm) qK, qN.calling, qD⟩, fun U hU hW => ⟨rfl, by rw [hU], by rw [hU]; exact hPc, va_K.moved hW.alike hK, NN.warm hW hN, hDc.weaken (fun _ _ _ _ => trivial)⟩⟩ rfl rfl hl.1 rfl (lv_room (Nat.le_of_ble_eq_true rfl)) d_DiscMaker_isNameCharacter_8 ⟨hkc, hks⟩) hS (fun q _ h => hFc q h) hFc (fun r4 u t H1 locs ht hvm hp_r4 hB hz1 hk1 hS => ?_)
    obtain ⟨hP1, hD1⟩ := hB
    rw [ht] at hP1
    obtain ⟨hP, hD⟩ := va_join (wr := []) (w1 := []) hP hD [] [] rfl rfl (by decide +kernel) (by decide +kernel) hk1 hFc hP1 hD1
    clear hPc hDc hFc hP1 hD1 hk1 hz1 hkc hks
    generalize H1 = H at hP hS ⊢
    have hP : va_P D CL [] H := hP
    have hD : va_D A [] := hD
    try dsimp only at hp_r4
    obtain ⟨hr_5, hd_6⟩ := hp_r4
    refine lv_if_ne (tgt := 38) hx hb d_DiscMaker_isNameCharacter_11 (by decide) (fun h_9 => ?_) (fun h_9 => ?_)
    · skip
      have g11_9 : ¬ r4.toInt = 0 := fun h8 => h_9 ((i_eq rfl (by decide)).mpr h8)
      refine lv_iconst (v := 1) hx hb d_DiscMaker_isNameCharacter_38 (by decide) ?_
      refine lv_goto (tgt := 43) hx hb d_DiscMaker_isNameCharacter_39 (by decide) ?_
      have hP9 := hP.sub (ws' := []) [] rfl
      have hD9 := hD.sub (ws' := []) [] (by decide +kernel) rfl
      exact W.zret (v := 1) hx hb hr (by first | rfl | decide | exact i_narZ (by omega)) (fun t ht hW => ⟨⟨1, (), rfl, ⟨(by (try dsimp only); first | assumption | omega | trivial), (by (try dsimp only); first | exact BoolIs.yes (Or.inl (hd_3.t (by omega))) | exact BoolIs.yes (Or.inr (Or.inl (hd_6.t (by omega)))) | exact BoolIs.yes (Or.inr (Or.inr (by omega))) | exact BoolIs.no (fun h8 => h8.elim (hd_3.f (by omega)) (fun h7 => h7.elim (hd_6.f (by omega)) (fun h6 => by omega))))⟩, by rw [ht]; exact hP9, hD9⟩, hS.F ht⟩) hS.2.2 d_DiscMaker_isNameCharacter_43
    · skip
      have g11_9 : r4.toInt = 0 := (i_eq rfl (by decide)).mp h_9
      refine lv_iload_n hx hb d_DiscMaker_isNameCharacter_14 rfl (lv_at hl 0 rfl) ?_
      refine lv_bipush (v := 46) hx hb d_DiscMaker_isNameCharacter_15 (by decide) ?_
      refine lv_icmp_eq (tgt := 38) hx hb d_DiscMaker_isNameCharacter_17 (by decide) (fun h_9 => ?_) (fun h_9 => ?_)
      · skip
        have g17_15 : x.toInt = 46 := (i_eq rfl (by decide)).mp h_9
        refine lv_iconst (v := 1) hx hb d_DiscMaker_isNameCharacter_38 (by decide) ?_
        refine lv_goto (tgt := 43) hx hb d_DiscMaker_isNameCharacter_39 (by decide) ?_
        have hP9 := hP.sub (ws' := []) [] rfl
        have hD9 := hD.sub (ws' := []) [] (by decide +kernel) rfl
        exact W.zret (v := 1) hx hb hr (by first | rfl | decide | exact i_narZ (by omega)) (fun t ht hW => ⟨⟨1, (), rfl, ⟨(by (try dsimp only); first | assumption | omega | trivial), (by (try dsimp only); first | exact BoolIs.yes (Or.inl (hd_3.t (by omega))) | exact BoolIs.yes (Or.inr (Or.inl (hd_6.t (by omega)))) | exact BoolIs.yes (Or.inr (Or.inr (by omega))) | exact BoolIs.no (fun h8 => h8.elim (hd_3.f (by omega)) (fun h7 => h7.elim (hd_6.f (by omega)) (fun h6 => by omega))))⟩, by rw [ht]; exact hP9, hD9⟩, hS.F ht⟩) hS.2.2 d_DiscMaker_isNameCharacter_43
      · skip
        have g17_15 : ¬ x.toInt = 46 := fun h8 => h_9 ((i_eq rfl (by decide)).mpr h8)
        refine lv_iload_n hx hb d_DiscMaker_isNameCharacter_20 rfl (lv_at hl 0 rfl) ?_
        refine lv_bipush (v := 45) hx hb d_DiscMaker_isNameCharacter_21 (by decide) ?_
        refine lv_icmp_eq (tgt := 38) hx hb d_DiscMaker_isNameCharacter_23 (by decide) (fun h_9 => ?_) (fun h_9 => ?_)
        · skip
          have g23_21 : x.toInt = 45 := (i_eq rfl (by decide)).mp h_9
          refine lv_iconst (v := 1) hx hb d_DiscMaker_isNameCharacter_38 (by decide) ?_
          refine lv_goto (tgt := 43) hx hb d_DiscMaker_isNameCharacter_39 (by decide) ?_
          have hP9 := hP.sub (ws' := []) [] rfl
          have hD9 := hD.sub (ws' := []) [] (by decide +kernel) rfl
          exact W.zret (v := 1) hx hb hr (by first | rfl | decide | exact i_narZ (by omega)) (fun t ht hW => ⟨⟨1, (), rfl, ⟨(by (try dsimp only); first | assumption | omega | trivial), (by (try dsimp only); first | exact BoolIs.yes (Or.inl (hd_3.t (by omega))) | exact BoolIs.yes (Or.inr (Or.inl (hd_6.t (by omega)))) | exact BoolIs.yes (Or.inr (Or.inr (by omega))) | exact BoolIs.no (fun h8 => h8.elim (hd_3.f (by omega)) (fun h7 => h7.elim (hd_6.f (by omega)) (fun h6 => by omega))))⟩, by rw [ht]; exact hP9, hD9⟩, hS.F ht⟩) hS.2.2 d_DiscMaker_isNameCharacter_43
        · skip
          have g23_21 : ¬ x.toInt = 45 := fun h8 => h_9 ((i_eq rfl (by decide)).mpr h8)
          refine lv_iload_n hx hb d_DiscMaker_isNameCharacter_26 rfl (lv_at hl 0 rfl) ?_
          refine lv_bipush (v := 95) hx hb d_DiscMaker_isNameCharacter_27 (by decide) ?_
          refine lv_icmp_eq (tgt := 38) hx hb d_DiscMaker_isNameCharacter_29 (by decide) (fun h_9 => ?_) (fun h_9 => ?_)
          · skip
            have g29_27 : x.toInt = 95 := (i_eq rfl (by decide)).mp h_9
            refine lv_iconst (v := 1) hx hb d_DiscMaker_isNameCharacter_38 (by decide) ?_
            refine lv_goto (tgt := 43) hx hb d_DiscMaker_isNameCharacter_39 (by decide) ?_
            have hP9 := hP.sub (ws' := []) [] rfl
            have hD9 := hD.sub (ws' := []) [] (by decide +kernel) rfl
            exact W.zret (v := 1) hx hb hr (by first | rfl | decide | exact i_narZ (by omega)) (fun t ht hW => ⟨⟨1, (), rfl, ⟨(by (try dsimp only); first | assumption | omega | trivial), (by (try dsimp only); first | exact BoolIs.yes (Or.inl (hd_3.t (by omega))) | exact BoolIs.yes (Or.inr (Or.inl (hd_6.t (by omega)))) | exact BoolIs.yes (Or.inr (Or.inr (by omega))) | exact BoolIs.no (fun h8 => h8.elim (hd_3.f (by omega)) (fun h7 => h7.elim (hd_6.f (by omega)) (fun h6 => by omega))))⟩, by rw [ht]; exact hP9, hD9⟩, hS.F ht⟩) hS.2.2 d_DiscMaker_isNameCharacter_43
          · skip
            have g29_27 : ¬ x.toInt = 95 := fun h8 => h_9 ((i_eq rfl (by decide)).mpr h8)
            refine lv_iload_n hx hb d_DiscMaker_isNameCharacter_32 rfl (lv_at hl 0 rfl) ?_
            refine lv_bipush (v := 43) hx hb d_DiscMaker_isNameCharacter_33 (by decide) ?_
            refine lv_icmp_ne (tgt := 42) hx hb d_DiscMaker_isNameCharacter_35 (by decide) (fun h_9 => ?_) (fun h_9 => ?_)
            · skip
              have g35_33 : ¬ x.toInt = 43 := fun h8 => h_9 ((i_eq rfl (by decide)).mpr h8)
              refine lv_iconst (v := 0) hx hb d_DiscMaker_isNameCharacter_42 (by decide) ?_
              have hP9 := hP.sub (ws' := []) [] rfl
              have hD9 := hD.sub (ws' := []) [] (by decide +kernel) rfl
              exact W.zret (v := 0) hx hb hr (by first | rfl | decide | exact i_narZ (by omega)) (fun t ht hW => ⟨⟨0, (), rfl, ⟨(by (try dsimp only); first | assumption | omega | trivial), (by (try dsimp only); first | exact BoolIs.yes (Or.inl (hd_3.t (by omega))) | exact BoolIs.yes (Or.inr (Or.inl (hd_6.t (by omega)))) | exact BoolIs.yes (Or.inr (Or.inr (by omega))) | exact BoolIs.no (fun h8 => h8.elim (hd_3.f (by omega)) (fun h7 => h7.elim (hd_6.f (by omega)) (fun h6 => by omega))))⟩, by rw [ht]; exact hP9, hD9⟩, hS.F ht⟩) hS.2.2 d_DiscMaker_isNameCharacter_43
            · skip
              have g35_33 : x.toInt = 43 := (i_eq rfl (by decide)).mp h_9
              refine lv_iconst (v := 1) hx hb d_DiscMaker_isNameCharacter_38 (by decide) ?_
              refine lv_goto (tgt := 43) hx hb d_DiscMaker_isNameCharacter_39 (by decide) ?_
              have hP9 := hP.sub (ws' := []) [] rfl
              have hD9 := hD.sub (ws' := []) [] (by decide +kernel) rfl
              exact W.zret (v := 1) hx hb hr (by first | rfl | decide | exact i_narZ (by omega)) (fun t ht hW => ⟨⟨1, (), rfl, ⟨(by (try dsimp only); first | assumption | omega | trivial), (by (try dsimp only); first | exact BoolIs.yes (Or.inl (hd_3.t (by omega))) | exact BoolIs.yes (Or.inr (Or.inl (hd_6.t (by omega)))) | exact BoolIs.yes (Or.inr (Or.inr (by omega))) | exact BoolIs.no (fun h8 => h8.elim (hd_3.f (by omega)) (fun h7 => h7.elim (hd_6.f (by omega)) (fun h6 => by omega))))⟩, by rw [ht]; exact hP9, hD9⟩, hS.F ht⟩) hS.2.2 d_DiscMaker_isNameCharacter_43

theorem d_DiscMaker_isName_0 : decode b_DiscMaker_isName 0 = .ok (.aload_n 0, 1) := by decide +kernel
theorem d_DiscMaker_isName_1 : decode b_DiscMaker_isName 1 = .ok (.arraylength, 1) := by decide +kernel
theorem d_DiscMaker_isName_2 : decode b_DiscMaker_isName 2 = .ok (.iconst 1, 1) := by decide +kernel
theorem d_DiscMaker_isName_3 : decode b_DiscMaker_isName 3 = .ok (.if_icmp .lt 10, 3) := by decide +kernel
theorem d_DiscMaker_isName_6 : decode b_DiscMaker_isName 6 = .ok (.aload_n 0, 1) := by decide +kernel
theorem d_DiscMaker_isName_7 : decode b_DiscMaker_isName 7 = .ok (.arraylength, 1) := by decide +kernel
theorem d_DiscMaker_isName_8 : decode b_DiscMaker_isName 8 = .ok (.bipush 30, 2) := by decide +kernel
theorem d_DiscMaker_isName_10 : decode b_DiscMaker_isName 10 = .ok (.if_icmp .le 5, 3) := by decide +kernel
theorem d_DiscMaker_isName_13 : decode b_DiscMaker_isName 13 = .ok (.iconst 0, 1) := by decide +kernel
theorem d_DiscMaker_isName_14 : decode b_DiscMaker_isName 14 = .ok (.ireturn, 1) := by decide +kernel
theorem d_DiscMaker_isName_15 : decode b_DiscMaker_isName 15 = .ok (.iconst 0, 1) := by decide +kernel
theorem d_DiscMaker_isName_16 : decode b_DiscMaker_isName 16 = .ok (.istore_n 1, 1) := by decide +kernel
theorem d_DiscMaker_isName_17 : decode b_DiscMaker_isName 17 = .ok (.iconst 0, 1) := by decide +kernel
theorem d_DiscMaker_isName_18 : decode b_DiscMaker_isName 18 = .ok (.istore_n 2, 1) := by decide +kernel
theorem d_DiscMaker_isName_19 : decode b_DiscMaker_isName 19 = .ok (.iload_n 2, 1) := by decide +kernel
theorem d_DiscMaker_isName_20 : decode b_DiscMaker_isName 20 = .ok (.aload_n 0, 1) := by decide +kernel
theorem d_DiscMaker_isName_21 : decode b_DiscMaker_isName 21 = .ok (.arraylength, 1) := by decide +kernel
theorem d_DiscMaker_isName_22 : decode b_DiscMaker_isName 22 = .ok (.if_icmp .ge 36, 3) := by decide +kernel
theorem d_DiscMaker_isName_25 : decode b_DiscMaker_isName 25 = .ok (.aload_n 0, 1) := by decide +kernel
theorem d_DiscMaker_isName_26 : decode b_DiscMaker_isName 26 = .ok (.iload_n 2, 1) := by decide +kernel
theorem d_DiscMaker_isName_27 : decode b_DiscMaker_isName 27 = .ok (.baload, 1) := by decide +kernel
theorem d_DiscMaker_isName_28 : decode b_DiscMaker_isName 28 = .ok (.invokestatic 179, 3) := by decide +kernel
theorem d_DiscMaker_isName_31 : decode b_DiscMaker_isName 31 = .ok (.ifCond .ne 5, 3) := by decide +kernel
theorem d_DiscMaker_isName_34 : decode b_DiscMaker_isName 34 = .ok (.iconst 0, 1) := by decide +kernel
theorem d_DiscMaker_isName_35 : decode b_DiscMaker_isName 35 = .ok (.ireturn, 1) := by decide +kernel
theorem d_DiscMaker_isName_36 : decode b_DiscMaker_isName 36 = .ok (.iload_n 1, 1) := by decide +kernel
theorem d_DiscMaker_isName_37 : decode b_DiscMaker_isName 37 = .ok (.aload_n 0, 1) := by decide +kernel
theorem d_DiscMaker_isName_38 : decode b_DiscMaker_isName 38 = .ok (.iload_n 2, 1) := by decide +kernel
theorem d_DiscMaker_isName_39 : decode b_DiscMaker_isName 39 = .ok (.baload, 1) := by decide +kernel
theorem d_DiscMaker_isName_40 : decode b_DiscMaker_isName 40 = .ok (.bipush 46, 2) := by decide +kernel
theorem d_DiscMaker_isName_42 : decode b_DiscMaker_isName 42 = .ok (.if_icmp .ne 7, 3) := by decide +kernel
theorem d_DiscMaker_isName_45 : decode b_DiscMaker_isName 45 = .ok (.iconst 1, 1) := by decide +kernel
theorem d_DiscMaker_isName_46 : decode b_DiscMaker_isName 46 = .ok (.goto 4, 3) := by decide +kernel
theorem d_DiscMaker_isName_49 : decode b_DiscMaker_isName 49 = .ok (.iconst 0, 1) := by decide +kernel
theorem d_DiscMaker_isName_50 : decode b_DiscMaker_isName 50 = .ok (.iadd, 1) := by decide +kernel
theorem d_DiscMaker_isName_51 : decode b_DiscMaker_isName 51 = .ok (.istore_n 1, 1) := by decide +kernel
theorem d_DiscMaker_isName_52 : decode b_DiscMaker_isName 52 = .ok (.iinc 2 1, 3) := by decide +kernel
theorem d_DiscMaker_isName_55 : decode b_DiscMaker_isName 55 = .ok (.goto (-36), 3) := by decide +kernel
theorem d_DiscMaker_isName_58 : decode b_DiscMaker_isName 58 = .ok (.aload_n 0, 1) := by decide +kernel
theorem d_DiscMaker_isName_59 : decode b_DiscMaker_isName 59 = .ok (.arraylength, 1) := by decide +kernel
theorem d_DiscMaker_isName_60 : decode b_DiscMaker_isName 60 = .ok (.iconst 2, 1) := by decide +kernel
theorem d_DiscMaker_isName_61 : decode b_DiscMaker_isName 61 = .ok (.if_icmp .gt 9, 3) := by decide +kernel
theorem d_DiscMaker_isName_64 : decode b_DiscMaker_isName 64 = .ok (.iload_n 1, 1) := by decide +kernel
theorem d_DiscMaker_isName_65 : decode b_DiscMaker_isName 65 = .ok (.aload_n 0, 1) := by decide +kernel
theorem d_DiscMaker_isName_66 : decode b_DiscMaker_isName 66 = .ok (.arraylength, 1) := by decide +kernel
theorem d_DiscMaker_isName_67 : decode b_DiscMaker_isName 67 = .ok (.if_icmp .ge 7, 3) := by decide +kernel
theorem d_DiscMaker_isName_70 : decode b_DiscMaker_isName 70 = .ok (.iconst 1, 1) := by decide +kernel
theorem d_DiscMaker_isName_71 : decode b_DiscMaker_isName 71 = .ok (.goto 4, 3) := by decide +kernel
theorem d_DiscMaker_isName_74 : decode b_DiscMaker_isName 74 = .ok (.iconst 0, 1) := by decide +kernel
theorem d_DiscMaker_isName_75 : decode b_DiscMaker_isName 75 = .ok (.ireturn, 1) := by decide +kernel
set_option maxHeartbeats 4000000 in
set_option maxRecDepth 100000 in
theorem c3_isName (l : Launch) (D : va_G) (cB cI cJ cZ cN cF : ClassId) (sz : Nat) (tt : Nat) (nt : Nat) (gv : Nat → Int32) (hnt : nt ≤ 400) : Met l y_DiscMaker_isName w_DiscMaker_isName ({ frames := 2, cells := 0, slots := 0, locals := 52 }) (va_Pc [.ref tt] (fun U => U.heap.size = sz ∧ va_P D CL [] U.heap ∧ va_K D CL (TY cB cI cJ cZ cN cF) U ∧ NN U ∧ va_D (fun _ => True) [] ∧ RO D [(tt, .inl (cB, nt, .inl gv))] (va_A [] sz) U U.heap)) (va_Qi (fun (r : Int32) (u : Unit) => (0 ≤ r.toInt ∧ r.toInt ≤ 1) ∧ (BoolIs r (NameP nt gv))) (fun (u : Unit) (t : State) => match u with | () => va_P D CL [] t.heap ∧ va_D (va_A [] sz) []) (va_A [] sz)) 0 0 (va_A [] sz) := by
  refine Met.ofW (cc := b_DiscMaker_isName) (maxL := 3) (ret := some .boolean) (by decide +kernel) rfl ?_
  intro p e s m args below meth c s₁ B hml hv
  obtain ⟨rfl, hsz, hP, hK, hN, hD0, hZr⟩ := hv
  have hx := B.exec
  have hb := B.bytes
  have hr := B.returns
  have hts := atoms_spec (ws := w_DiscMaker_isName) B.pre
  have ht9 := fun (w : Cond) (h : w ∈ lw_g) => hts w (List.mem_cons_of_mem _ h)
  have hown : s.vm.findClass "DiscMaker" = some m.cls := findClass_of_methodNamed B.named
  have hlocks := B.notSynchronized
  subst hsz
  have hD := hD0.self (sz := s.heap.size)
  generalize hAe : va_A [] s.heap.size = A at hD hZr ⊢
  have hA : ∀ q : Nat, s.heap.size ≤ q → A q := fun q h => by rw [← hAe]; exact Or.inr h
  have hS : va_S A s.heap s.heap [] := va_S.rf
  have hP : va_P D CL [] s.heap := hP
  have hl := lv_entry [.ref tt] (n := 3) (Nat.le_of_ble_eq_true rfl)
  rw [lg_entry_eq]
  generalize (lg_sl [.ref tt] ++ List.replicate (3 - (lg_sl [.ref tt]).length) Slot.unset).toArray = ls at hl ⊢
  have hl : lv_has ls 3 [(0, .ref tt)] := hl
  have L_m1 : ((-1) : Int32).toInt = (-1) := by decide
  have L_0 : (0 : Int32).toInt = 0 := by decide
  have L_1 : (1 : Int32).toInt = 1 := by decide
  have L_2 : (2 : Int32).toInt = 2 := by decide
  have L_30 : (30 : Int32).toInt = 30 := by decide
  have L_46 : (46 : Int32).toInt = 46 := by decide
  refine lv_aload_n hx hb d_DiscMaker_isName_0 rfl (lv_at hl 0 rfl) ?_
  have hPR := RO_at hZr hS
  refine va_alen (v := nI nt) hx hb hK hPR 0 0 rfl rfl rfl d_DiscMaker_isName_1 ?_
  refine lv_topi (fun v1 e_v1 => ?_)
  have t_v1 : v1.toInt = nt := by rw [e_v1]; exact nI_toInt (by omega)
  refine lv_iconst (v := 1) hx hb d_DiscMaker_isName_2 (by decide) ?_
  refine lv_icmp_lt (tgt := 13) hx hb d_DiscMaker_isName_3 (by decide) (fun h_9 => ?_) (fun h_9 => ?_)
  · skip
    have g3_4 : v1.toInt < 1 := (i_lt rfl (by decide)).mp h_9
    refine lv_iconst (v := 0) hx hb d_DiscMaker_isName_13 (by decide) ?_
    have hP9 := hP.sub (ws' := []) [] rfl
    have hD9 := hD.sub (ws' := []) [] (by decide +kernel) rfl
    exact W.zret (v := 0) hx hb hr (by first | rfl | decide | exact i_narZ (by omega)) (fun t ht hW => ⟨⟨0, (), rfl, ⟨(by (try dsimp only); first | assumption | omega | trivial), (BoolIs.no (fun h8 => by have h9 := h8.rng; omega))⟩, by rw [ht]; exact hP9, hD9⟩, hS.F ht⟩) hS.2.2 d_DiscMaker_isName_14
  · skip
    have g3_4 : ¬ v1.toInt < 1 := fun h8 => h_9 ((i_lt rfl (by decide)).mpr h8)
    refine lv_aload_n hx hb d_DiscMaker_isName_6 rfl (lv_at hl 0 rfl) ?_
    have hPR := RO_at hZr hS
    refine va_alen (v := nI nt) hx hb hK hPR 0 0 rfl rfl rfl d_DiscMaker_isName_7 ?_
    refine lv_topi (fun v2 e_v2 => ?_)
    have t_v2 : v2.toInt = nt := by rw [e_v2]; exact nI_toInt (by omega)
    refine lv_bipush (v := 30) hx hb d_DiscMaker_isName_8 (by decide) ?_
    refine lv_icmp_le (tgt := 15) hx hb d_DiscMaker_isName_10 (by decide) (fun h_9 => ?_) (fun h_9 => ?_)
    · skip
      have g10_10 : v2.toInt ≤ 30 := (i_le rfl (by decide)).mp h_9
      refine lv_iconst (v := 0) hx hb d_DiscMaker_isName_15 (by decide) ?_
      refine lv_istore_n hx hb d_DiscMaker_isName_16 rfl hl (by decide) rfl (fun ls hl => ?_)
      have hl : lv_has ls 3 [(1, .int 0), (0, .ref tt)] := hl
      refine lv_iconst (v := 0) hx hb d_DiscMaker_isName_17 (by decide) ?_
      refine lv_istore_n hx hb d_DiscMaker_isName_18 rfl hl (by decide) rfl (fun ls hl => ?_)
      have hl : lv_has ls 3 [(2, .int 0), (1, .int 0), (0, .ref tt)] := hl
      refine zz_labM (B := fun (lk : Nat) (K : Heap → List Loc → Array Slot → List Value → Prop) => ∀ (dt : Int32) (kx : Int32) (H : Heap) (locs : List Loc) (ls : Array Slot), lk = (nt - kx.toInt).toNat → (0 ≤ kx.toInt ∧ kx.toInt ≤ nt) → (0 ≤ dt.toInt ∧ dt.toInt ≤ kx.toInt) → (∀ j : Nat, (j : Int) < kx.toInt → nch (gv j).toInt) → (DotC dt.toInt kx.toInt gv) → va_P D CL [] H → va_D A [] → va_S A s.heap H locs → lv_has ls 3 [(0, .ref tt), (1, .int dt), (2, .int kx)] → K H locs ls []) 19 ?_ ?_
      · skip
        intro lk ih19 dt kx H locs ls hm19 e1 e2 e4 e5 hP hD hS hl
        refine lv_iload_n hx hb d_DiscMaker_isName_19 rfl (lv_at hl 2 rfl) ?_
        refine lv_aload_n hx hb d_DiscMaker_isName_20 rfl (lv_at hl 0 rfl) ?_
        have hPR := RO_at hZr hS
        refine va_alen (v := nI nt) hx hb hK hPR 0 0 rfl rfl rfl d_DiscMaker_isName_21 ?_
        refine lv_topi (fun v3 e_v3 => ?_)
        have t_v3 : v3.toInt = nt := by rw [e_v3]; exact nI_toInt (by omega)
        refine lv_icmp_ge (tgt := 58) hx hb d_DiscMaker_isName_22 (by decide) (fun h_9 => ?_) (fun h_9 => ?_)
        · skip
          have g22_18 : v3.toInt ≤ kx.toInt := (i_le rfl rfl).mp h_9
          refine lv_aload_n hx hb d_DiscMaker_isName_58 rfl (lv_at hl 0 rfl) ?_
          have hPR := RO_at hZr hS
          refine va_alen (v := nI nt) hx hb hK hPR 0 0 rfl rfl rfl d_DiscMaker_isName_59 ?_
          refine lv_topi (fun v4 e_v4 => ?_)
          have t_v4 : v4.toInt = nt := by rw [e_v4]; exact nI_toInt (by omega)
          refine lv_iconst (v := 2) hx hb d_DiscMaker_isName_60 (by decide) ?_
          refine lv_icmp_gt (tgt := 70) hx hb d_DiscMaker_isName_61 (by decide) (fun h_9 => ?_) (fun h_9 => ?_)
          · skip
            have g61_22 : 2 < v4.toInt := (i_lt (by decide) rfl).mp h_9
            refine lv_iconst (v := 1) hx hb d_DiscMaker_isName_70 (by decide) ?_
            refine lv_goto (tgt := 75) hx hb d_DiscMaker_isName_71 (by decide) ?_
            have hP9 := hP.sub (ws' := []) [] rfl
            have hD9 := hD.sub (ws' := []) [] (by decide +kernel) rfl
            exact W.zret (v := 1) hx hb hr (by first | rfl | decide | exact i_narZ (by omega)) (fun t ht hW => ⟨⟨1, (), rfl, ⟨(by (try dsimp only); first | assumption | omega | trivial), (BoolIs.yes (by (have h9 : kx.toInt = (nt : Int) := by omega); rw [h9] at e4 e5; exact NameP_of (by omega) e4 e5 (by omega)))⟩, by rw [ht]; exact hP9, hD9⟩, hS.F ht⟩) hS.2.2 d_DiscMaker_isName_75
          · skip
            have g61_22 : ¬ 2 < v4.toInt := fun h8 => h_9 ((i_lt (by decide) rfl).mpr h8)
            refine lv_iload_n hx hb d_DiscMaker_isName_64 rfl (lv_at hl 1 rfl) ?_
            refine lv_aload_n hx hb d_DiscMaker_isName_65 rfl (lv_at hl 0 rfl) ?_
            have hPR := RO_at hZr hS
            refine va_alen (v := nI nt) hx hb hK hPR 0 0 rfl rfl rfl d_DiscMaker_isName_66 ?_
            refine lv_topi (fun v5 e_v5 => ?_)
            have t_v5 : v5.toInt = nt := by rw [e_v5]; exact nI_toInt (by omega)
            refine lv_icmp_ge (tgt := 74) hx hb d_DiscMaker_isName_67 (by decide) (fun h_9 => ?_) (fun h_9 => ?_)
            · skip
              have g67_29 : v5.toInt ≤ dt.toInt := (i_le rfl rfl).mp h_9
              refine lv_iconst (v := 0) hx hb d_DiscMaker_isName_74 (by decide) ?_
              have hP9 := hP.sub (ws' := []) [] rfl
              have hD9 := hD.sub (ws' := []) [] (by decide +kernel) rfl
              exact W.zret (v := 0) hx hb hr (by first | rfl | decide | exact i_narZ (by omega)) (fun t ht hW => ⟨⟨0, (), rfl, ⟨(by (try dsimp only); first | assumption | omega | trivial), (BoolIs.no (by (have h9 : kx.toInt = (nt : Int) := by omega); rw [h9] at e5; exact NameP_not e5 (by omega) (by omega)))⟩, by rw [ht]; exact hP9, hD9⟩, hS.F ht⟩) hS.2.2 d_DiscMaker_isName_75
            · skip
              have g67_29 : ¬ v5.toInt ≤ dt.toInt := fun h8 => h_9 ((i_le rfl rfl).mpr h8)
              refine lv_iconst (v := 1) hx hb d_DiscMaker_isName_70 (by decide) ?_
              refine lv_goto (tgt := 75) hx hb d_DiscMaker_isName_71 (by decide) ?_
              have hP9 := hP.sub (ws' := []) [] rfl
              have hD9 := hD.sub (ws' := []) [] (by decide +kernel) rfl
              exact W.zret (v := 1) hx hb hr (by first | rfl | decide | exact i_narZ (by omega)) (fun t ht hW => ⟨⟨1, (), rfl, ⟨(by (try dsimp only); first | assumption | omega | trivial), (BoolIs.yes (by (have h9 : kx.toInt = (nt : Int) := by omega); rw [h9] at e4 e5; exact NameP_of (by omega) e4 e5 (by omega)))⟩, by rw [ht]; exact hP9, hD9⟩, hS.F ht⟩) hS.2.2 d_DiscMaker_isName_75
        · skip
          have g22_18 : ¬ v3.toInt ≤ kx.toInt := fun h8 => h_9 ((i_le rfl rfl).mpr h8)
          refine lv_aload_n hx hb d_DiscMaker_isName_25 rfl (lv_at hl 0 rfl) ?_
          refine lv_iload_n hx hb d_DiscMaker_isName_26 rfl (lv_at hl 2 rfl) ?_
          have hPR := RO_at hZr hS
          refine va_bald hx hb hK hPR 0 0 rfl rfl (vp_in_iff.mpr ⟨by omega, by omega⟩) d_DiscMaker_isName_27 ?_
          refine lv_topi (fun v6 e_v6 => ?_)
          have hPc := hP.sub (ws' := []) [] rfl
          have hDc := hD.sub (ws' := []) [] (by decide +kernel) rfl
          have hFc := va_free (wc := []) hD hS hA [] rfl
          have hkc : 0 ≤ 0 := by decide
          have hks : 0 ≤ 0 := by decide
          refine va_calli (va_runS (As := [.int v6]) (rest := []) ⟨hx, hb, hml, hown, hts⟩ (c3_isNameCharacter l D cB cI cJ cZ cN cF H.size v6) (cwS 1 hts (lg_goodS k806 k807 k115 kc_DiscMaker_isNameCharacter) rfl rfl rfl (by decide +kernel) ⟨Nat.le_of_ble_eq_true rfl, Nat.le_of_ble_eq_true rfl⟩) ⟨fun a U g mk q => by obtain ⟨q0, q1, qP, qK, qN, qD⟩ := q; exact ⟨q0, q1, qP, va_K.moved (u := U) (U := U.calling g mk a) (Vm.Alike.refl U.vm) qK, qN.calling, qD⟩, fun U hU hW => ⟨rfl, by rw [hU], by rw [hU]; exact hPc, va_K.moved hW.alike hK, NN.warm hW hN, hDc.weaken (fun _ _ _ _ => trivial)⟩⟩ rfl rfl hl.1 rfl (lv_room (Nat.le_of_ble_eq_true rfl)) d_DiscMaker_isName_28 ⟨hkc, hks⟩) hS (fun q _ h => hFc q h) hFc (fun r7 u t H1 locs ht hvm hp_r7 hB hz1 hk1 hS => ?_)
          obtain ⟨hP1, hD1⟩ := hB
          rw [ht] at hP1
          obtain ⟨hP, hD⟩ := va_join (wr := []) (w1 := []) hP hD [] [] rfl rfl (by decide +kernel) (by decide +kernel) hk1 hFc hP1 hD1
          clear hPc hDc hFc hP1 hD1 hk1 hz1 hkc hks
          generalize H1 = H at hP hS ⊢
          have hP : va_P D CL [] H := hP
          have hD : va_D A [] := hD
          try dsimp only at hp_r7
          obtain ⟨hr_8, hd_9⟩ := hp_r7
          refine lv_if_ne (tgt := 36) hx hb d_DiscMaker_isName_31 (by decide) (fun h_9 => ?_) (fun h_9 => ?_)
          · skip
            have g31_39 : ¬ r7.toInt = 0 := fun h8 => h_9 ((i_eq rfl (by decide)).mpr h8)
            refine zz_labM (B := fun (lk : Nat) (K : Heap → List Loc → Array Slot → List Value → Prop) => ∀ (ic : Int32) (H : Heap) (locs : List Loc) (ls : Array Slot), lk = 0 → (0 ≤ ic.toInt ∧ ic.toInt ≤ 1) → ((ic.toInt = 1 ∧ (gv kx.toNatClampNeg).toInt = 46) ∨ (ic.toInt = 0 ∧ (gv kx.toNatClampNeg).toInt ≠ 46)) → va_P D CL [] H → va_D A [] → va_S A s.heap H locs → lv_has ls 3 [(0, .ref tt), (1, .int dt), (2, .int kx)] → K H locs ls [.int ic, .int dt]) 50 ?_ ?_
            · skip
              intro lk ih50 ic H locs ls hm50 e3 e6 hP hD hS hl
              refine lv_iadd hx hb d_DiscMaker_isName_50 ?_
              refine lv_topi (fun v10 e_v10 => ?_)
              have t_v10 : v10.toInt = dt.toInt + ic.toInt := by rw [e_v10]; exact i_add rfl rfl (by omega) (by omega)
              refine lv_istore_n hx hb d_DiscMaker_isName_51 rfl hl (by decide) rfl (fun ls hl => ?_)
              have hl : lv_has ls 3 [(1, .int v10), (0, .ref tt), (2, .int kx)] := hl
              obtain ⟨v11, e_v11⟩ : ∃ z : Int32, z = kx + 1 := ⟨_, rfl⟩
              refine lv_iinc (v := v11) hx hb d_DiscMaker_isName_52 hl (k := 2) rfl e_v11.symm (by decide +kernel) rfl (fun ls hl => ?_)
              have t_v11 : v11.toInt = kx.toInt + 1 := by rw [e_v11]; exact i_add rfl (by decide) (by omega) (by omega)
              have hl : lv_has ls 3 [(2, .int v11), (1, .int v10), (0, .ref tt)] := hl
              refine lv_goto (tgt := 19) hx hb d_DiscMaker_isName_55 (by decide) ?_
              have hP := hP.sub (ws' := []) [] rfl
              have hD := hD.sub (ws' := []) [] (by decide +kernel) rfl
              have hl := lv_sub hl [2, 1, 0] rfl
              exact ih19 _ (by first | omega | (dsimp only; omega)) v10 v11 _ _ _ rfl ((by (try dsimp only); first | assumption | omega | trivial)) ((by (try dsimp only); first | assumption | omega | trivial)) ((fun j hj => (Decidable.em (j = kx.toNatClampNeg)).elim (fun e => by subst e; rw [← e_v6]; exact hd_9.t (by omega)) (fun e => e4 j (by have := i_cl (a := kx) (by omega); omega)))) ((DotC_step e5 (by omega) (show v10.toInt = dt.toInt + ic.toInt by omega) (by omega) e6)) hP hD hS hl
            · skip
              intro kk50
              refine lv_iload_n hx hb d_DiscMaker_isName_36 rfl (lv_at hl 1 rfl) ?_
              refine lv_aload_n hx hb d_DiscMaker_isName_37 rfl (lv_at hl 0 rfl) ?_
              refine lv_iload_n hx hb d_DiscMaker_isName_38 rfl (lv_at hl 2 rfl) ?_
              have hPR := RO_at hZr hS
              refine va_bald hx hb hK hPR 0 0 rfl rfl (vp_in_iff.mpr ⟨by omega, by omega⟩) d_DiscMaker_isName_39 ?_
              refine lv_topi (fun v12 e_v12 => ?_)
              have q_v12 : v12.toInt = v6.toInt := by rw [e_v12, e_v6]
              refine lv_bipush (v := 46) hx hb d_DiscMaker_isName_40 (by decide) ?_
              refine lv_icmp_ne (tgt := 49) hx hb d_DiscMaker_isName_42 (by decide) (fun h_9 => ?_) (fun h_9 => ?_)
              · skip
                have g42_50 : ¬ v12.toInt = 46 := fun h8 => h_9 ((i_eq rfl (by decide)).mpr h8)
                refine lv_iconst (v := 0) hx hb d_DiscMaker_isName_49 (by decide) ?_
                have hP := hP.sub (ws' := []) [] rfl
                have hD := hD.sub (ws' := []) [] (by decide +kernel) rfl
                have hl := lv_sub hl [0, 1, 2] rfl
                exact kk50 _ 0 _ _ _ rfl ((by (try dsimp only); first | assumption | omega | trivial)) ((by rw [← e_v6]; omega)) hP hD hS hl
              · skip
                have g42_50 : v12.toInt = 46 := (i_eq rfl (by decide)).mp h_9
                refine lv_iconst (v := 1) hx hb d_DiscMaker_isName_45 (by decide) ?_
                refine lv_goto (tgt := 50) hx hb d_DiscMaker_isName_46 (by decide) ?_
                have hP := hP.sub (ws' := []) [] rfl
                have hD := hD.sub (ws' := []) [] (by decide +kernel) rfl
                have hl := lv_sub hl [0, 1, 2] rfl
                exact kk50 _ 1 _ _ _ rfl ((by (try dsimp only); first | assumption | omega | trivial)) ((by rw [← e_v6]; omega)) hP hD hS hl
          · skip
            have g31_39 : r7.toInt = 0 := (i_eq rfl (by decide)).mp h_9
            refine lv_iconst (v := 0) hx hb d_DiscMaker_isName_34 (by decide) ?_
            have hP9 := hP.sub (ws' := []) [] rfl
            have hD9 := hD.sub (ws' := []) [] (by decide +kernel) rfl
            exact W.zret (v := 0) hx hb hr (by first | rfl | decide | exact i_narZ (by omega)) (fun t ht hW => ⟨⟨0, (), rfl, ⟨(by (try dsimp only); first | assumption | omega | trivial), (BoolIs.no (fun h8 => hd_9.f (by omega) (by rw [e_v6]; exact h8.2 kx.toNatClampNeg (by have := i_cl (a := kx) (by omega); omega))))⟩, by rw [ht]; exact hP9, hD9⟩, hS.F ht⟩) hS.2.2 d_DiscMaker_isName_35
      · skip
        intro kk19
        have hP := hP.sub (ws' := []) [] rfl
        have hD := hD.sub (ws' := []) [] (by decide +kernel) rfl
        have hl := lv_sub hl [2, 1, 0] rfl
        exact kk19 _ 0 0 _ _ _ rfl ((by (try dsimp only); first | assumption | omega | trivial)) ((by (try dsimp only); first | assumption | omega | trivial)) ((fun j hj => absurd hj (by omega))) ((by rw [L_0]; exact DotC_0)) hP hD hS hl
    · skip
      have g10_10 : ¬ v2.toInt ≤ 30 := fun h8 => h_9 ((i_le rfl (by decide)).mpr h8)
      refine lv_iconst (v := 0) hx hb d_DiscMaker_isName_13 (by decide) ?_
      have hP9 := hP.sub (ws' := []) [] rfl
      have hD9 := hD.sub (ws' := []) [] (by decide +kernel) rfl
      exact W.zret (v := 0) hx hb hr (by first | rfl | decide | exact i_narZ (by omega)) (fun t ht hW => ⟨⟨0, (), rfl, ⟨(by (try dsimp only); first | assumption | omega | trivial), (BoolIs.no (fun h8 => by have h9 := h8.rng; omega))⟩, by rw [ht]; exact hP9, hD9⟩, hS.F ht⟩) hS.2.2 d_DiscMaker_isName_14

theorem d_DiscMaker_isTarget_0 : decode b_DiscMaker_isTarget 0 = .ok (.aload_n 0, 1) := by decide +kernel
theorem d_DiscMaker_isTarget_1 : decode b_DiscMaker_isTarget 1 = .ok (.arraylength, 1) := by decide +kernel
theorem d_DiscMaker_isTarget_2 : decode b_DiscMaker_isTarget 2 = .ok (.iconst 1, 1) := by decide +kernel
theorem d_DiscMaker_isTarget_3 : decode b_DiscMaker_isTarget 3 = .ok (.if_icmp .lt 11, 3) := by decide +kernel
theorem d_DiscMaker_isTarget_6 : decode b_DiscMaker_isTarget 6 = .ok (.aload_n 0, 1) := by decide +kernel
theorem d_DiscMaker_isTarget_7 : decode b_DiscMaker_isTarget 7 = .ok (.arraylength, 1) := by decide +kernel
theorem d_DiscMaker_isTarget_8 : decode b_DiscMaker_isTarget 8 = .ok (.sipush 200, 3) := by decide +kernel
theorem d_DiscMaker_isTarget_11 : decode b_DiscMaker_isTarget 11 = .ok (.if_icmp .le 5, 3) := by decide +kernel
theorem d_DiscMaker_isTarget_14 : decode b_DiscMaker_isTarget 14 = .ok (.iconst 0, 1) := by decide +kernel
theorem d_DiscMaker_isTarget_15 : decode b_DiscMaker_isTarget 15 = .ok (.ireturn, 1) := by decide +kernel
theorem d_DiscMaker_isTarget_16 : decode b_DiscMaker_isTarget 16 = .ok (.iconst 0, 1) := by decide +kernel
theorem d_DiscMaker_isTarget_17 : decode b_DiscMaker_isTarget 17 = .ok (.istore_n 1, 1) := by decide +kernel
theorem d_DiscMaker_isTarget_18 : decode b_DiscMaker_isTarget 18 = .ok (.iload_n 1, 1) := by decide +kernel
theorem d_DiscMaker_isTarget_19 : decode b_DiscMaker_isTarget 19 = .ok (.aload_n 0, 1) := by decide +kernel
theorem d_DiscMaker_isTarget_20 : decode b_DiscMaker_isTarget 20 = .ok (.arraylength, 1) := by decide +kernel
theorem d_DiscMaker_isTarget_21 : decode b_DiscMaker_isTarget 21 = .ok (.if_icmp .ge 27, 3) := by decide +kernel
theorem d_DiscMaker_isTarget_24 : decode b_DiscMaker_isTarget 24 = .ok (.aload_n 0, 1) := by decide +kernel
theorem d_DiscMaker_isTarget_25 : decode b_DiscMaker_isTarget 25 = .ok (.iload_n 1, 1) := by decide +kernel
theorem d_DiscMaker_isTarget_26 : decode b_DiscMaker_isTarget 26 = .ok (.baload, 1) := by decide +kernel
theorem d_DiscMaker_isTarget_27 : decode b_DiscMaker_isTarget 27 = .ok (.bipush 33, 2) := by decide +kernel
theorem d_DiscMaker_isTarget_29 : decode b_DiscMaker_isTarget 29 = .ok (.if_icmp .lt 11, 3) := by decide +kernel
theorem d_DiscMaker_isTarget_32 : decode b_DiscMaker_isTarget 32 = .ok (.aload_n 0, 1) := by decide +kernel
theorem d_DiscMaker_isTarget_33 : decode b_DiscMaker_isTarget 33 = .ok (.iload_n 1, 1) := by decide +kernel
theorem d_DiscMaker_isTarget_34 : decode b_DiscMaker_isTarget 34 = .ok (.baload, 1) := by decide +kernel
theorem d_DiscMaker_isTarget_35 : decode b_DiscMaker_isTarget 35 = .ok (.bipush 126, 2) := by decide +kernel
theorem d_DiscMaker_isTarget_37 : decode b_DiscMaker_isTarget 37 = .ok (.if_icmp .le 5, 3) := by decide +kernel
theorem d_DiscMaker_isTarget_40 : decode b_DiscMaker_isTarget 40 = .ok (.iconst 0, 1) := by decide +kernel
theorem d_DiscMaker_isTarget_41 : decode b_DiscMaker_isTarget 41 = .ok (.ireturn, 1) := by decide +kernel
theorem d_DiscMaker_isTarget_42 : decode b_DiscMaker_isTarget 42 = .ok (.iinc 1 1, 3) := by decide +kernel
theorem d_DiscMaker_isTarget_45 : decode b_DiscMaker_isTarget 45 = .ok (.goto (-27), 3) := by decide +kernel
theorem d_DiscMaker_isTarget_48 : decode b_DiscMaker_isTarget 48 = .ok (.iconst 1, 1) := by decide +kernel
theorem d_DiscMaker_isTarget_49 : decode b_DiscMaker_isTarget 49 = .ok (.ireturn, 1) := by decide +kernel
set_option maxHeartbeats 4000000 in
set_option maxRecDepth 100000 in
theorem c3_isTarget (l : Launch) (D : va_G) (cB cI cJ cZ cN cF : ClassId) (sz : Nat) (tt : Nat) (nt : Nat) (gv : Nat → Int32) (hnt : nt ≤ 400) : Met l y_DiscMaker_isTarget w_DiscMaker_isTarget ({ frames := 0, cells := 0, slots := 0, locals := 0 }) (va_Pc [.ref tt] (fun U => U.heap.size = sz ∧ va_P D CL [] U.heap ∧ va_K D CL (TY cB cI cJ cZ cN cF) U ∧ NN U ∧ va_D (fun _ => True) [] ∧ RO D [(tt, .inl (cB, nt, .inl gv))] (va_A [] sz) U U.heap)) (va_Qi (fun (r : Int32) (u : Unit) => (0 ≤ r.toInt ∧ r.toInt ≤ 1) ∧ (BoolIs r (TgtP nt gv))) (fun (u : Unit) (t : State) => match u with | () => va_P D CL [] t.heap ∧ va_D (va_A [] sz) []) (va_A [] sz)) 0 0 (va_A [] sz) := by
  refine Met.ofW (cc := b_DiscMaker_isTarget) (maxL := 2) (ret := some .boolean) (by decide +kernel) rfl ?_
  intro p e s m args below meth c s₁ B hml hv
  obtain ⟨rfl, hsz, hP, hK, hN, hD0, hZr⟩ := hv
  have hx := B.exec
  have hb := B.bytes
  have hr := B.returns
  have hts := atoms_spec (ws := w_DiscMaker_isTarget) B.pre
  have ht9 := fun (w : Cond) (h : w ∈ lw_g) => hts w (List.mem_cons_of_mem _ h)
  have hown : s.vm.findClass "DiscMaker" = some m.cls := findClass_of_methodNamed B.named
  have hlocks := B.notSynchronized
  subst hsz
  have hD := hD0.self (sz := s.heap.size)
  generalize hAe : va_A [] s.heap.size = A at hD hZr ⊢
  have hA : ∀ q : Nat, s.heap.size ≤ q → A q := fun q h => by rw [← hAe]; exact Or.inr h
  have hS : va_S A s.heap s.heap [] := va_S.rf
  have hP : va_P D CL [] s.heap := hP
  have hl := lv_entry [.ref tt] (n := 2) (Nat.le_of_ble_eq_true rfl)
  rw [lg_entry_eq]
  generalize (lg_sl [.ref tt] ++ List.replicate (2 - (lg_sl [.ref tt]).length) Slot.unset).toArray = ls at hl ⊢
  have hl : lv_has ls 2 [(0, .ref tt)] := hl
  have L_m1 : ((-1) : Int32).toInt = (-1) := by decide
  have L_0 : (0 : Int32).toInt = 0 := by decide
  have L_1 : (1 : Int32).toInt = 1 := by decide
  have L_33 : (33 : Int32).toInt = 33 := by decide
  have L_126 : (126 : Int32).toInt = 126 := by decide
  have L_200 : (200 : Int32).toInt = 200 := by decide
  refine lv_aload_n hx hb d_DiscMaker_isTarget_0 rfl (lv_at hl 0 rfl) ?_
  have hPR := RO_at hZr hS
  refine va_alen (v := nI nt) hx hb hK hPR 0 0 rfl rfl rfl d_DiscMaker_isTarget_1 ?_
  refine lv_topi (fun v1 e_v1 => ?_)
  have t_v1 : v1.toInt = nt := by rw [e_v1]; exact nI_toInt (by omega)
  refine lv_iconst (v := 1) hx hb d_DiscMaker_isTarget_2 (by decide) ?_
  refine lv_icmp_lt (tgt := 14) hx hb d_DiscMaker_isTarget_3 (by decide) (fun h_9 => ?_) (fun h_9 => ?_)
  · skip
    have g3_4 : v1.toInt < 1 := (i_lt rfl (by decide)).mp h_9
    refine lv_iconst (v := 0) hx hb d_DiscMaker_isTarget_14 (by decide) ?_
    have hP9 := hP.sub (ws' := []) [] rfl
    have hD9 := hD.sub (ws' := []) [] (by decide +kernel) rfl
    exact W.zret (v := 0) hx hb hr (by first | rfl | decide | exact i_narZ (by omega)) (fun t ht hW => ⟨⟨0, (), rfl, ⟨(by (try dsimp only); first | assumption | omega | trivial), (BoolIs.no (fun h8 => by have h9 := h8.1; omega))⟩, by rw [ht]; exact hP9, hD9⟩, hS.F ht⟩) hS.2.2 d_DiscMaker_isTarget_15
  · skip
    have g3_4 : ¬ v1.toInt < 1 := fun h8 => h_9 ((i_lt rfl (by decide)).mpr h8)
    refine lv_aload_n hx hb d_DiscMaker_isTarget_6 rfl (lv_at hl 0 rfl) ?_
    have hPR := RO_at hZr hS
    refine va_alen (v := nI nt) hx hb hK hPR 0 0 rfl rfl rfl d_DiscMaker_isTarget_7 ?_
    refine lv_topi (fun v2 e_v2 => ?_)
    have t_v2 : v2.toInt = nt := by rw [e_v2]; exact nI_toInt (by omega)
    refine lv_sipush (v := 200) hx hb d_DiscMaker_isTarget_8 (by decide) ?_
    refine lv_icmp_le (tgt := 16) hx hb d_DiscMaker_isTarget_11 (by decide) (fun h_9 => ?_) (fun h_9 => ?_)
    · skip
      have g11_10 : v2.toInt ≤ 200 := (i_le rfl (by decide)).mp h_9
      refine lv_iconst (v := 0) hx hb d_DiscMaker_isTarget_16 (by decide) ?_
      refine lv_istore_n hx hb d_DiscMaker_isTarget_17 rfl hl (by decide) rfl (fun ls hl => ?_)
      have hl : lv_has ls 2 [(1, .int 0), (0, .ref tt)] := hl
      refine zz_labM (B := fun (lk : Nat) (K : Heap → List Loc → Array Slot → List Value → Prop) => ∀ (kx : Int32) (H : Heap) (locs : List Loc) (ls : Array Slot), lk = (nt - kx.toInt).toNat → (0 ≤ kx.toInt ∧ kx.toInt ≤ nt) → (∀ j : Nat, (j : Int) < kx.toInt → 33 ≤ (gv j).toInt ∧ (gv j).toInt ≤ 126) → va_P D CL [] H → va_D A [] → va_S A s.heap H locs → lv_has ls 2 [(0, .ref tt), (1, .int kx)] → K H locs ls []) 18 ?_ ?_
      · skip
        intro lk ih18 kx H locs ls hm18 e1 e2 hP hD hS hl
        refine lv_iload_n hx hb d_DiscMaker_isTarget_18 rfl (lv_at hl 1 rfl) ?_
        refine lv_aload_n hx hb d_DiscMaker_isTarget_19 rfl (lv_at hl 0 rfl) ?_
        have hPR := RO_at hZr hS
        refine va_alen (v := nI nt) hx hb hK hPR 0 0 rfl rfl rfl d_DiscMaker_isTarget_20 ?_
        refine lv_topi (fun v3 e_v3 => ?_)
        have t_v3 : v3.toInt = nt := by rw [e_v3]; exact nI_toInt (by omega)
        refine lv_icmp_ge (tgt := 48) hx hb d_DiscMaker_isTarget_21 (by decide) (fun h_9 => ?_) (fun h_9 => ?_)
        · skip
          have g21_16 : v3.toInt ≤ kx.toInt := (i_le rfl rfl).mp h_9
          refine lv_iconst (v := 1) hx hb d_DiscMaker_isTarget_48 (by decide) ?_
          have hP9 := hP.sub (ws' := []) [] rfl
          have hD9 := hD.sub (ws' := []) [] (by decide +kernel) rfl
          exact W.zret (v := 1) hx hb hr (by first | rfl | decide | exact i_narZ (by omega)) (fun t ht hW => ⟨⟨1, (), rfl, ⟨(by (try dsimp only); first | assumption | omega | trivial), (BoolIs.yes ⟨by omega, fun j hj => e2 j (by omega)⟩)⟩, by rw [ht]; exact hP9, hD9⟩, hS.F ht⟩) hS.2.2 d_DiscMaker_isTarget_49
        · skip
          have g21_16 : ¬ v3.toInt ≤ kx.toInt := fun h8 => h_9 ((i_le rfl rfl).mpr h8)
          refine lv_aload_n hx hb d_DiscMaker_isTarget_24 rfl (lv_at hl 0 rfl) ?_
          refine lv_iload_n hx hb d_DiscMaker_isTarget_25 rfl (lv_at hl 1 rfl) ?_
          have hPR := RO_at hZr hS
          refine va_bald hx hb hK hPR 0 0 rfl rfl (vp_in_iff.mpr ⟨by omega, by omega⟩) d_DiscMaker_isTarget_26 ?_
          refine lv_topi (fun v4 e_v4 => ?_)
          refine lv_bipush (v := 33) hx hb d_DiscMaker_isTarget_27 (by decide) ?_
          refine lv_icmp_lt (tgt := 40) hx hb d_DiscMaker_isTarget_29 (by decide) (fun h_9 => ?_) (fun h_9 => ?_)
          · skip
            have g29_23 : v4.toInt < 33 := (i_lt rfl (by decide)).mp h_9
            refine lv_iconst (v := 0) hx hb d_DiscMaker_isTarget_40 (by decide) ?_
            have hP9 := hP.sub (ws' := []) [] rfl
            have hD9 := hD.sub (ws' := []) [] (by decide +kernel) rfl
            exact W.zret (v := 0) hx hb hr (by first | rfl | decide | exact i_narZ (by omega)) (fun t ht hW => ⟨⟨0, (), rfl, ⟨(by (try dsimp only); first | assumption | omega | trivial), (BoolIs.no (fun h8 => by (have h9 := h8.2 kx.toNatClampNeg (by have := i_cl (a := kx) (by omega); omega)); rw [← e_v4] at h9; omega))⟩, by rw [ht]; exact hP9, hD9⟩, hS.F ht⟩) hS.2.2 d_DiscMaker_isTarget_41
          · skip
            have g29_23 : ¬ v4.toInt < 33 := fun h8 => h_9 ((i_lt rfl (by decide)).mpr h8)
            refine lv_aload_n hx hb d_DiscMaker_isTarget_32 rfl (lv_at hl 0 rfl) ?_
            refine lv_iload_n hx hb d_DiscMaker_isTarget_33 rfl (lv_at hl 1 rfl) ?_
            have hPR := RO_at hZr hS
            refine va_bald hx hb hK hPR 0 0 rfl rfl (vp_in_iff.mpr ⟨by omega, by omega⟩) d_DiscMaker_isTarget_34 ?_
            refine lv_topi (fun v5 e_v5 => ?_)
            have q_v5 : v5.toInt = v4.toInt := by rw [e_v5, e_v4]
            refine lv_bipush (v := 126) hx hb d_DiscMaker_isTarget_35 (by decide) ?_
            refine lv_icmp_le (tgt := 42) hx hb d_DiscMaker_isTarget_37 (by decide) (fun h_9 => ?_) (fun h_9 => ?_)
            · skip
              have g37_30 : v5.toInt ≤ 126 := (i_le rfl (by decide)).mp h_9
              obtain ⟨v6, e_v6⟩ : ∃ z : Int32, z = kx + 1 := ⟨_, rfl⟩
              refine lv_iinc (v := v6) hx hb d_DiscMaker_isTarget_42 hl (k := 1) rfl e_v6.symm (by decide +kernel) rfl (fun ls hl => ?_)
              have t_v6 : v6.toInt = kx.toInt + 1 := by rw [e_v6]; exact i_add rfl (by decide) (by omega) (by omega)
              have hl : lv_has ls 2 [(1, .int v6), (0, .ref tt)] := hl
              refine lv_goto (tgt := 18) hx hb d_DiscMaker_isTarget_45 (by decide) ?_
              have hP := hP.sub (ws' := []) [] rfl
              have hD := hD.sub (ws' := []) [] (by decide +kernel) rfl
              have hl := lv_sub hl [1, 0] rfl
              exact ih18 _ (by first | omega | (dsimp only; omega)) v6 _ _ _ rfl ((by (try dsimp only); first | assumption | omega | trivial)) ((fun j hj => (Decidable.em (j = kx.toNatClampNeg)).elim (fun e => by subst e; rw [← e_v4]; omega) (fun e => e2 j (by have := i_cl (a := kx) (by omega); omega)))) hP hD hS hl
            · skip
              have g37_30 : ¬ v5.toInt ≤ 126 := fun h8 => h_9 ((i_le rfl (by decide)).mpr h8)
              refine lv_iconst (v := 0) hx hb d_DiscMaker_isTarget_40 (by decide) ?_
              have hP9 := hP.sub (ws' := []) [] rfl
              have hD9 := hD.sub (ws' := []) [] (by decide +kernel) rfl
              exact W.zret (v := 0) hx hb hr (by first | rfl | decide | exact i_narZ (by omega)) (fun t ht hW => ⟨⟨0, (), rfl, ⟨(by (try dsimp only); first | assumption | omega | trivial), (BoolIs.no (fun h8 => by (have h9 := h8.2 kx.toNatClampNeg (by have := i_cl (a := kx) (by omega); omega)); rw [← e_v4] at h9; omega))⟩, by rw [ht]; exact hP9, hD9⟩, hS.F ht⟩) hS.2.2 d_DiscMaker_isTarget_41
      · skip
        intro kk18
        have hP := hP.sub (ws' := []) [] rfl
        have hD := hD.sub (ws' := []) [] (by decide +kernel) rfl
        have hl := lv_sub hl [1, 0] rfl
        exact kk18 _ 0 _ _ _ rfl ((by (try dsimp only); first | assumption | omega | trivial)) ((fun j hj => absurd hj (by omega))) hP hD hS hl
    · skip
      have g11_10 : ¬ v2.toInt ≤ 200 := fun h8 => h_9 ((i_le rfl (by decide)).mpr h8)
      refine lv_iconst (v := 0) hx hb d_DiscMaker_isTarget_14 (by decide) ?_
      have hP9 := hP.sub (ws' := []) [] rfl
      have hD9 := hD.sub (ws' := []) [] (by decide +kernel) rfl
      exact W.zret (v := 0) hx hb hr (by first | rfl | decide | exact i_narZ (by omega)) (fun t ht hW => ⟨⟨0, (), rfl, ⟨(by (try dsimp only); first | assumption | omega | trivial), (BoolIs.no (fun h8 => by have h9 := h8.1; omega))⟩, by rw [ht]; exact hP9, hD9⟩, hS.F ht⟩) hS.2.2 d_DiscMaker_isTarget_15

theorem d_DiscMaker_feed_0 : decode b_DiscMaker_feed 0 = .ok (.aload_n 0, 1) := by decide +kernel
theorem d_DiscMaker_feed_1 : decode b_DiscMaker_feed 1 = .ok (.getfield 10, 3) := by decide +kernel
theorem d_DiscMaker_feed_4 : decode b_DiscMaker_feed 4 = .ok (.iload_n 1, 1) := by decide +kernel
theorem d_DiscMaker_feed_5 : decode b_DiscMaker_feed 5 = .ok (.iload_n 2, 1) := by decide +kernel
theorem d_DiscMaker_feed_6 : decode b_DiscMaker_feed 6 = .ok (.iload_n 3, 1) := by decide +kernel
theorem d_DiscMaker_feed_7 : decode b_DiscMaker_feed 7 = .ok (.iload 4, 2) := by decide +kernel
theorem d_DiscMaker_feed_9 : decode b_DiscMaker_feed 9 = .ok (.iload 5, 2) := by decide +kernel
theorem d_DiscMaker_feed_11 : decode b_DiscMaker_feed 11 = .ok (.invokevirtual 50, 3) := by decide +kernel
theorem d_DiscMaker_feed_14 : decode b_DiscMaker_feed 14 = .ok (.ireturn, 1) := by decide +kernel
set_option maxHeartbeats 4000000 in
set_option maxRecDepth 100000 in
theorem c3_feed (l : Launch) (D : va_G) (cB cI cJ cZ cN cF : ClassId) (sz : Nat) (d0 : Nat) (tx : Nat) (tr : Nat) (im : Nat) (m0 : Nat) (rd : Nat) (tq : Nat) (tL : Int32) (tf : Nat → Int32) (x1 : Int32) (x2 : Int32) (x3 : Int32) (x4 : Int32) (x5 : Int32) (htL : 0 ≤ tL.toInt ∧ tL.toInt ≤ 400) (htB : Rg (-128) 127 400 tf) : Met l y_DiscMaker_feed w_DiscMaker_feed ({ frames := 2, cells := 0, slots := 0, locals := 59 }) (va_Pc [.ref d0, .int x1, .int x2, .int x3, .int x4, .int x5] (fun U => U.heap.size = sz ∧ va_P D CL [(d0, .inr (0, [.ref tx, .ref tr, .ref im, .ref m0, .ref rd])), (tx, .inr (9, [.ref tq, .int tL])), (tq, .inl (cB, 400, .inl tf))] U.heap ∧ va_K D CL (TY cB cI cJ cZ cN cF) U ∧ NN U ∧ va_D (fun _ => True) [(d0, .inr (0, [.ref tx, .ref tr, .ref im, .ref m0, .ref rd])), (tx, .inr (9, [.ref tq, .int tL])), (tq, .inl (cB, 400, .inl tf))])) (va_Qi (fun (r : Int32) (u : Int32 × (Nat → Int32)) => match u with | (L2, g) => ((400 < tL.toInt + 20 ∧ r.toInt = 0 ∧ L2.toInt = tL.toInt) ∨ (tL.toInt + 20 ≤ 400 ∧ r.toInt = 1 ∧ L2.toInt = tL.toInt + 20)) ∧ (Rg (-128) 127 400 g) ∧ (tL.toInt + 20 ≤ 400 → FT tf g tL.toNatClampNeg 20 x1 x2 x3 x4 x5) ∧ (400 < tL.toInt + 20 → g = tf)) (fun (u : Int32 × (Nat → Int32)) (t : State) => match u with | (L2, g) => va_P D CL [(d0, .inr (0, [.ref tx, .ref tr, .ref im, .ref m0, .ref rd])), (tx, .inr (9, [.ref tq, .int L2])), (tq, .inl (cB, 400, .inl g))] t.heap ∧ va_D (va_A [(d0, .inr (0, [.ref tx, .ref tr, .ref im, .ref m0, .ref rd])), (tx, .inr (9, [.ref tq, .int tL])), (tq, .inl (cB, 400, .inl tf))] sz) [(d0, .inr (0, [.ref tx, .ref tr, .ref im, .ref m0, .ref rd])), (tx, .inr (9, [.ref tq, .int L2])), (tq, .inl (cB, 400, .inl g))]) (va_A [(d0, .inr (0, [.ref tx, .ref tr, .ref im, .ref m0, .ref rd])), (tx, .inr (9, [.ref tq, .int tL])), (tq, .inl (cB, 400, .inl tf))] sz)) 0 0 (va_A [(d0, .inr (0, [.ref tx, .ref tr, .ref im, .ref m0, .ref rd])), (tx, .inr (9, [.ref tq, .int tL])), (tq, .inl (cB, 400, .inl tf))] sz) := by
  refine Met.ofW (cc := b_DiscMaker_feed) (maxL := 6) (ret := some .boolean) (by decide +kernel) rfl ?_
  intro p e s m args below meth c s₁ B hml hv
  obtain ⟨rfl, hsz, hP, hK, hN, hD0⟩ := hv
  have hx := B.exec
  have hb := B.bytes
  have hr := B.returns
  have hts := atoms_spec (ws := w_DiscMaker_feed) B.pre
  have ht9 := fun (w : Cond) (h : w ∈ lw_g) => hts w (List.mem_cons_of_mem _ h)
  have hown : s.vm.findClass "DiscMaker" = some m.cls := findClass_of_methodNamed B.named
  have hlocks := B.notSynchronized
  subst hsz
  have hD := hD0.self (sz := s.heap.size)
  generalize hAe : va_A [(d0, .inr (0, [.ref tx, .ref tr, .ref im, .ref m0, .ref rd])), (tx, .inr (9, [.ref tq, .int tL])), (tq, .inl (cB, 400, .inl tf))] s.heap.size = A at hD ⊢
  have hA : ∀ q : Nat, s.heap.size ≤ q → A q := fun q h => by rw [← hAe]; exact Or.inr h
  have hS : va_S A s.heap s.heap [] := va_S.rf
  have hP : va_P D CL [(d0, .inr (0, [.ref tx, .ref tr, .ref im, .ref m0, .ref rd])), (tx, .inr (9, [.ref tq, .int tL])), (tq, .inl (cB, 400, .inl tf))] s.heap := hP
  have hl := lv_entry [.ref d0, .int x1, .int x2, .int x3, .int x4, .int x5] (n := 6) (Nat.le_of_ble_eq_true rfl)
  rw [lg_entry_eq]
  generalize (lg_sl [.ref d0, .int x1, .int x2, .int x3, .int x4, .int x5] ++ List.replicate (6 - (lg_sl [.ref d0, .int x1, .int x2, .int x3, .int x4, .int x5]).length) Slot.unset).toArray = ls at hl ⊢
  have hl : lv_has ls 6 [(0, .ref d0), (1, .int x1), (2, .int x2), (3, .int x3), (4, .int x4), (5, .int x5)] := hl
  have L_m1 : ((-1) : Int32).toInt = (-1) := by decide
  have L_0 : (0 : Int32).toInt = 0 := by decide
  have L_1 : (1 : Int32).toInt = 1 := by decide
  refine lv_aload_n hx hb d_DiscMaker_feed_0 rfl (lv_at hl 0 rfl) ?_
  refine va_get (D := D) (ci := 0) (v := .ref tx) (C := "DiscMaker") (T := F_DiscMaker) (N := 5) hx hb ht9 in_DiscMaker hown hK hP 0 rfl rfl 0 (by decide) (ht9 _ k431) (fun _ h9 => h9) rfl d_DiscMaker_feed_1 ?_
  refine lv_iload_n hx hb d_DiscMaker_feed_4 rfl (lv_at hl 1 rfl) ?_
  refine lv_iload_n hx hb d_DiscMaker_feed_5 rfl (lv_at hl 2 rfl) ?_
  refine lv_iload_n hx hb d_DiscMaker_feed_6 rfl (lv_at hl 3 rfl) ?_
  refine lv_iload hx hb d_DiscMaker_feed_7 (lv_at hl 4 rfl) ?_
  refine lv_iload hx hb d_DiscMaker_feed_9 (lv_at hl 5 rfl) ?_
  have hPc := hP.sub (ws' := [(tx, .inr (9, [.ref tq, .int tL])), (tq, .inl (cB, 400, .inl tf))]) [1, 2] rfl
  have hDc := hD.sub (ws' := [(tx, .inr (9, [.ref tq, .int tL])), (tq, .inl (cB, 400, .inl tf))]) [1, 2] (by decide +kernel) rfl
  have hFc := va_free (wc := [(tx, .inr (9, [.ref tq, .int tL])), (tq, .inl (cB, 400, .inl tf))]) hD hS hA [1, 2] rfl
  have hkc : 0 ≤ 0 := by decide
  have hks : 0 ≤ 0 := by decide
  refine va_calli (va_runV (C := "DiscMaker$Text") (As := [.int x1, .int x2, .int x3, .int x4, .int x5]) (rest := []) ⟨hx, hb, hml, hown, hts⟩ (c3_append l D cB cI cJ cZ cN cF s.heap.size tx tq tL tf x1 x2 x3 x4 x5 (by (try dsimp only); first | assumption | omega | trivial) (by (try dsimp only); first | assumption | omega | trivial)) (cwV 5 hts (lg_goodV k451 k452 k453 k116 kc_Text_append) rfl rfl rfl (by decide +kernel) ⟨Nat.le_of_ble_eq_true rfl, Nat.le_of_ble_eq_true rfl⟩) ⟨fun a U g mk q => by obtain ⟨q0, q1, qP, qK, qN, qD⟩ := q; exact ⟨q0, q1, qP, va_K.moved (u := U) (U := U.calling g mk a) (Vm.Alike.refl U.vm) qK, qN.calling, qD⟩, va_recv hK hP (ci := 9) (q0 := 1) rfl rfl, fun U hU hW => ⟨rfl, by rw [hU], by rw [hU]; exact hPc, va_K.moved hW.alike hK, NN.warm hW hN, hDc.weaken (fun _ _ _ _ => trivial)⟩⟩ rfl rfl hl.1 rfl (lv_room (Nat.le_of_ble_eq_true rfl)) d_DiscMaker_feed_11 ⟨hkc, hks⟩) hS (fun q _ h => hFc q h) hFc (fun r1 u t H1 locs ht hvm hp_r1 hB hz1 hk1 hS => ?_)
  obtain ⟨L2_2, g_3⟩ := u
  obtain ⟨hP1, hD1⟩ := hB
  rw [ht] at hP1
  obtain ⟨hP, hD⟩ := va_join (wr := [(d0, .inr (0, [.ref tx, .ref tr, .ref im, .ref m0, .ref rd]))]) (w1 := [(tx, .inr (9, [.ref tq, .int L2_2])), (tq, .inl (cB, 400, .inl g_3))]) hP hD [1, 2] [0] rfl rfl (by decide +kernel) (by decide +kernel) hk1 hFc hP1 hD1
  clear hPc hDc hFc hP1 hD1 hk1 hz1 hkc hks
  generalize H1 = H at hP hS ⊢
  have hP : va_P D CL [(d0, .inr (0, [.ref tx, .ref tr, .ref im, .ref m0, .ref rd])), (tx, .inr (9, [.ref tq, .int L2_2])), (tq, .inl (cB, 400, .inl g_3))] H := hP
  have hD : va_D A [(d0, .inr (0, [.ref tx, .ref tr, .ref im, .ref m0, .ref rd])), (tx, .inr (9, [.ref tq, .int L2_2])), (tq, .inl (cB, 400, .inl g_3))] := hD
  try dsimp only at hp_r1
  obtain ⟨hf_4, hB2_5, hT_6, hT0_7⟩ := hp_r1
  have hP9 := hP.sub (ws' := [(d0, .inr (0, [.ref tx, .ref tr, .ref im, .ref m0, .ref rd])), (tx, .inr (9, [.ref tq, .int L2_2])), (tq, .inl (cB, 400, .inl g_3))]) [0, 1, 2] rfl
  have hD9 := hD.sub (ws' := [(d0, .inr (0, [.ref tx, .ref tr, .ref im, .ref m0, .ref rd])), (tx, .inr (9, [.ref tq, .int L2_2])), (tq, .inl (cB, 400, .inl g_3))]) [0, 1, 2] (by decide +kernel) rfl
  exact W.zret (v := r1) hx hb hr (by first | rfl | decide | exact i_narZ (by omega)) (fun t ht hW => ⟨⟨r1, (L2_2, g_3), rfl, ⟨(by (try dsimp only); first | assumption | omega | trivial), hB2_5, hT_6, hT0_7⟩, by rw [ht]; exact hP9, hD9⟩, hS.F ht⟩) hS.2.2 d_DiscMaker_feed_14

theorem d_DiscMaker_end_0 : decode b_DiscMaker_end 0 = .ok (.aload_n 0, 1) := by decide +kernel
theorem d_DiscMaker_end_1 : decode b_DiscMaker_end 1 = .ok (.getfield 10, 3) := by decide +kernel
theorem d_DiscMaker_end_4 : decode b_DiscMaker_end 4 = .ok (.iload_n 1, 1) := by decide +kernel
theorem d_DiscMaker_end_5 : decode b_DiscMaker_end 5 = .ok (.invokevirtual 54, 3) := by decide +kernel
theorem d_DiscMaker_end_8 : decode b_DiscMaker_end 8 = .ok (.ireturn, 1) := by decide +kernel
set_option maxHeartbeats 4000000 in
set_option maxRecDepth 100000 in
theorem c3_end (l : Launch) (D : va_G) (cB cI cJ cZ cN cF : ClassId) (sz : Nat) (d0 : Nat) (tx : Nat) (tr : Nat) (im : Nat) (m0 : Nat) (rd : Nat) (tq : Nat) (tL : Int32) (tf : Nat → Int32) (x : Int32) (htL : 0 ≤ tL.toInt ∧ tL.toInt ≤ 400) (htB : Rg (-128) 127 400 tf) : Met l y_DiscMaker_end w_DiscMaker_end ({ frames := 1, cells := 0, slots := 0, locals := 27 }) (va_Pc [.ref d0, .int x] (fun U => U.heap.size = sz ∧ va_P D CL [(d0, .inr (0, [.ref tx, .ref tr, .ref im, .ref m0, .ref rd])), (tx, .inr (9, [.ref tq, .int tL])), (tq, .inl (cB, 400, .inl tf))] U.heap ∧ va_K D CL (TY cB cI cJ cZ cN cF) U ∧ NN U ∧ va_D (fun _ => True) [(d0, .inr (0, [.ref tx, .ref tr, .ref im, .ref m0, .ref rd])), (tx, .inr (9, [.ref tq, .int tL])), (tq, .inl (cB, 400, .inl tf))])) (va_Qi (fun (r : Int32) (u : Int32) => match u with | L2 => ((r.toInt = 0 ∧ L2.toInt = tL.toInt ∧ (x.toInt < 0 ∨ tL.toInt < x.toInt)) ∨ (r.toInt = 1 ∧ L2.toInt = x.toInt ∧ 0 ≤ x.toInt ∧ x.toInt ≤ tL.toInt))) (fun (u : Int32) (t : State) => match u with | L2 => va_P D CL [(d0, .inr (0, [.ref tx, .ref tr, .ref im, .ref m0, .ref rd])), (tx, .inr (9, [.ref tq, .int L2])), (tq, .inl (cB, 400, .inl tf))] t.heap ∧ va_D (va_A [(d0, .inr (0, [.ref tx, .ref tr, .ref im, .ref m0, .ref rd])), (tx, .inr (9, [.ref tq, .int tL])), (tq, .inl (cB, 400, .inl tf))] sz) [(d0, .inr (0, [.ref tx, .ref tr, .ref im, .ref m0, .ref rd])), (tx, .inr (9, [.ref tq, .int L2])), (tq, .inl (cB, 400, .inl tf))]) (va_A [(d0, .inr (0, [.ref tx, .ref tr, .ref im, .ref m0, .ref rd])), (tx, .inr (9, [.ref tq, .int tL])), (tq, .inl (cB, 400, .inl tf))] sz)) 0 0 (va_A [(d0, .inr (0, [.ref tx, .ref tr, .ref im, .ref m0, .ref rd])), (tx, .inr (9, [.ref tq, .int tL])), (tq, .inl (cB, 400, .inl tf))] sz) := by
  refine Met.ofW (cc := b_DiscMaker_end) (maxL := 2) (ret := some .boolean) (by decide +kernel) rfl ?_
  intro p e s m args below meth c s₁ B hml hv
  obtain ⟨rfl, hsz, hP, hK, hN, hD0⟩ := hv
  have hx := B.exec
  have hb := B.bytes
  have hr := B.returns
  have hts := atoms_spec (ws := w_DiscMaker_end) B.pre
  have ht9 := fun (w : Cond) (h : w ∈ lw_g) => hts w (List.mem_cons_of_mem _ h)
  have hown : s.vm.findClass "DiscMaker" = some m.cls := findClass_of_methodNamed B.named
  have hlocks := B.notSynchronized
  subst hsz
  have hD := hD0.self (sz := s.heap.size)
  generalize hAe : va_A [(d0, .inr (0, [.ref tx, .ref tr, .ref im, .ref m0, .ref rd])), (tx, .inr (9, [.ref tq, .int tL])), (tq, .inl (cB, 400, .inl tf))] s.heap.size = A at hD ⊢
  have hA : ∀ q : Nat, s.heap.size ≤ q → A q := fun q h => by rw [← hAe]; exact Or.inr h
  have hS : va_S A s.heap s.heap [] := va_S.rf
  have hP : va_P D CL [(d0, .inr (0, [.ref tx, .ref tr, .ref im, .ref m0, .ref rd])), (tx, .inr (9, [.ref tq, .int tL])), (tq, .inl (cB, 400, .inl tf))] s.heap := hP
  have hl := lv_entry [.ref d0, .int x] (n := 2) (Nat.le_of_ble_eq_true rfl)
  rw [lg_entry_eq]
  generalize (lg_sl [.ref d0, .int x] ++ List.replicate (2 - (lg_sl [.ref d0, .int x]).length) Slot.unset).toArray = ls at hl ⊢
  have hl : lv_has ls 2 [(0, .ref d0), (1, .int x)] := hl
  have L_m1 : ((-1) : Int32).toInt = (-1) := by decide
  have L_0 : (0 : Int32).toInt = 0 := by decide
  have L_1 : (1 : Int32).toInt = 1 := by decide
  refine lv_aload_n hx hb d_DiscMaker_end_0 rfl (lv_at hl 0 rfl) ?_
  refine va_get (D := D) (ci := 0) (v := .ref tx) (C := "DiscMaker") (T := F_DiscMaker) (N := 5) hx hb ht9 in_DiscMaker hown hK hP 0 rfl rfl 0 (by decide) (ht9 _ k431) (fun _ h9 => h9) rfl d_DiscMaker_end_1 ?_
  refine lv_iload_n hx hb d_DiscMaker_end_4 rfl (lv_at hl 1 rfl) ?_
  have hPc := hP.sub (ws' := [(tx, .inr (9, [.ref tq, .int tL])), (tq, .inl (cB, 400, .inl tf))]) [1, 2] rfl
  have hDc := hD.sub (ws' := [(tx, .inr (9, [.ref tq, .int tL])), (tq, .inl (cB, 400, .inl tf))]) [1, 2] (by decide +kernel) rfl
  have hFc := va_free (wc := [(tx, .inr (9, [.ref tq, .int tL])), (tq, .inl (cB, 400, .inl tf))]) hD hS hA [1, 2] rfl
  have hkc : 0 ≤ 0 := by decide
  have hks : 0 ≤ 0 := by decide
  refine va_calli (va_runV (C := "DiscMaker$Text") (As := [.int x]) (rest := []) ⟨hx, hb, hml, hown, hts⟩ (c3_Text_shorten l D cB cI cJ cZ cN cF s.heap.size tx tq tL tf x (by (try dsimp only); first | assumption | omega | trivial)) (cwV 1 hts (lg_goodV k463 k464 k465 k116 kc_Text_shorten) rfl rfl rfl (by decide +kernel) ⟨Nat.le_of_ble_eq_true rfl, Nat.le_of_ble_eq_true rfl⟩) ⟨fun a U g mk q => by obtain ⟨q0, q1, qP, qK, qN, qD⟩ := q; exact ⟨q0, q1, qP, va_K.moved (u := U) (U := U.calling g mk a) (Vm.Alike.refl U.vm) qK, qN.calling, qD⟩, va_recv hK hP (ci := 9) (q0 := 1) rfl rfl, fun U hU hW => ⟨rfl, by rw [hU], by rw [hU]; exact hPc, va_K.moved hW.alike hK, NN.warm hW hN, hDc.weaken (fun _ _ _ _ => trivial)⟩⟩ rfl rfl hl.1 rfl (lv_room (Nat.le_of_ble_eq_true rfl)) d_DiscMaker_end_5 ⟨hkc, hks⟩) hS (fun q _ h => hFc q h) hFc (fun r1 u t H1 locs ht hvm hp_r1 hB hz1 hk1 hS => ?_)
  obtain ⟨L2_2, rfl⟩ : ∃ z, z = u := ⟨_, rfl⟩
  obtain ⟨hP1, hD1⟩ := hB
  rw [ht] at hP1
  obtain ⟨hP, hD⟩ := va_join (wr := [(d0, .inr (0, [.ref tx, .ref tr, .ref im, .ref m0, .ref rd]))]) (w1 := [(tx, .inr (9, [.ref tq, .int L2_2])), (tq, .inl (cB, 400, .inl tf))]) hP hD [1, 2] [0] rfl rfl (by decide +kernel) (by decide +kernel) hk1 hFc hP1 hD1
  clear hPc hDc hFc hP1 hD1 hk1 hz1 hkc hks
  generalize H1 = H at hP hS ⊢
  have hP : va_P D CL [(d0, .inr (0, [.ref tx, .ref tr, .ref im, .ref m0, .ref rd])), (tx, .inr (9, [.ref tq, .int L2_2])), (tq, .inl (cB, 400, .inl tf))] H := hP
  have hD : va_D A [(d0, .inr (0, [.ref tx, .ref tr, .ref im, .ref m0, .ref rd])), (tx, .inr (9, [.ref tq, .int L2_2])), (tq, .inl (cB, 400, .inl tf))] := hD
  try dsimp only at hp_r1
  have hf_3 := hp_r1
  have hP9 := hP.sub (ws' := [(d0, .inr (0, [.ref tx, .ref tr, .ref im, .ref m0, .ref rd])), (tx, .inr (9, [.ref tq, .int L2_2])), (tq, .inl (cB, 400, .inl tf))]) [0, 1, 2] rfl
  have hD9 := hD.sub (ws' := [(d0, .inr (0, [.ref tx, .ref tr, .ref im, .ref m0, .ref rd])), (tx, .inr (9, [.ref tq, .int L2_2])), (tq, .inl (cB, 400, .inl tf))]) [0, 1, 2] (by decide +kernel) rfl
  exact W.zret (v := r1) hx hb hr (by first | rfl | decide | exact i_narZ (by omega)) (fun t ht hW => ⟨⟨r1, L2_2, rfl, (by (try dsimp only); first | assumption | omega | trivial), by rw [ht]; exact hP9, hD9⟩, hS.F ht⟩) hS.2.2 d_DiscMaker_end_8

theorem d_DiscMaker_grow_0 : decode b_DiscMaker_grow 0 = .ok (.aload_n 0, 1) := by decide +kernel
theorem d_DiscMaker_grow_1 : decode b_DiscMaker_grow 1 = .ok (.getfield 19, 3) := by decide +kernel
theorem d_DiscMaker_grow_4 : decode b_DiscMaker_grow 4 = .ok (.iload_n 1, 1) := by decide +kernel
theorem d_DiscMaker_grow_5 : decode b_DiscMaker_grow 5 = .ok (.invokevirtual 168, 3) := by decide +kernel
theorem d_DiscMaker_grow_8 : decode b_DiscMaker_grow 8 = .ok (.ifCond .eq 13, 3) := by decide +kernel
theorem d_DiscMaker_grow_11 : decode b_DiscMaker_grow 11 = .ok (.aload_n 2, 1) := by decide +kernel
theorem d_DiscMaker_grow_12 : decode b_DiscMaker_grow 12 = .ok (.getfield 171, 3) := by decide +kernel
theorem d_DiscMaker_grow_15 : decode b_DiscMaker_grow 15 = .ok (.invokestatic 172, 3) := by decide +kernel
theorem d_DiscMaker_grow_18 : decode b_DiscMaker_grow 18 = .ok (.ifCond .ne 6, 3) := by decide +kernel
theorem d_DiscMaker_grow_21 : decode b_DiscMaker_grow 21 = .ok (.bipush (-4), 2) := by decide +kernel
theorem d_DiscMaker_grow_23 : decode b_DiscMaker_grow 23 = .ok (.ireturn, 1) := by decide +kernel
theorem d_DiscMaker_grow_24 : decode b_DiscMaker_grow 24 = .ok (.aload_n 0, 1) := by decide +kernel
theorem d_DiscMaker_grow_25 : decode b_DiscMaker_grow 25 = .ok (.getfield 19, 3) := by decide +kernel
theorem d_DiscMaker_grow_28 : decode b_DiscMaker_grow 28 = .ok (.iload_n 1, 1) := by decide +kernel
theorem d_DiscMaker_grow_29 : decode b_DiscMaker_grow 29 = .ok (.aload_n 2, 1) := by decide +kernel
theorem d_DiscMaker_grow_30 : decode b_DiscMaker_grow 30 = .ok (.invokevirtual 175, 3) := by decide +kernel
theorem d_DiscMaker_grow_33 : decode b_DiscMaker_grow 33 = .ok (.ireturn, 1) := by decide +kernel
set_option maxHeartbeats 4000000 in
set_option maxRecDepth 100000 in
theorem c3_grow (l : Launch) (D : va_G) (cB cI cJ cZ cN cF : ClassId) (sz : Nat) (d0 : Nat) (tx : Nat) (tr : Nat) (im : Nat) (m0 : Nat) (rd : Nat) (ta : Nat) (cn : Int32) (dr : Int32) (na : Nat → Nat → Nat) (ng : Nat → Nat → Int32) (nn : Nat → Nat → Nat) (nf : Nat → Nat → Nat → Int32) (cm : Nat) (h0 : Nat) (kna : Nat) (kke : Nat) (kta : Nat) (so : Int32) (nu : Int32) (pa : Int32) (ab : Int32) (mo : Int32) (ow : Int32) (gr : Int32) (si : Int32) (sd : Int32) (l1 : Nat) (c1 : Nat → Int32) (c2 : Nat → Int32) (l3 : Nat) (c3 : Nat → Int32) (x : Int32) (hcn : cn.toInt = cm) (hcm : cm ≤ 40) (htok : TOK cm ng nn) (htoa : TOA cm ng) (hdr : 0 ≤ dr.toInt ∧ dr.toInt ≤ cn.toInt) (hso : 0 ≤ so.toInt ∧ so.toInt ≤ 2) (hsi : 0 ≤ si.toInt ∧ si.toInt ≤ 4100) (hl1 : l1 ≤ 400) (hl3 : l3 ≤ 400) (hB : Rg (-128) 127 l1 c1) : Met l y_DiscMaker_grow w_DiscMaker_grow ({ frames := 6, cells := 0, slots := 0, locals := 171 }) (va_Pc [.ref d0, .int x, .ref h0] (fun U => U.heap.size = sz ∧ va_P D CL (([(d0, .inr (0, [.ref tx, .ref tr, .ref im, .ref m0, .ref rd])), (tr, .inr (10, [.ref ta, .int cn, .int dr])), (ta, .inl (cN, 40, .inr (.inr (.inr (.inr (rowF na cm)))))), (h0, .inr (5, [.int so, .ref kna, .ref kke, .ref kta, .int nu, .int pa, .int ab, .int mo, .int ow, .int gr, .int si, .int sd])), (kna, .inl (cB, l1, .inl c1)), (kke, .inl (cB, 11, .inl c2)), (kta, .inl (cB, l3, .inl c3))] : va_W) ++ (PL (NC cB na ng nn nf) cm)) U.heap ∧ va_K D CL (TY cB cI cJ cZ cN cF) U ∧ NN U ∧ va_D (fun _ => True) (([(d0, .inr (0, [.ref tx, .ref tr, .ref im, .ref m0, .ref rd])), (tr, .inr (10, [.ref ta, .int cn, .int dr])), (ta, .inl (cN, 40, .inr (.inr (.inr (.inr (rowF na cm)))))), (h0, .inr (5, [.int so, .ref kna, .ref kke, .ref kta, .int nu, .int pa, .int ab, .int mo, .int ow, .int gr, .int si, .int sd])), (kna, .inl (cB, l1, .inl c1)), (kke, .inl (cB, 11, .inl c2)), (kta, .inl (cB, l3, .inl c3))] : va_W) ++ (PL (NC cB na ng nn nf) cm)))) (va_Qi (fun (r : Int32) (u : (Nat → Nat → Nat) × (Nat → Nat → Int32) × (Nat → Nat → Nat) × (Nat → Nat → Nat → Int32) × Nat × Int32 × Int32) => match u with | (na2, ng2, nn2, nf2, cm2, cn2, dr2) => (cn2.toInt = cm2 ∧ cm ≤ cm2 ∧ cm2 ≤ 40) ∧ (TOK cm2 ng2 nn2) ∧ (0 ≤ dr2.toInt ∧ dr2.toInt ≤ cn2.toInt) ∧ (TOA cm2 ng2) ∧ (GrowC (True) r x so mo ow gr si sd dr dr2 cm cm2 ng ng2 nn nn2 nf nf2 l1 c1 l3 c3)) (fun (u : (Nat → Nat → Nat) × (Nat → Nat → Int32) × (Nat → Nat → Nat) × (Nat → Nat → Nat → Int32) × Nat × Int32 × Int32) (t : State) => match u with | (na2, ng2, nn2, nf2, cm2, cn2, dr2) => va_P D CL (([(d0, .inr (0, [.ref tx, .ref tr, .ref im, .ref m0, .ref rd])), (tr, .inr (10, [.ref ta, .int cn2, .int dr2])), (ta, .inl (cN, 40, .inr (.inr (.inr (.inr (rowF na2 cm2))))))] : va_W) ++ (PL (NC cB na2 ng2 nn2 nf2) cm2)) t.heap ∧ va_D (va_A (([(d0, .inr (0, [.ref tx, .ref tr, .ref im, .ref m0, .ref rd])), (tr, .inr (10, [.ref ta, .int cn, .int dr])), (ta, .inl (cN, 40, .inr (.inr (.inr (.inr (rowF na cm)))))), (h0, .inr (5, [.int so, .ref kna, .ref kke, .ref kta, .int nu, .int pa, .int ab, .int mo, .int ow, .int gr, .int si, .int sd])), (kna, .inl (cB, l1, .inl c1)), (kke, .inl (cB, 11, .inl c2)), (kta, .inl (cB, l3, .inl c3))] : va_W) ++ (PL (NC cB na ng nn nf) cm)) sz) (([(d0, .inr (0, [.ref tx, .ref tr, .ref im, .ref m0, .ref rd])), (tr, .inr (10, [.ref ta, .int cn2, .int dr2])), (ta, .inl (cN, 40, .inr (.inr (.inr (.inr (rowF na2 cm2))))))] : va_W) ++ (PL (NC cB na2 ng2 nn2 nf2) cm2))) (va_A (([(d0, .inr (0, [.ref tx, .ref tr, .ref im, .ref m0, .ref rd])), (tr, .inr (10, [.ref ta, .int cn, .int dr])), (ta, .inl (cN, 40, .inr (.inr (.inr (.inr (rowF na cm)))))), (h0, .inr (5, [.int so, .ref kna, .ref kke, .ref kta, .int nu, .int pa, .int ab, .int mo, .int ow, .int gr, .int si, .int sd])), (kna, .inl (cB, l1, .inl c1)), (kke, .inl (cB, 11, .inl c2)), (kta, .inl (cB, l3, .inl c3))] : va_W) ++ (PL (NC cB na ng nn nf) cm)) sz)) 0 0 (va_A (([(d0, .inr (0, [.ref tx, .ref tr, .ref im, .ref m0, .ref rd])), (tr, .inr (10, [.ref ta, .int cn, .int dr])), (ta, .inl (cN, 40, .inr (.inr (.inr (.inr (rowF na cm)))))), (h0, .inr (5, [.int so, .ref kna, .ref kke, .ref kta, .int nu, .int pa, .int ab, .int mo, .int ow, .int gr, .int si, .int sd])), (kna, .inl (cB, l1, .inl c1)), (kke, .inl (cB, 11, .inl c2)), (kta, .inl (cB, l3, .inl c3))] : va_W) ++ (PL (NC cB na ng nn nf) cm)) sz) := by
  refine Met.ofW (cc := b_DiscMaker_grow) (maxL := 3) (ret := some .int) (by decide +kernel) rfl ?_
  intro p e s m args below meth c s₁ B hml hv
  obtain ⟨rfl, hsz, hP, hK, hN, hD0⟩ := hv
  have hx := B.exec
  have hb := B.bytes
  have hr := B.returns
  have hts := atoms_spec (ws := w_DiscMaker_grow) B.pre
  have ht9 := fun (w : Cond) (h : w ∈ lw_g) => hts w (List.mem_cons_of_mem _ h)
  have hown : s.vm.findClass "DiscMaker" = some m.cls := findClass_of_methodNamed B.named
  have hlocks := B.notSynchronized
  subst hsz
  have hD := hD0.self (sz := s.heap.size)
  generalize hAe : va_A (([(d0, .inr (0, [.ref tx, .ref tr, .ref im, .ref m0, .ref rd])), (tr, .inr (10, [.ref ta, .int cn, .int dr])), (ta, .inl (cN, 40, .inr (.inr (.inr (.inr (rowF na cm)))))), (h0, .inr (5, [.int so, .ref kna, .ref kke, .ref kta, .int nu, .int pa, .int ab, .int mo, .int ow, .int gr, .int si, .int sd])), (kna, .inl (cB, l1, .inl c1)), (kke, .inl (cB, 11, .inl c2)), (kta, .inl (cB, l3, .inl c3))] : va_W) ++ (PL (NC cB na ng nn nf) cm)) s.heap.size = A at hD ⊢
  have hA : ∀ q : Nat, s.heap.size ≤ q → A q := fun q h => by rw [← hAe]; exact Or.inr h
  have hS : va_S A s.heap s.heap [] := va_S.rf
  have hP : va_P D CL (([(d0, .inr (0, [.ref tx, .ref tr, .ref im, .ref m0, .ref rd])), (tr, .inr (10, [.ref ta, .int cn, .int dr])), (ta, .inl (cN, 40, .inr (.inr (.inr (.inr (rowF na cm)))))), (h0, .inr (5, [.int so, .ref kna, .ref kke, .ref kta, .int nu, .int pa, .int ab, .int mo, .int ow, .int gr, .int si, .int sd])), (kna, .inl (cB, l1, .inl c1)), (kke, .inl (cB, 11, .inl c2)), (kta, .inl (cB, l3, .inl c3))] : va_W) ++ (PL (NC cB na ng nn nf) cm)) s.heap := hP
  have hl := lv_entry [.ref d0, .int x, .ref h0] (n := 3) (Nat.le_of_ble_eq_true rfl)
  rw [lg_entry_eq]
  generalize (lg_sl [.ref d0, .int x, .ref h0] ++ List.replicate (3 - (lg_sl [.ref d0, .int x, .ref h0]).length) Slot.unset).toArray = ls at hl ⊢
  have hl : lv_has ls 3 [(0, .ref d0), (1, .int x), (2, .ref h0)] := hl
  have L_m4 : ((-4) : Int32).toInt = (-4) := by decide
  have L_m1 : ((-1) : Int32).toInt = (-1) := by decide
  have L_0 : (0 : Int32).toInt = 0 := by decide
  have L_1 : (1 : Int32).toInt = 1 := by decide
  refine lv_aload_n hx hb d_DiscMaker_grow_0 rfl (lv_at hl 0 rfl) ?_
  refine va_get (D := D) (ci := 0) (v := .ref tr) (C := "DiscMaker") (T := F_DiscMaker) (N := 5) hx hb ht9 in_DiscMaker hown hK hP 0 rfl rfl 1 (by decide) (ht9 _ k432) (fun _ h9 => h9) rfl d_DiscMaker_grow_1 ?_
  refine lv_iload_n hx hb d_DiscMaker_grow_4 rfl (lv_at hl 1 rfl) ?_
  have hPc := hP.sub (ws' := []) [] rfl
  have hDc := hD.sub (ws' := []) [] (by decide +kernel) rfl
  have hFc := va_free (wc := []) hD hS hA [] rfl
  have hkc : 0 ≤ 0 := by decide
  have hks : 0 ≤ 0 := by decide
  refine va_calli (va_runV (C := "DiscMaker$Tree") (As := [.int x]) (rest := []) ⟨hx, hb, hml, hown, hts⟩ (c3_hasDirectory l D cB cI cJ cZ cN cF s.heap.size tr ta cn dr na ng nn nf cm x (by (try dsimp only); first | assumption | omega | trivial) (by (try dsimp only); first | assumption | omega | trivial) (by (try dsimp only); first | assumption | omega | trivial)) (cwV 1 hts (lg_goodV k795 k796 k797 k117 kc_Tree_hasDirectory) rfl rfl rfl (by decide +kernel) ⟨Nat.le_of_ble_eq_true rfl, Nat.le_of_ble_eq_true rfl⟩) ⟨fun a U g mk q => by obtain ⟨q0, q1, qP, qK, qN, qD, qZ0⟩ := q; exact ⟨q0, q1, qP, va_K.moved (u := U) (U := U.calling g mk a) (Vm.Alike.refl U.vm) qK, qN.calling, qD, RO_blind qZ0⟩, va_recv hK hP (ci := 10) (q0 := 1) rfl rfl, fun U hU hW => ⟨rfl, by rw [hU], by rw [hU]; exact hPc, va_K.moved hW.alike hK, NN.warm hW hN, hDc.weaken (fun _ _ _ _ => trivial), (RO_app (w1 := [(tr, .inr (10, [.ref ta, .int cn, .int dr]))]) (w2 := (([(ta, .inl (cN, 40, .inr (.inr (.inr (.inr (rowF na cm))))))] : va_W) ++ (PL (NC cB na ng nn nf) cm))) (RO_mut hP hD [] rfl 1 rfl (by decide) hU) (RO_app (w1 := [(ta, .inl (cN, 40, .inr (.inr (.inr (.inr (rowF na cm))))))]) (w2 := (PL (NC cB na ng nn nf) cm)) (RO_mut hP hD [] rfl 2 rfl (by decide) hU) (RO_pool (X := [(d0, .inr (0, [.ref tx, .ref tr, .ref im, .ref m0, .ref rd])), (tr, .inr (10, [.ref ta, .int cn, .int dr])), (ta, .inl (cN, 40, .inr (.inr (.inr (.inr (rowF na cm)))))), (h0, .inr (5, [.int so, .ref kna, .ref kke, .ref kta, .int nu, .int pa, .int ab, .int mo, .int ow, .int gr, .int si, .int sd])), (kna, .inl (cB, l1, .inl c1)), (kke, .inl (cB, 11, .inl c2)), (kta, .inl (cB, l3, .inl c3))]) hP hD [] rfl hU)))⟩⟩ rfl rfl hl.1 rfl (lv_room (Nat.le_of_ble_eq_true rfl)) d_DiscMaker_grow_5 ⟨hkc, hks⟩) hS (fun q _ h => hFc q h) hFc (fun r1 u t H1 locs ht hvm hp_r1 hB hz1 hk1 hS => ?_)
  obtain ⟨hP1, hD1⟩ := hB
  rw [ht] at hP1
  obtain ⟨hP, hD⟩ := va_joinQ (X := [(d0, .inr (0, [.ref tx, .ref tr, .ref im, .ref m0, .ref rd])), (tr, .inr (10, [.ref ta, .int cn, .int dr])), (ta, .inl (cN, 40, .inr (.inr (.inr (.inr (rowF na cm)))))), (h0, .inr (5, [.int so, .ref kna, .ref kke, .ref kta, .int nu, .int pa, .int ab, .int mo, .int ow, .int gr, .int si, .int sd])), (kna, .inl (cB, l1, .inl c1)), (kke, .inl (cB, 11, .inl c2)), (kta, .inl (cB, l3, .inl c3))]) (cx := []) (wr := [(d0, .inr (0, [.ref tx, .ref tr, .ref im, .ref m0, .ref rd])), (tr, .inr (10, [.ref ta, .int cn, .int dr])), (ta, .inl (cN, 40, .inr (.inr (.inr (.inr (rowF na cm)))))), (h0, .inr (5, [.int so, .ref kna, .ref kke, .ref kta, .int nu, .int pa, .int ab, .int mo, .int ow, .int gr, .int si, .int sd])), (kna, .inl (cB, l1, .inl c1)), (kke, .inl (cB, 11, .inl c2)), (kta, .inl (cB, l3, .inl c3))]) (w1 := []) hP hD [] [0, 1, 2, 3, 4, 5, 6] rfl rfl (by decide +kernel) (by decide +kernel) hk1 hFc hP1 hD1
  clear hPc hDc hFc hP1 hD1 hk1 hz1 hkc hks
  generalize H1 = H at hP hS ⊢
  have hP : va_P D CL (([(d0, .inr (0, [.ref tx, .ref tr, .ref im, .ref m0, .ref rd])), (tr, .inr (10, [.ref ta, .int cn, .int dr])), (ta, .inl (cN, 40, .inr (.inr (.inr (.inr (rowF na cm)))))), (h0, .inr (5, [.int so, .ref kna, .ref kke, .ref kta, .int nu, .int pa, .int ab, .int mo, .int ow, .int gr, .int si, .int sd])), (kna, .inl (cB, l1, .inl c1)), (kke, .inl (cB, 11, .inl c2)), (kta, .inl (cB, l3, .inl c3))] : va_W) ++ (PL (NC cB na ng nn nf) cm)) H := hP
  have hD : va_D A (([(d0, .inr (0, [.ref tx, .ref tr, .ref im, .ref m0, .ref rd])), (tr, .inr (10, [.ref ta, .int cn, .int dr])), (ta, .inl (cN, 40, .inr (.inr (.inr (.inr (rowF na cm)))))), (h0, .inr (5, [.int so, .ref kna, .ref kke, .ref kta, .int nu, .int pa, .int ab, .int mo, .int ow, .int gr, .int si, .int sd])), (kna, .inl (cB, l1, .inl c1)), (kke, .inl (cB, 11, .inl c2)), (kta, .inl (cB, l3, .inl c3))] : va_W) ++ (PL (NC cB na ng nn nf) cm)) := hD
  try dsimp only at hp_r1
  obtain ⟨hr_2, hv_3, hb_4⟩ := hp_r1
  refine lv_if_eq (tgt := 21) hx hb d_DiscMaker_grow_8 (by decide) (fun h_9 => ?_) (fun h_9 => ?_)
  · skip
    have g8_5 : r1.toInt = 0 := (i_eq rfl (by decide)).mp h_9
    refine lv_bipush (v := (-4)) hx hb d_DiscMaker_grow_21 (by decide) ?_
    have hP9 := hP.part (X := [(d0, .inr (0, [.ref tx, .ref tr, .ref im, .ref m0, .ref rd])), (tr, .inr (10, [.ref ta, .int cn, .int dr])), (ta, .inl (cN, 40, .inr (.inr (.inr (.inr (rowF na cm)))))), (h0, .inr (5, [.int so, .ref kna, .ref kke, .ref kta, .int nu, .int pa, .int ab, .int mo, .int ow, .int gr, .int si, .int sd])), (kna, .inl (cB, l1, .inl c1)), (kke, .inl (cB, 11, .inl c2)), (kta, .inl (cB, l3, .inl c3))]) (cx := [(d0, .inr (0, [.ref tx, .ref tr, .ref im, .ref m0, .ref rd])), (tr, .inr (10, [.ref ta, .int cn, .int dr])), (ta, .inl (cN, 40, .inr (.inr (.inr (.inr (rowF na cm))))))]) [0, 1, 2] rfl
    have hD9 := hD.part (X := [(d0, .inr (0, [.ref tx, .ref tr, .ref im, .ref m0, .ref rd])), (tr, .inr (10, [.ref ta, .int cn, .int dr])), (ta, .inl (cN, 40, .inr (.inr (.inr (.inr (rowF na cm)))))), (h0, .inr (5, [.int so, .ref kna, .ref kke, .ref kta, .int nu, .int pa, .int ab, .int mo, .int ow, .int gr, .int si, .int sd])), (kna, .inl (cB, l1, .inl c1)), (kke, .inl (cB, 11, .inl c2)), (kta, .inl (cB, l3, .inl c3))]) (cx := [(d0, .inr (0, [.ref tx, .ref tr, .ref im, .ref m0, .ref rd])), (tr, .inr (10, [.ref ta, .int cn, .int dr])), (ta, .inl (cN, 40, .inr (.inr (.inr (.inr (rowF na cm))))))]) [0, 1, 2] (by decide +kernel) rfl
    exact W.iret (v := (-4)) hx hb hr (fun t ht hW => ⟨⟨(-4), (na, ng, nn, nf, cm, cn, dr), rfl, ⟨(by (try dsimp only); first | assumption | omega | trivial), htok, (by (try dsimp only); first | assumption | omega | trivial), htoa, (Or.inl ⟨Or.inl ⟨by decide, fun h8 => hb_4.f (by omega) h8.2.1⟩, rfl, rfl, rfl, rfl, rfl⟩)⟩, by rw [ht]; exact hP9, hD9⟩, hS.F ht⟩) hS.2.2 d_DiscMaker_grow_23
  · skip
    have g8_5 : ¬ r1.toInt = 0 := fun h8 => h_9 ((i_eq rfl (by decide)).mpr h8)
    refine lv_aload_n hx hb d_DiscMaker_grow_11 rfl (lv_at hl 2 rfl) ?_
    refine va_getN (D := D) (ci := 5) (v := .ref kna) (C := "DiscMaker$Node") (T := F_Node) (N := 12) hx hb ht9 in_Node hown hK hP 3 rfl rfl 1 (by decide) (va_Nw.use rfl (hN _ k187)) (fun _ h9 => h9) rfl d_DiscMaker_grow_12 ?_
    have hPc := hP.sub (ws' := []) [] rfl
    have hDc := hD.sub (ws' := []) [] (by decide +kernel) rfl
    have hFc := va_free (wc := []) hD hS hA [] rfl
    have hkc : 0 ≤ 0 := by decide
    have hks : 0 ≤ 0 := by decide
    refine va_calli (va_runS (As := [.ref kna]) (rest := []) ⟨hx, hb, hml, hown, hts⟩ (c3_isName l D cB cI cJ cZ cN cF H.size kna l1 c1 (by (try dsimp only); first | assumption | omega | trivial)) (cwS 1 hts (lg_goodS k803 k804 k115 kc_DiscMaker_isName) rfl rfl rfl (by decide +kernel) ⟨Nat.le_of_ble_eq_true rfl, Nat.le_of_ble_eq_true rfl⟩) ⟨fun a U g mk q => by obtain ⟨q0, q1, qP, qK, qN, qD, qZ0⟩ := q; exact ⟨q0, q1, qP, va_K.moved (u := U) (U := U.calling g mk a) (Vm.Alike.refl U.vm) qK, qN.calling, qD, RO_blind qZ0⟩, fun U hU hW => ⟨rfl, by rw [hU], by rw [hU]; exact hPc, va_K.moved hW.alike hK, NN.warm hW hN, hDc.weaken (fun _ _ _ _ => trivial), (RO_mut hP hD [] rfl 4 rfl (by decide) hU)⟩⟩ rfl rfl hl.1 rfl (lv_room (Nat.le_of_ble_eq_true rfl)) d_DiscMaker_grow_15 ⟨hkc, hks⟩) hS (fun q _ h => hFc q h) hFc (fun r5 u t H1 locs ht hvm hp_r5 hB hz1 hk1 hS => ?_)
    obtain ⟨hP1, hD1⟩ := hB
    rw [ht] at hP1
    obtain ⟨hP, hD⟩ := va_joinQ (X := [(d0, .inr (0, [.ref tx, .ref tr, .ref im, .ref m0, .ref rd])), (tr, .inr (10, [.ref ta, .int cn, .int dr])), (ta, .inl (cN, 40, .inr (.inr (.inr (.inr (rowF na cm)))))), (h0, .inr (5, [.int so, .ref kna, .ref kke, .ref kta, .int nu, .int pa, .int ab, .int mo, .int ow, .int gr, .int si, .int sd])), (kna, .inl (cB, l1, .inl c1)), (kke, .inl (cB, 11, .inl c2)), (kta, .inl (cB, l3, .inl c3))]) (cx := []) (wr := [(d0, .inr (0, [.ref tx, .ref tr, .ref im, .ref m0, .ref rd])), (tr, .inr (10, [.ref ta, .int cn, .int dr])), (ta, .inl (cN, 40, .inr (.inr (.inr (.inr (rowF na cm)))))), (h0, .inr (5, [.int so, .ref kna, .ref kke, .ref kta, .int nu, .int pa, .int ab, .int mo, .int ow, .int gr, .int si, .int sd])), (kna, .inl (cB, l1, .inl c1)), (kke, .inl (cB, 11, .inl c2)), (kta, .inl (cB, l3, .inl c3))]) (w1 := []) hP hD [] [0, 1, 2, 3, 4, 5, 6] rfl rfl (by decide +kernel) (by decide +kernel) hk1 hFc hP1 hD1
    clear hPc hDc hFc hP1 hD1 hk1 hz1 hkc hks
    generalize H1 = H at hP hS ⊢
    have hP : va_P D CL (([(d0, .inr (0, [.ref tx, .ref tr, .ref im, .ref m0, .ref rd])), (tr, .inr (10, [.ref ta, .int cn, .int dr])), (ta, .inl (cN, 40, .inr (.inr (.inr (.inr (rowF na cm)))))), (h0, .inr (5, [.int so, .ref kna, .ref kke, .ref kta, .int nu, .int pa, .int ab, .int mo, .int ow, .int gr, .int si, .int sd])), (kna, .inl (cB, l1, .inl c1)), (kke, .inl (cB, 11, .inl c2)), (kta, .inl (cB, l3, .inl c3))] : va_W) ++ (PL (NC cB na ng nn nf) cm)) H := hP
    have hD : va_D A (([(d0, .inr (0, [.ref tx, .ref tr, .ref im, .ref m0, .ref rd])), (tr, .inr (10, [.ref ta, .int cn, .int dr])), (ta, .inl (cN, 40, .inr (.inr (.inr (.inr (rowF na cm)))))), (h0, .inr (5, [.int so, .ref kna, .ref kke, .ref kta, .int nu, .int pa, .int ab, .int mo, .int ow, .int gr, .int si, .int sd])), (kna, .inl (cB, l1, .inl c1)), (kke, .inl (cB, 11, .inl c2)), (kta, .inl (cB, l3, .inl c3))] : va_W) ++ (PL (NC cB na ng nn nf) cm)) := hD
    try dsimp only at hp_r5
    obtain ⟨hr_6, hd_7⟩ := hp_r5
    refine lv_if_ne (tgt := 24) hx hb d_DiscMaker_grow_18 (by decide) (fun h_9 => ?_) (fun h_9 => ?_)
    · skip
      have g18_11 : ¬ r5.toInt = 0 := fun h8 => h_9 ((i_eq rfl (by decide)).mpr h8)
      refine lv_aload_n hx hb d_DiscMaker_grow_24 rfl (lv_at hl 0 rfl) ?_
      refine va_get (D := D) (ci := 0) (v := .ref tr) (C := "DiscMaker") (T := F_DiscMaker) (N := 5) hx hb ht9 in_DiscMaker hown hK hP 0 rfl rfl 1 (by decide) (ht9 _ k432) (fun _ h9 => h9) rfl d_DiscMaker_grow_25 ?_
      refine lv_iload_n hx hb d_DiscMaker_grow_28 rfl (lv_at hl 1 rfl) ?_
      refine lv_aload_n hx hb d_DiscMaker_grow_29 rfl (lv_at hl 2 rfl) ?_
      have hPc := hP.part (X := [(d0, .inr (0, [.ref tx, .ref tr, .ref im, .ref m0, .ref rd])), (tr, .inr (10, [.ref ta, .int cn, .int dr])), (ta, .inl (cN, 40, .inr (.inr (.inr (.inr (rowF na cm)))))), (h0, .inr (5, [.int so, .ref kna, .ref kke, .ref kta, .int nu, .int pa, .int ab, .int mo, .int ow, .int gr, .int si, .int sd])), (kna, .inl (cB, l1, .inl c1)), (kke, .inl (cB, 11, .inl c2)), (kta, .inl (cB, l3, .inl c3))]) (cx := [(tr, .inr (10, [.ref ta, .int cn, .int dr])), (ta, .inl (cN, 40, .inr (.inr (.inr (.inr (rowF na cm)))))), (h0, .inr (5, [.int so, .ref kna, .ref kke, .ref kta, .int nu, .int pa, .int ab, .int mo, .int ow, .int gr, .int si, .int sd])), (kna, .inl (cB, l1, .inl c1)), (kke, .inl (cB, 11, .inl c2)), (kta, .inl (cB, l3, .inl c3))]) [1, 2, 3, 4, 5, 6] rfl
      have hDc := hD.part (X := [(d0, .inr (0, [.ref tx, .ref tr, .ref im, .ref m0, .ref rd])), (tr, .inr (10, [.ref ta, .int cn, .int dr])), (ta, .inl (cN, 40, .inr (.inr (.inr (.inr (rowF na cm)))))), (h0, .inr (5, [.int so, .ref kna, .ref kke, .ref kta, .int nu, .int pa, .int ab, .int mo, .int ow, .int gr, .int si, .int sd])), (kna, .inl (cB, l1, .inl c1)), (kke, .inl (cB, 11, .inl c2)), (kta, .inl (cB, l3, .inl c3))]) (cx := [(tr, .inr (10, [.ref ta, .int cn, .int dr])), (ta, .inl (cN, 40, .inr (.inr (.inr (.inr (rowF na cm)))))), (h0, .inr (5, [.int so, .ref kna, .ref kke, .ref kta, .int nu, .int pa, .int ab, .int mo, .int ow, .int gr, .int si, .int sd])), (kna, .inl (cB, l1, .inl c1)), (kke, .inl (cB, 11, .inl c2)), (kta, .inl (cB, l3, .inl c3))]) [1, 2, 3, 4, 5, 6] (by decide +kernel) rfl
      have hFc := va_freeP (X := [(d0, .inr (0, [.ref tx, .ref tr, .ref im, .ref m0, .ref rd])), (tr, .inr (10, [.ref ta, .int cn, .int dr])), (ta, .inl (cN, 40, .inr (.inr (.inr (.inr (rowF na cm)))))), (h0, .inr (5, [.int so, .ref kna, .ref kke, .ref kta, .int nu, .int pa, .int ab, .int mo, .int ow, .int gr, .int si, .int sd])), (kna, .inl (cB, l1, .inl c1)), (kke, .inl (cB, 11, .inl c2)), (kta, .inl (cB, l3, .inl c3))]) (cx := [(tr, .inr (10, [.ref ta, .int cn, .int dr])), (ta, .inl (cN, 40, .inr (.inr (.inr (.inr (rowF na cm)))))), (h0, .inr (5, [.int so, .ref kna, .ref kke, .ref kta, .int nu, .int pa, .int ab, .int mo, .int ow, .int gr, .int si, .int sd])), (kna, .inl (cB, l1, .inl c1)), (kke, .inl (cB, 11, .inl c2)), (kta, .inl (cB, l3, .inl c3))]) hD hS hA [1, 2, 3, 4, 5, 6] rfl
      have hkc : 0 ≤ 0 := by decide
      have hks : 0 ≤ 0 := by decide
      refine va_calli (va_runV (C := "DiscMaker$Tree") (As := [.int x, .ref h0]) (rest := []) ⟨hx, hb, hml, hown, hts⟩ (c3_add l D cB cI cJ cZ cN cF H.size tr ta cn dr na ng nn nf cm h0 kna kke kta so nu pa ab mo ow gr si sd l1 c1 c2 l3 c3 x (by (try dsimp only); first | assumption | omega | trivial) (by (try dsimp only); first | assumption | omega | trivial) (by (try dsimp only); first | assumption | omega | trivial) (by (try dsimp only); first | assumption | omega | trivial) ((hb_4.t (by omega)).2.2) (by (try dsimp only); first | assumption | omega | trivial) (by (try dsimp only); first | assumption | omega | trivial) (by (try dsimp only); first | assumption | omega | trivial) (by (try dsimp only); first | assumption | omega | trivial) (by (try dsimp only); first | assumption | omega | trivial) (by (try dsimp only); first | assumption | omega | trivial) (by (try dsimp only); first | assumption | omega | trivial)) (cwV 2 hts (lg_goodV k815 k816 k817 k117 kc_Tree_add) rfl rfl rfl (by decide +kernel) ⟨Nat.le_of_ble_eq_true rfl, Nat.le_of_ble_eq_true rfl⟩) ⟨fun a U g mk q => by obtain ⟨q0, q1, qP, qK, qN, qD⟩ := q; exact ⟨q0, q1, qP, va_K.moved (u := U) (U := U.calling g mk a) (Vm.Alike.refl U.vm) qK, qN.calling, qD⟩, va_recv hK hP (ci := 10) (q0 := 1) rfl rfl, fun U hU hW => ⟨rfl, by rw [hU], by rw [hU]; exact hPc, va_K.moved hW.alike hK, NN.warm hW hN, hDc.weaken (fun _ _ _ _ => trivial)⟩⟩ rfl rfl hl.1 rfl (lv_room (Nat.le_of_ble_eq_true rfl)) d_DiscMaker_grow_30 ⟨hkc, hks⟩) hS (fun q _ h => hFc q h) hFc (fun r8 u t H1 locs ht hvm hp_r8 hB hz1 hk1 hS => ?_)
      obtain ⟨na2_9, ng2_10, nn2_11, nf2_12, cm2_13, cn2_14, dr2_15⟩ := u
      obtain ⟨hP1, hD1⟩ := hB
      rw [ht] at hP1
      obtain ⟨hP, hD⟩ := va_joinP (X := [(d0, .inr (0, [.ref tx, .ref tr, .ref im, .ref m0, .ref rd])), (tr, .inr (10, [.ref ta, .int cn, .int dr])), (ta, .inl (cN, 40, .inr (.inr (.inr (.inr (rowF na cm)))))), (h0, .inr (5, [.int so, .ref kna, .ref kke, .ref kta, .int nu, .int pa, .int ab, .int mo, .int ow, .int gr, .int si, .int sd])), (kna, .inl (cB, l1, .inl c1)), (kke, .inl (cB, 11, .inl c2)), (kta, .inl (cB, l3, .inl c3))]) (cx := [(tr, .inr (10, [.ref ta, .int cn, .int dr])), (ta, .inl (cN, 40, .inr (.inr (.inr (.inr (rowF na cm)))))), (h0, .inr (5, [.int so, .ref kna, .ref kke, .ref kta, .int nu, .int pa, .int ab, .int mo, .int ow, .int gr, .int si, .int sd])), (kna, .inl (cB, l1, .inl c1)), (kke, .inl (cB, 11, .inl c2)), (kta, .inl (cB, l3, .inl c3))]) (wr := [(d0, .inr (0, [.ref tx, .ref tr, .ref im, .ref m0, .ref rd]))]) (rx := [(tr, .inr (10, [.ref ta, .int cn2_14, .int dr2_15])), (ta, .inl (cN, 40, .inr (.inr (.inr (.inr (rowF na2_9 cm2_13))))))]) hP hD [1, 2, 3, 4, 5, 6] [0] rfl rfl (by decide +kernel) (by decide +kernel) hk1 hFc hP1 hD1
      clear hPc hDc hFc hP1 hD1 hk1 hz1 hkc hks
      generalize H1 = H at hP hS ⊢
      have hP : va_P D CL (([(d0, .inr (0, [.ref tx, .ref tr, .ref im, .ref m0, .ref rd])), (tr, .inr (10, [.ref ta, .int cn2_14, .int dr2_15])), (ta, .inl (cN, 40, .inr (.inr (.inr (.inr (rowF na2_9 cm2_13))))))] : va_W) ++ (PL (NC cB na2_9 ng2_10 nn2_11 nf2_12) cm2_13)) H := hP
      have hD : va_D A (([(d0, .inr (0, [.ref tx, .ref tr, .ref im, .ref m0, .ref rd])), (tr, .inr (10, [.ref ta, .int cn2_14, .int dr2_15])), (ta, .inl (cN, 40, .inr (.inr (.inr (.inr (rowF na2_9 cm2_13))))))] : va_W) ++ (PL (NC cB na2_9 ng2_10 nn2_11 nf2_12) cm2_13)) := hD
      try dsimp only at hp_r8
      obtain ⟨hcn2_16, htok2_17, hdr2_18, htoa2_19, hA_20⟩ := hp_r8
      have hP9 := hP.part (X := [(d0, .inr (0, [.ref tx, .ref tr, .ref im, .ref m0, .ref rd])), (tr, .inr (10, [.ref ta, .int cn2_14, .int dr2_15])), (ta, .inl (cN, 40, .inr (.inr (.inr (.inr (rowF na2_9 cm2_13))))))]) (cx := [(d0, .inr (0, [.ref tx, .ref tr, .ref im, .ref m0, .ref rd])), (tr, .inr (10, [.ref ta, .int cn2_14, .int dr2_15])), (ta, .inl (cN, 40, .inr (.inr (.inr (.inr (rowF na2_9 cm2_13))))))]) [0, 1, 2] rfl
      have hD9 := hD.part (X := [(d0, .inr (0, [.ref tx, .ref tr, .ref im, .ref m0, .ref rd])), (tr, .inr (10, [.ref ta, .int cn2_14, .int dr2_15])), (ta, .inl (cN, 40, .inr (.inr (.inr (.inr (rowF na2_9 cm2_13))))))]) (cx := [(d0, .inr (0, [.ref tx, .ref tr, .ref im, .ref m0, .ref rd])), (tr, .inr (10, [.ref ta, .int cn2_14, .int dr2_15])), (ta, .inl (cN, 40, .inr (.inr (.inr (.inr (rowF na2_9 cm2_13))))))]) [0, 1, 2] (by decide +kernel) rfl
      exact W.iret (v := r8) hx hb hr (fun t ht hW => ⟨⟨r8, (na2_9, ng2_10, nn2_11, nf2_12, cm2_13, cn2_14, dr2_15), rfl, ⟨(by (try dsimp only); first | assumption | omega | trivial), htok2_17, (by (try dsimp only); first | assumption | omega | trivial), htoa2_19, (hA_20.grow ⟨trivial, hb_4.t (by omega), hd_7.t (by omega)⟩)⟩, by rw [ht]; exact hP9, hD9⟩, hS.F ht⟩) hS.2.2 d_DiscMaker_grow_33
    · skip
      have g18_11 : r5.toInt = 0 := (i_eq rfl (by decide)).mp h_9
      refine lv_bipush (v := (-4)) hx hb d_DiscMaker_grow_21 (by decide) ?_
      have hP9 := hP.part (X := [(d0, .inr (0, [.ref tx, .ref tr, .ref im, .ref m0, .ref rd])), (tr, .inr (10, [.ref ta, .int cn, .int dr])), (ta, .inl (cN, 40, .inr (.inr (.inr (.inr (rowF na cm)))))), (h0, .inr (5, [.int so, .ref kna, .ref kke, .ref kta, .int nu, .int pa, .int ab, .int mo, .int ow, .int gr, .int si, .int sd])), (kna, .inl (cB, l1, .inl c1)), (kke, .inl (cB, 11, .inl c2)), (kta, .inl (cB, l3, .inl c3))]) (cx := [(d0, .inr (0, [.ref tx, .ref tr, .ref im, .ref m0, .ref rd])), (tr, .inr (10, [.ref ta, .int cn, .int dr])), (ta, .inl (cN, 40, .inr (.inr (.inr (.inr (rowF na cm))))))]) [0, 1, 2] rfl
      have hD9 := hD.part (X := [(d0, .inr (0, [.ref tx, .ref tr, .ref im, .ref m0, .ref rd])), (tr, .inr (10, [.ref ta, .int cn, .int dr])), (ta, .inl (cN, 40, .inr (.inr (.inr (.inr (rowF na cm)))))), (h0, .inr (5, [.int so, .ref kna, .ref kke, .ref kta, .int nu, .int pa, .int ab, .int mo, .int ow, .int gr, .int si, .int sd])), (kna, .inl (cB, l1, .inl c1)), (kke, .inl (cB, 11, .inl c2)), (kta, .inl (cB, l3, .inl c3))]) (cx := [(d0, .inr (0, [.ref tx, .ref tr, .ref im, .ref m0, .ref rd])), (tr, .inr (10, [.ref ta, .int cn, .int dr])), (ta, .inl (cN, 40, .inr (.inr (.inr (.inr (rowF na cm))))))]) [0, 1, 2] (by decide +kernel) rfl
      exact W.iret (v := (-4)) hx hb hr (fun t ht hW => ⟨⟨(-4), (na, ng, nn, nf, cm, cn, dr), rfl, ⟨(by (try dsimp only); first | assumption | omega | trivial), htok, (by (try dsimp only); first | assumption | omega | trivial), htoa, (Or.inl ⟨Or.inl ⟨by decide, fun h8 => hd_7.f (by omega) h8.2.2⟩, rfl, rfl, rfl, rfl, rfl⟩)⟩, by rw [ht]; exact hP9, hD9⟩, hS.F ht⟩) hS.2.2 d_DiscMaker_grow_23

theorem d_DiscMaker_directory_0 : decode b_DiscMaker_directory 0 = .ok (.aload_n 0, 1) := by decide +kernel
theorem d_DiscMaker_directory_1 : decode b_DiscMaker_directory 1 = .ok (.getfield 10, 3) := by decide +kernel
theorem d_DiscMaker_directory_4 : decode b_DiscMaker_directory 4 = .ok (.invokevirtual 58, 3) := by decide +kernel
theorem d_DiscMaker_directory_7 : decode b_DiscMaker_directory 7 = .ok (.istore 5, 2) := by decide +kernel
theorem d_DiscMaker_directory_9 : decode b_DiscMaker_directory 9 = .ok (.iload_n 2, 1) := by decide +kernel
theorem d_DiscMaker_directory_10 : decode b_DiscMaker_directory 10 = .ok (.iload_n 3, 1) := by decide +kernel
theorem d_DiscMaker_directory_11 : decode b_DiscMaker_directory 11 = .ok (.iload 4, 2) := by decide +kernel
theorem d_DiscMaker_directory_13 : decode b_DiscMaker_directory 13 = .ok (.invokestatic 62, 3) := by decide +kernel
theorem d_DiscMaker_directory_16 : decode b_DiscMaker_directory 16 = .ok (.ifCond .ne 6, 3) := by decide +kernel
theorem d_DiscMaker_directory_19 : decode b_DiscMaker_directory 19 = .ok (.bipush (-4), 2) := by decide +kernel
theorem d_DiscMaker_directory_21 : decode b_DiscMaker_directory 21 = .ok (.ireturn, 1) := by decide +kernel
theorem d_DiscMaker_directory_22 : decode b_DiscMaker_directory 22 = .ok (.aload_n 0, 1) := by decide +kernel
theorem d_DiscMaker_directory_23 : decode b_DiscMaker_directory 23 = .ok (.iload_n 1, 1) := by decide +kernel
theorem d_DiscMaker_directory_24 : decode b_DiscMaker_directory 24 = .ok (.new 66, 3) := by decide +kernel
theorem d_DiscMaker_directory_27 : decode b_DiscMaker_directory 27 = .ok (.dup, 1) := by decide +kernel
theorem d_DiscMaker_directory_28 : decode b_DiscMaker_directory 28 = .ok (.iconst 0, 1) := by decide +kernel
theorem d_DiscMaker_directory_29 : decode b_DiscMaker_directory 29 = .ok (.aload_n 0, 1) := by decide +kernel
theorem d_DiscMaker_directory_30 : decode b_DiscMaker_directory 30 = .ok (.getfield 10, 3) := by decide +kernel
theorem d_DiscMaker_directory_33 : decode b_DiscMaker_directory 33 = .ok (.iconst 0, 1) := by decide +kernel
theorem d_DiscMaker_directory_34 : decode b_DiscMaker_directory 34 = .ok (.iload 5, 2) := by decide +kernel
theorem d_DiscMaker_directory_36 : decode b_DiscMaker_directory 36 = .ok (.invokevirtual 68, 3) := by decide +kernel
theorem d_DiscMaker_directory_39 : decode b_DiscMaker_directory 39 = .ok (.iload_n 2, 1) := by decide +kernel
theorem d_DiscMaker_directory_40 : decode b_DiscMaker_directory 40 = .ok (.iload_n 3, 1) := by decide +kernel
theorem d_DiscMaker_directory_41 : decode b_DiscMaker_directory 41 = .ok (.iload 4, 2) := by decide +kernel
theorem d_DiscMaker_directory_43 : decode b_DiscMaker_directory 43 = .ok (.invokespecial 72, 3) := by decide +kernel
theorem d_DiscMaker_directory_46 : decode b_DiscMaker_directory 46 = .ok (.invokevirtual 75, 3) := by decide +kernel
theorem d_DiscMaker_directory_49 : decode b_DiscMaker_directory 49 = .ok (.ireturn, 1) := by decide +kernel
set_option maxHeartbeats 4000000 in
set_option maxRecDepth 100000 in
theorem c3_directory (l : Launch) (D : va_G) (cB cI cJ cZ cN cF : ClassId) (sz : Nat) (d0 : Nat) (tx : Nat) (tr : Nat) (im : Nat) (m0 : Nat) (rd : Nat) (tq : Nat) (tL : Int32) (tf : Nat → Int32) (ta : Nat) (cn : Int32) (dr : Int32) (na : Nat → Nat → Nat) (ng : Nat → Nat → Int32) (nn : Nat → Nat → Nat) (nf : Nat → Nat → Nat → Int32) (cm : Nat) (x : Int32) (y : Int32) (z : Int32) (w : Int32) (htL : 0 ≤ tL.toInt ∧ tL.toInt ≤ 400) (htB : Rg (-128) 127 400 tf) (hcn : cn.toInt = cm) (hcm : cm ≤ 40) (htok : TOK cm ng nn) (htoa : TOA cm ng) (hdr : 0 ≤ dr.toInt ∧ dr.toInt ≤ cn.toInt) : Met l y_DiscMaker_directory w_DiscMaker_directory ({ frames := 7, cells := 4, slots := 423, locals := 199 }) (va_Pc [.ref d0, .int x, .int y, .int z, .int w] (fun U => U.heap.size = sz ∧ va_P D CL (([(d0, .inr (0, [.ref tx, .ref tr, .ref im, .ref m0, .ref rd])), (tx, .inr (9, [.ref tq, .int tL])), (tq, .inl (cB, 400, .inl tf)), (tr, .inr (10, [.ref ta, .int cn, .int dr])), (ta, .inl (cN, 40, .inr (.inr (.inr (.inr (rowF na cm))))))] : va_W) ++ (PL (NC cB na ng nn nf) cm)) U.heap ∧ va_K D CL (TY cB cI cJ cZ cN cF) U ∧ NN U ∧ va_D (fun _ => True) (([(d0, .inr (0, [.ref tx, .ref tr, .ref im, .ref m0, .ref rd])), (tx, .inr (9, [.ref tq, .int tL])), (tq, .inl (cB, 400, .inl tf)), (tr, .inr (10, [.ref ta, .int cn, .int dr])), (ta, .inl (cN, 40, .inr (.inr (.inr (.inr (rowF na cm))))))] : va_W) ++ (PL (NC cB na ng nn nf) cm)) ∧ CST (va_A (([(d0, .inr (0, [.ref tx, .ref tr, .ref im, .ref m0, .ref rd])), (tx, .inr (9, [.ref tq, .int tL])), (tq, .inl (cB, 400, .inl tf)), (tr, .inr (10, [.ref ta, .int cn, .int dr])), (ta, .inl (cN, 40, .inr (.inr (.inr (.inr (rowF na cm))))))] : va_W) ++ (PL (NC cB na ng nn nf) cm)) sz) U U.heap)) (va_Qi (fun (r : Int32) (u : (Nat → Nat → Nat) × (Nat → Nat → Int32) × (Nat → Nat → Nat) × (Nat → Nat → Nat → Int32) × Nat × Int32 × Int32) => match u with | (na2, ng2, nn2, nf2, cm2, cn2, dr2) => (cn2.toInt = cm2 ∧ cm ≤ cm2 ∧ cm2 ≤ 40) ∧ (TOK cm2 ng2 nn2) ∧ (0 ≤ dr2.toInt ∧ dr2.toInt ≤ cn2.toInt) ∧ (TOA cm2 ng2) ∧ (GrowC (OwnP y z w) r x 0 y z w 0 0 dr dr2 cm cm2 ng ng2 nn nn2 nf nf2 tL.toNatClampNeg tf 0 (fun _ => 0))) (fun (u : (Nat → Nat → Nat) × (Nat → Nat → Int32) × (Nat → Nat → Nat) × (Nat → Nat → Nat → Int32) × Nat × Int32 × Int32) (t : State) => match u with | (na2, ng2, nn2, nf2, cm2, cn2, dr2) => va_P D CL (([(d0, .inr (0, [.ref tx, .ref tr, .ref im, .ref m0, .ref rd])), (tx, .inr (9, [.ref tq, .int 0])), (tq, .inl (cB, 400, .inl tf)), (tr, .inr (10, [.ref ta, .int cn2, .int dr2])), (ta, .inl (cN, 40, .inr (.inr (.inr (.inr (rowF na2 cm2))))))] : va_W) ++ (PL (NC cB na2 ng2 nn2 nf2) cm2)) t.heap ∧ va_D (va_A (([(d0, .inr (0, [.ref tx, .ref tr, .ref im, .ref m0, .ref rd])), (tx, .inr (9, [.ref tq, .int tL])), (tq, .inl (cB, 400, .inl tf)), (tr, .inr (10, [.ref ta, .int cn, .int dr])), (ta, .inl (cN, 40, .inr (.inr (.inr (.inr (rowF na cm))))))] : va_W) ++ (PL (NC cB na ng nn nf) cm)) sz) (([(d0, .inr (0, [.ref tx, .ref tr, .ref im, .ref m0, .ref rd])), (tx, .inr (9, [.ref tq, .int 0])), (tq, .inl (cB, 400, .inl tf)), (tr, .inr (10, [.ref ta, .int cn2, .int dr2])), (ta, .inl (cN, 40, .inr (.inr (.inr (.inr (rowF na2 cm2))))))] : va_W) ++ (PL (NC cB na2 ng2 nn2 nf2) cm2))) (va_A (([(d0, .inr (0, [.ref tx, .ref tr, .ref im, .ref m0, .ref rd])), (tx, .inr (9, [.ref tq, .int tL])), (tq, .inl (cB, 400, .inl tf)), (tr, .inr (10, [.ref ta, .int cn, .int dr])), (ta, .inl (cN, 40, .inr (.inr (.inr (.inr (rowF na cm))))))] : va_W) ++ (PL (NC cB na ng nn nf) cm)) sz)) 4 423 (va_A (([(d0, .inr (0, [.ref tx, .ref tr, .ref im, .ref m0, .ref rd])), (tx, .inr (9, [.ref tq, .int tL])), (tq, .inl (cB, 400, .inl tf)), (tr, .inr (10, [.ref ta, .int cn, .int dr])), (ta, .inl (cN, 40, .inr (.inr (.inr (.inr (rowF na cm))))))] : va_W) ++ (PL (NC cB na ng nn nf) cm)) sz) := by
  refine Met.ofW (cc := b_DiscMaker_directory) (maxL := 6) (ret := some .int) (by decide +kernel) rfl ?_
  intro p e s m args below meth c s₁ B hml hv
  obtain ⟨rfl, hsz, hP, hK, hN, hD0, hZc⟩ := hv
  have hx := B.exec
  have hb := B.bytes
  have hr := B.returns
  have hts := atoms_spec (ws := w_DiscMaker_directory) B.pre
  have ht9 := fun (w : Cond) (h : w ∈ lw_g) => hts w (List.mem_cons_of_mem _ h)
  have hown : s.vm.findClass "DiscMaker" = some m.cls := findClass_of_methodNamed B.named
  have hlocks := B.notSynchronized
  subst hsz
  have hD := hD0.self (sz := s.heap.size)
  generalize hAe : va_A (([(d0, .inr (0, [.ref tx, .ref tr, .ref im, .ref m0, .ref rd])), (tx, .inr (9, [.ref tq, .int tL])), (tq, .inl (cB, 400, .inl tf)), (tr, .inr (10, [.ref ta, .int cn, .int dr])), (ta, .inl (cN, 40, .inr (.inr (.inr (.inr (rowF na cm))))))] : va_W) ++ (PL (NC cB na ng nn nf) cm)) s.heap.size = A at hD hZc ⊢
  have hA : ∀ q : Nat, s.heap.size ≤ q → A q := fun q h => by rw [← hAe]; exact Or.inr h
  have hS : va_S A s.heap s.heap [] := va_S.rf
  have hP : va_P D CL (([(d0, .inr (0, [.ref tx, .ref tr, .ref im, .ref m0, .ref rd])), (tx, .inr (9, [.ref tq, .int tL])), (tq, .inl (cB, 400, .inl tf)), (tr, .inr (10, [.ref ta, .int cn, .int dr])), (ta, .inl (cN, 40, .inr (.inr (.inr (.inr (rowF na cm))))))] : va_W) ++ (PL (NC cB na ng nn nf) cm)) s.heap := hP
  have hl := lv_entry [.ref d0, .int x, .int y, .int z, .int w] (n := 6) (Nat.le_of_ble_eq_true rfl)
  rw [lg_entry_eq]
  generalize (lg_sl [.ref d0, .int x, .int y, .int z, .int w] ++ List.replicate (6 - (lg_sl [.ref d0, .int x, .int y, .int z, .int w]).length) Slot.unset).toArray = ls at hl ⊢
  have hl : lv_has ls 6 [(0, .ref d0), (1, .int x), (2, .int y), (3, .int z), (4, .int w)] := hl
  have L_m4 : ((-4) : Int32).toInt = (-4) := by decide
  have L_m1 : ((-1) : Int32).toInt = (-1) := by decide
  have L_0 : (0 : Int32).toInt = 0 := by decide
  have L_1 : (1 : Int32).toInt = 1 := by decide
  refine lv_aload_n hx hb d_DiscMaker_directory_0 rfl (lv_at hl 0 rfl) ?_
  refine va_get (D := D) (ci := 0) (v := .ref tx) (C := "DiscMaker") (T := F_DiscMaker) (N := 5) hx hb ht9 in_DiscMaker hown hK hP 0 rfl rfl 0 (by decide) (ht9 _ k431) (fun _ h9 => h9) rfl d_DiscMaker_directory_1 ?_
  have hPc := hP.sub (ws' := [(tx, .inr (9, [.ref tq, .int tL])), (tq, .inl (cB, 400, .inl tf))]) [1, 2] rfl
  have hDc := hD.sub (ws' := [(tx, .inr (9, [.ref tq, .int tL])), (tq, .inl (cB, 400, .inl tf))]) [1, 2] (by decide +kernel) rfl
  have hFc := va_free (wc := [(tx, .inr (9, [.ref tq, .int tL])), (tq, .inl (cB, 400, .inl tf))]) hD hS hA [1, 2] rfl
  have hkc : 0 ≤ 4 := by decide
  have hks : 0 ≤ 423 := by decide
  refine va_calli (va_runV (C := "DiscMaker$Text") (As := []) (rest := []) ⟨hx, hb, hml, hown, hts⟩ (c3_useUp l D cB cI cJ cZ cN cF s.heap.size tx tq tL tf) (cwV 0 hts (lg_goodV k471 k472 k473 k116 kc_Text_useUp) rfl rfl rfl (by decide +kernel) ⟨Nat.le_of_ble_eq_true rfl, Nat.le_of_ble_eq_true rfl⟩) ⟨fun a U g mk q => by obtain ⟨q0, q1, qP, qK, qN, qD⟩ := q; exact ⟨q0, q1, qP, va_K.moved (u := U) (U := U.calling g mk a) (Vm.Alike.refl U.vm) qK, qN.calling, qD⟩, va_recv hK hP (ci := 9) (q0 := 1) rfl rfl, fun U hU hW => ⟨rfl, by rw [hU], by rw [hU]; exact hPc, va_K.moved hW.alike hK, NN.warm hW hN, hDc.weaken (fun _ _ _ _ => trivial)⟩⟩ rfl rfl hl.1 rfl (lv_room (Nat.le_of_ble_eq_true rfl)) d_DiscMaker_directory_4 ⟨hkc, hks⟩) hS (fun q _ h => hFc q h) hFc (fun r1 u t H1 locs ht hvm hp_r1 hB hz1 hk1 hS => ?_)
  obtain ⟨hP1, hD1⟩ := hB
  rw [ht] at hP1
  obtain ⟨hP, hD⟩ := va_joinQ (X := [(d0, .inr (0, [.ref tx, .ref tr, .ref im, .ref m0, .ref rd])), (tx, .inr (9, [.ref tq, .int tL])), (tq, .inl (cB, 400, .inl tf)), (tr, .inr (10, [.ref ta, .int cn, .int dr])), (ta, .inl (cN, 40, .inr (.inr (.inr (.inr (rowF na cm))))))]) (cx := [(tx, .inr (9, [.ref tq, .int tL])), (tq, .inl (cB, 400, .inl tf))]) (wr := [(d0, .inr (0, [.ref tx, .ref tr, .ref im, .ref m0, .ref rd])), (tr, .inr (10, [.ref ta, .int cn, .int dr])), (ta, .inl (cN, 40, .inr (.inr (.inr (.inr (rowF na cm))))))]) (w1 := [(tx, .inr (9, [.ref tq, .int 0])), (tq, .inl (cB, 400, .inl tf))]) hP hD [1, 2] [0, 3, 4] rfl rfl (by decide +kernel) (by decide +kernel) hk1 hFc hP1 hD1
  clear hPc hDc hFc hP1 hD1 hk1 hz1 hkc hks
  generalize H1 = H at hP hS ⊢
  have hP : va_P D CL (([(d0, .inr (0, [.ref tx, .ref tr, .ref im, .ref m0, .ref rd])), (tr, .inr (10, [.ref ta, .int cn, .int dr])), (ta, .inl (cN, 40, .inr (.inr (.inr (.inr (rowF na cm)))))), (tx, .inr (9, [.ref tq, .int 0])), (tq, .inl (cB, 400, .inl tf))] : va_W) ++ (PL (NC cB na ng nn nf) cm)) H := hP
  have hD : va_D A (([(d0, .inr (0, [.ref tx, .ref tr, .ref im, .ref m0, .ref rd])), (tr, .inr (10, [.ref ta, .int cn, .int dr])), (ta, .inl (cN, 40, .inr (.inr (.inr (.inr (rowF na cm)))))), (tx, .inr (9, [.ref tq, .int 0])), (tq, .inl (cB, 400, .inl tf))] : va_W) ++ (PL (NC cB na ng nn nf) cm)) := hD
  try dsimp only at hp_r1
  have hv_2 := hp_r1
  have qv_r1 : r1.toInt = tL.toInt := by rw [hv_2]
  refine lv_istore hx hb d_DiscMaker_directory_7 hl (by decide) rfl (fun ls hl => ?_)
  have hl : lv_has ls 6 [(5, .int r1), (0, .ref d0), (1, .int x), (2, .int y), (3, .int z), (4, .int w)] := hl
  refine lv_iload_n hx hb d_DiscMaker_directory_9 rfl (lv_at hl 3 rfl) ?_
  refine lv_iload_n hx hb d_DiscMaker_directory_10 rfl (lv_at hl 4 rfl) ?_
  refine lv_iload hx hb d_DiscMaker_directory_11 (lv_at hl 5 rfl) ?_
  have hPc := hP.sub (ws' := []) [] rfl
  have hDc := hD.sub (ws' := []) [] (by decide +kernel) rfl
  have hFc := va_free (wc := []) hD hS hA [] rfl
  have hkc : 0 ≤ 4 := by decide
  have hks : 0 ≤ 423 := by decide
  refine va_calli (va_runS (As := [.int y, .int z, .int w]) (rest := []) ⟨hx, hb, hml, hown, hts⟩ (c3_isOwnership l D cB cI cJ cZ cN cF H.size y z w) (cwS 3 hts (lg_goodS k475 k476 k115 kc_DiscMaker_isOwnership) rfl rfl rfl (by decide +kernel) ⟨Nat.le_of_ble_eq_true rfl, Nat.le_of_ble_eq_true rfl⟩) ⟨fun a U g mk q => by obtain ⟨q0, q1, qP, qK, qN, qD⟩ := q; exact ⟨q0, q1, qP, va_K.moved (u := U) (U := U.calling g mk a) (Vm.Alike.refl U.vm) qK, qN.calling, qD⟩, fun U hU hW => ⟨rfl, by rw [hU], by rw [hU]; exact hPc, va_K.moved hW.alike hK, NN.warm hW hN, hDc.weaken (fun _ _ _ _ => trivial)⟩⟩ rfl rfl hl.1 rfl (lv_room (Nat.le_of_ble_eq_true rfl)) d_DiscMaker_directory_13 ⟨hkc, hks⟩) hS (fun q _ h => hFc q h) hFc (fun r3 u t H1 locs ht hvm hp_r3 hB hz1 hk1 hS => ?_)
  obtain ⟨hP1, hD1⟩ := hB
  rw [ht] at hP1
  obtain ⟨hP, hD⟩ := va_joinQ (X := [(d0, .inr (0, [.ref tx, .ref tr, .ref im, .ref m0, .ref rd])), (tr, .inr (10, [.ref ta, .int cn, .int dr])), (ta, .inl (cN, 40, .inr (.inr (.inr (.inr (rowF na cm)))))), (tx, .inr (9, [.ref tq, .int 0])), (tq, .inl (cB, 400, .inl tf))]) (cx := []) (wr := [(d0, .inr (0, [.ref tx, .ref tr, .ref im, .ref m0, .ref rd])), (tr, .inr (10, [.ref ta, .int cn, .int dr])), (ta, .inl (cN, 40, .inr (.inr (.inr (.inr (rowF na cm)))))), (tx, .inr (9, [.ref tq, .int 0])), (tq, .inl (cB, 400, .inl tf))]) (w1 := []) hP hD [] [0, 1, 2, 3, 4] rfl rfl (by decide +kernel) (by decide +kernel) hk1 hFc hP1 hD1
  clear hPc hDc hFc hP1 hD1 hk1 hz1 hkc hks
  generalize H1 = H at hP hS ⊢
  have hP : va_P D CL (([(d0, .inr (0, [.ref tx, .ref tr, .ref im, .ref m0, .ref rd])), (tr, .inr (10, [.ref ta, .int cn, .int dr])), (ta, .inl (cN, 40, .inr (.inr (.inr (.inr (rowF na cm)))))), (tx, .inr (9, [.ref tq, .int 0])), (tq, .inl (cB, 400, .inl tf))] : va_W) ++ (PL (NC cB na ng nn nf) cm)) H := hP
  have hD : va_D A (([(d0, .inr (0, [.ref tx, .ref tr, .ref im, .ref m0, .ref rd])), (tr, .inr (10, [.ref ta, .int cn, .int dr])), (ta, .inl (cN, 40, .inr (.inr (.inr (.inr (rowF na cm)))))), (tx, .inr (9, [.ref tq, .int 0])), (tq, .inl (cB, 400, .inl tf))] : va_W) ++ (PL (NC cB na ng nn nf) cm)) := hD
  try dsimp only at hp_r3
  obtain ⟨hr_4, hd_5⟩ := hp_r3
  refine lv_if_ne (tgt := 22) hx hb d_DiscMaker_directory_16 (by decide) (fun h_9 => ?_) (fun h_9 => ?_)
  · skip
    have g16_9 : ¬ r3.toInt = 0 := fun h8 => h_9 ((i_eq rfl (by decide)).mpr h8)
    refine lv_aload_n hx hb d_DiscMaker_directory_22 rfl (lv_at hl 1 rfl) ?_
    refine lv_iload_n hx hb d_DiscMaker_directory_23 rfl (lv_at hl 2 rfl) ?_
    have hc_24 : 1 ≤ 4 := by decide
    have hs_24 : 12 ≤ 423 := by decide
    refine va_new (ci := 5) (fs := [.int 0, .null, .null, .null, .int 0, .int 0, .int 0, .int 0, .int 0, .int 0, .int 0, .int 0]) (C := "DiscMaker$Node") (T := F_Node) (N := 12) hx hb ht9 in_Node t_Node t_Node_ok hown (ht9 _ k482) (ht9 _ k173) (ht9 _ k118) hK hP hD hS hA rfl (by decide) hc_24 hs_24 d_DiscMaker_directory_24 (fun q6 H hP hD hS => ?_)
    have hP := hP.swap (a := [(d0, .inr (0, [.ref tx, .ref tr, .ref im, .ref m0, .ref rd])), (tr, .inr (10, [.ref ta, .int cn, .int dr])), (ta, .inl (cN, 40, .inr (.inr (.inr (.inr (rowF na cm)))))), (tx, .inr (9, [.ref tq, .int 0])), (tq, .inl (cB, 400, .inl tf))]) (b := (PL (NC cB na ng nn nf) cm))
    have hD := hD.swap (a := [(d0, .inr (0, [.ref tx, .ref tr, .ref im, .ref m0, .ref rd])), (tr, .inr (10, [.ref ta, .int cn, .int dr])), (ta, .inl (cN, 40, .inr (.inr (.inr (.inr (rowF na cm)))))), (tx, .inr (9, [.ref tq, .int 0])), (tq, .inl (cB, 400, .inl tf))]) (b := (PL (NC cB na ng nn nf) cm))
    have hP : va_P D CL (([(d0, .inr (0, [.ref tx, .ref tr, .ref im, .ref m0, .ref rd])), (tr, .inr (10, [.ref ta, .int cn, .int dr])), (ta, .inl (cN, 40, .inr (.inr (.inr (.inr (rowF na cm)))))), (tx, .inr (9, [.ref tq, .int 0])), (tq, .inl (cB, 400, .inl tf)), (q6, .inr (5, [.int 0, .null, .null, .null, .int 0, .int 0, .int 0, .int 0, .int 0, .int 0, .int 0, .int 0]))] : va_W) ++ (PL (NC cB na ng nn nf) cm)) H := hP
    have hD : va_D A (([(d0, .inr (0, [.ref tx, .ref tr, .ref im, .ref m0, .ref rd])), (tr, .inr (10, [.ref ta, .int cn, .int dr])), (ta, .inl (cN, 40, .inr (.inr (.inr (.inr (rowF na cm)))))), (tx, .inr (9, [.ref tq, .int 0])), (tq, .inl (cB, 400, .inl tf)), (q6, .inr (5, [.int 0, .null, .null, .null, .int 0, .int 0, .int 0, .int 0, .int 0, .int 0, .int 0, .int 0]))] : va_W) ++ (PL (NC cB na ng nn nf) cm)) := hD
    refine W.widen (k := 1) (n := 12) (by decide) (by decide) ?_
    refine lv_dup hx hb d_DiscMaker_directory_27 rfl ?_
    refine lv_iconst (v := 0) hx hb d_DiscMaker_directory_28 (by decide) ?_
    refine lv_aload_n hx hb d_DiscMaker_directory_29 rfl (lv_at hl 1 rfl) ?_
    refine va_get (D := D) (ci := 0) (v := .ref tx) (C := "DiscMaker") (T := F_DiscMaker) (N := 5) hx hb ht9 in_DiscMaker hown hK hP 0 rfl rfl 0 (by decide) (ht9 _ k431) (fun _ h9 => h9) rfl d_DiscMaker_directory_30 ?_
    refine lv_iconst (v := 0) hx hb d_DiscMaker_directory_33 (by decide) ?_
    refine lv_iload hx hb d_DiscMaker_directory_34 (lv_at hl 0 rfl) ?_
    have hPc := hP.sub (ws' := [(tx, .inr (9, [.ref tq, .int 0])), (tq, .inl (cB, 400, .inl tf))]) [3, 4] rfl
    have hDc := hD.sub (ws' := [(tx, .inr (9, [.ref tq, .int 0])), (tq, .inl (cB, 400, .inl tf))]) [3, 4] (by decide +kernel) rfl
    have hFc := va_free (wc := [(tx, .inr (9, [.ref tq, .int 0])), (tq, .inl (cB, 400, .inl tf))]) hD hS hA [3, 4] rfl
    have hkc : 2 ≤ 4 := by decide
    have hks : 412 ≤ 423 := by decide
    refine va_callr (va_runV (C := "DiscMaker$Text") (As := [.int 0, .int r1]) (rest := [.int 0, .ref q6, .ref q6, .int x, .ref d0]) ⟨hx, hb, hml, hown, hts⟩ (c3_part l D cB cI cJ cZ cN cF H.size tx tq 0 tf 0 r1 (by (try dsimp only); first | assumption | omega | trivial) (by (try dsimp only); first | assumption | omega | trivial)) (cwV 2 hts (lg_goodV k483 k484 k485 k116 kc_Text_part) rfl rfl rfl (by decide +kernel) ⟨Nat.le_of_ble_eq_true rfl, Nat.le_of_ble_eq_true rfl⟩) ⟨fun a U g mk q => by obtain ⟨q0, q1, qP, qK, qN, qD, qZ0⟩ := q; exact ⟨q0, q1, qP, va_K.moved (u := U) (U := U.calling g mk a) (Vm.Alike.refl U.vm) qK, qN.calling, qD, CST_blind qZ0⟩, va_recv hK hP (ci := 9) (q0 := 3) rfl rfl, fun U hU hW => ⟨rfl, by rw [hU], by rw [hU]; exact hPc, va_K.moved hW.alike hK, NN.warm hW hN, hDc.weaken (fun _ _ _ _ => trivial), va_Nw.warmC hW hZc⟩⟩ rfl rfl hl.1 rfl (lv_room (Nat.le_of_ble_eq_true rfl)) d_DiscMaker_directory_36 ⟨hkc, hks⟩) hS (fun q _ h => hFc q h) hFc (fun u r7 t H1 locs ht hvm hp_r7 hB hz1 hk1 hS => ?_)
    obtain ⟨n2_8, g_9⟩ := u
    obtain ⟨hP1, hD1⟩ := hB
    rw [ht] at hP1
    obtain ⟨hP, hD⟩ := va_joinQ (X := [(d0, .inr (0, [.ref tx, .ref tr, .ref im, .ref m0, .ref rd])), (tr, .inr (10, [.ref ta, .int cn, .int dr])), (ta, .inl (cN, 40, .inr (.inr (.inr (.inr (rowF na cm)))))), (tx, .inr (9, [.ref tq, .int 0])), (tq, .inl (cB, 400, .inl tf)), (q6, .inr (5, [.int 0, .null, .null, .null, .int 0, .int 0, .int 0, .int 0, .int 0, .int 0, .int 0, .int 0]))]) (cx := [(tx, .inr (9, [.ref tq, .int 0])), (tq, .inl (cB, 400, .inl tf))]) (wr := [(d0, .inr (0, [.ref tx, .ref tr, .ref im, .ref m0, .ref rd])), (tr, .inr (10, [.ref ta, .int cn, .int dr])), (ta, .inl (cN, 40, .inr (.inr (.inr (.inr (rowF na cm)))))), (q6, .inr (5, [.int 0, .null, .null, .null, .int 0, .int 0, .int 0, .int 0, .int 0, .int 0, .int 0, .int 0]))]) (w1 := [(tx, .inr (9, [.ref tq, .int 0])), (tq, .inl (cB, 400, .inl tf)), (r7, .inl (cB, n2_8, .inl g_9))]) hP hD [3, 4] [0, 1, 2, 5] rfl rfl (by decide +kernel) (by decide +kernel) hk1 hFc hP1 hD1
    clear hPc hDc hFc hP1 hD1 hk1 hz1 hkc hks
    generalize H1 = H at hP hS ⊢
    have hP : va_P D CL (([(d0, .inr (0, [.ref tx, .ref tr, .ref im, .ref m0, .ref rd])), (tr, .inr (10, [.ref ta, .int cn, .int dr])), (ta, .inl (cN, 40, .inr (.inr (.inr (.inr (rowF na cm)))))), (q6, .inr (5, [.int 0, .null, .null, .null, .int 0, .int 0, .int 0, .int 0, .int 0, .int 0, .int 0, .int 0])), (tx, .inr (9, [.ref tq, .int 0])), (tq, .inl (cB, 400, .inl tf)), (r7, .inl (cB, n2_8, .inl g_9))] : va_W) ++ (PL (NC cB na ng nn nf) cm)) H := hP
    have hD : va_D A (([(d0, .inr (0, [.ref tx, .ref tr, .ref im, .ref m0, .ref rd])), (tr, .inr (10, [.ref ta, .int cn, .int dr])), (ta, .inl (cN, 40, .inr (.inr (.inr (.inr (rowF na cm)))))), (q6, .inr (5, [.int 0, .null, .null, .null, .int 0, .int 0, .int 0, .int 0, .int 0, .int 0, .int 0, .int 0])), (tx, .inr (9, [.ref tq, .int 0])), (tq, .inl (cB, 400, .inl tf)), (r7, .inl (cB, n2_8, .inl g_9))] : va_W) ++ (PL (NC cB na ng nn nf) cm)) := hD
    refine W.widen (k := 2) (n := 412) (by decide) (by decide) ?_
    try dsimp only at hp_r7
    obtain ⟨hn2_10, hB2_11, hcp_12⟩ := hp_r7
    try rw [L_0] at hn2_10
    refine lv_iload_n hx hb d_DiscMaker_directory_39 rfl (lv_at hl 3 rfl) ?_
    refine lv_iload_n hx hb d_DiscMaker_directory_40 rfl (lv_at hl 4 rfl) ?_
    refine lv_iload hx hb d_DiscMaker_directory_41 (lv_at hl 5 rfl) ?_
    have hPc := hP.sub (ws' := [(q6, .inr (5, [.int 0, .null, .null, .null, .int 0, .int 0, .int 0, .int 0, .int 0, .int 0, .int 0, .int 0]))]) [3] rfl
    have hDc := hD.sub (ws' := [(q6, .inr (5, [.int 0, .null, .null, .null, .int 0, .int 0, .int 0, .int 0, .int 0, .int 0, .int 0, .int 0]))]) [3] (by decide +kernel) rfl
    have hFc := va_free (wc := [(q6, .inr (5, [.int 0, .null, .null, .null, .int 0, .int 0, .int 0, .int 0, .int 0, .int 0, .int 0, .int 0]))]) hD hS hA [3] rfl
    have hkc : 4 ≤ 4 := by decide
    have hks : 423 ≤ 423 := by decide
    refine va_callv (va_runI (As := [.int 0, .ref r7, .int y, .int z, .int w]) (rest := [.ref q6, .int x, .ref d0]) ⟨hx, hb, hml, hown, hts⟩ (c_Node_init l D cB cI cJ cZ cN cF H.size q6 r7 0 y z w) (cwI 5 hts (lg_good kc_Node_init) rfl rfl rfl (ht9 _ k118) (ht9 _ k790) (ht9 _ k175) rfl (by decide +kernel) ⟨Nat.le_of_ble_eq_true rfl, Nat.le_of_ble_eq_true rfl⟩) ⟨fun a U g mk q => by obtain ⟨q0, q1, qP, qK, qN, qD⟩ := q; exact ⟨q0, q1, qP, va_K.moved (u := U) (U := U.calling g mk a) (Vm.Alike.refl U.vm) qK, qN.calling, qD⟩, fun U hU hW => ⟨rfl, by rw [hU], by rw [hU]; exact hPc, va_K.moved hW.alike hK, NN.warm hW hN, hDc.weaken (fun _ _ _ _ => trivial)⟩⟩ rfl rfl hl.1 rfl (lv_room (Nat.le_of_ble_eq_true rfl)) d_DiscMaker_directory_43 ⟨hkc, hks⟩) hS (fun q _ h => hFc q h) hFc (fun u t H1 locs ht hvm hp_r13 hB hz1 hk1 hS => ?_)
    obtain ⟨qt_14, qk_15⟩ := u
    obtain ⟨hP1, hD1⟩ := hB
    rw [ht] at hP1
    obtain ⟨hP, hD⟩ := va_joinQ (X := [(d0, .inr (0, [.ref tx, .ref tr, .ref im, .ref m0, .ref rd])), (tr, .inr (10, [.ref ta, .int cn, .int dr])), (ta, .inl (cN, 40, .inr (.inr (.inr (.inr (rowF na cm)))))), (q6, .inr (5, [.int 0, .null, .null, .null, .int 0, .int 0, .int 0, .int 0, .int 0, .int 0, .int 0, .int 0])), (tx, .inr (9, [.ref tq, .int 0])), (tq, .inl (cB, 400, .inl tf)), (r7, .inl (cB, n2_8, .inl g_9))]) (cx := [(q6, .inr (5, [.int 0, .null, .null, .null, .int 0, .int 0, .int 0, .int 0, .int 0, .int 0, .int 0, .int 0]))]) (wr := [(d0, .inr (0, [.ref tx, .ref tr, .ref im, .ref m0, .ref rd])), (tr, .inr (10, [.ref ta, .int cn, .int dr])), (ta, .inl (cN, 40, .inr (.inr (.inr (.inr (rowF na cm)))))), (tx, .inr (9, [.ref tq, .int 0])), (tq, .inl (cB, 400, .inl tf)), (r7, .inl (cB, n2_8, .inl g_9))]) (w1 := [(q6, .inr (5, [.int 0, .ref r7, .ref qk_15, .ref qt_14, .int 0, .int 0, .int 0, .int y, .int z, .int w, .int 0, .int 0])), (qt_14, .inl (cB, 0, .inl (fun _ => 0))), (qk_15, .inl (cB, 11, .inl (fun _ => 0)))]) hP hD [3] [0, 1, 2, 4, 5, 6] rfl rfl (by decide +kernel) (by decide +kernel) hk1 hFc hP1 hD1
    clear hPc hDc hFc hP1 hD1 hk1 hz1 hkc hks
    generalize H1 = H at hP hS ⊢
    have hP : va_P D CL (([(d0, .inr (0, [.ref tx, .ref tr, .ref im, .ref m0, .ref rd])), (tr, .inr (10, [.ref ta, .int cn, .int dr])), (ta, .inl (cN, 40, .inr (.inr (.inr (.inr (rowF na cm)))))), (tx, .inr (9, [.ref tq, .int 0])), (tq, .inl (cB, 400, .inl tf)), (r7, .inl (cB, n2_8, .inl g_9)), (q6, .inr (5, [.int 0, .ref r7, .ref qk_15, .ref qt_14, .int 0, .int 0, .int 0, .int y, .int z, .int w, .int 0, .int 0])), (qt_14, .inl (cB, 0, .inl (fun _ => 0))), (qk_15, .inl (cB, 11, .inl (fun _ => 0)))] : va_W) ++ (PL (NC cB na ng nn nf) cm)) H := hP
    have hD : va_D A (([(d0, .inr (0, [.ref tx, .ref tr, .ref im, .ref m0, .ref rd])), (tr, .inr (10, [.ref ta, .int cn, .int dr])), (ta, .inl (cN, 40, .inr (.inr (.inr (.inr (rowF na cm)))))), (tx, .inr (9, [.ref tq, .int 0])), (tq, .inl (cB, 400, .inl tf)), (r7, .inl (cB, n2_8, .inl g_9)), (q6, .inr (5, [.int 0, .ref r7, .ref qk_15, .ref qt_14, .int 0, .int 0, .int 0, .int y, .int z, .int w, .int 0, .int 0])), (qt_14, .inl (cB, 0, .inl (fun _ => 0))), (qk_15, .inl (cB, 11, .inl (fun _ => 0)))] : va_W) ++ (PL (NC cB na ng nn nf) cm)) := hD
    refine W.widen (k := 4) (n := 423) (by decide) (by decide) ?_
    have hPc := hP.part (X := [(d0, .inr (0, [.ref tx, .ref tr, .ref im, .ref m0, .ref rd])), (tr, .inr (10, [.ref ta, .int cn, .int dr])), (ta, .inl (cN, 40, .inr (.inr (.inr (.inr (rowF na cm)))))), (tx, .inr (9, [.ref tq, .int 0])), (tq, .inl (cB, 400, .inl tf)), (r7, .inl (cB, n2_8, .inl g_9)), (q6, .inr (5, [.int 0, .ref r7, .ref qk_15, .ref qt_14, .int 0, .int 0, .int 0, .int y, .int z, .int w, .int 0, .int 0])), (qt_14, .inl (cB, 0, .inl (fun _ => 0))), (qk_15, .inl (cB, 11, .inl (fun _ => 0)))]) (cx := [(d0, .inr (0, [.ref tx, .ref tr, .ref im, .ref m0, .ref rd])), (tr, .inr (10, [.ref ta, .int cn, .int dr])), (ta, .inl (cN, 40, .inr (.inr (.inr (.inr (rowF na cm)))))), (q6, .inr (5, [.int 0, .ref r7, .ref qk_15, .ref qt_14, .int 0, .int 0, .int 0, .int y, .int z, .int w, .int 0, .int 0])), (r7, .inl (cB, n2_8, .inl g_9)), (qk_15, .inl (cB, 11, .inl (fun _ => 0))), (qt_14, .inl (cB, 0, .inl (fun _ => 0)))]) [0, 1, 2, 6, 5, 8, 7] rfl
    have hDc := hD.part (X := [(d0, .inr (0, [.ref tx, .ref tr, .ref im, .ref m0, .ref rd])), (tr, .inr (10, [.ref ta, .int cn, .int dr])), (ta, .inl (cN, 40, .inr (.inr (.inr (.inr (rowF na cm)))))), (tx, .inr (9, [.ref tq, .int 0])), (tq, .inl (cB, 400, .inl tf)), (r7, .inl (cB, n2_8, .inl g_9)), (q6, .inr (5, [.int 0, .ref r7, .ref qk_15, .ref qt_14, .int 0, .int 0, .int 0, .int y, .int z, .int w, .int 0, .int 0])), (qt_14, .inl (cB, 0, .inl (fun _ => 0))), (qk_15, .inl (cB, 11, .inl (fun _ => 0)))]) (cx := [(d0, .inr (0, [.ref tx, .ref tr, .ref im, .ref m0, .ref rd])), (tr, .inr (10, [.ref ta, .int cn, .int dr])), (ta, .inl (cN, 40, .inr (.inr (.inr (.inr (rowF na cm)))))), (q6, .inr (5, [.int 0, .ref r7, .ref qk_15, .ref qt_14, .int 0, .int 0, .int 0, .int y, .int z, .int w, .int 0, .int 0])), (r7, .inl (cB, n2_8, .inl g_9)), (qk_15, .inl (cB, 11, .inl (fun _ => 0))), (qt_14, .inl (cB, 0, .inl (fun _ => 0)))]) [0, 1, 2, 6, 5, 8, 7] (by decide +kernel) rfl
    have hFc := va_freeP (X := [(d0, .inr (0, [.ref tx, .ref tr, .ref im, .ref m0, .ref rd])), (tr, .inr (10, [.ref ta, .int cn, .int dr])), (ta, .inl (cN, 40, .inr (.inr (.inr (.inr (rowF na cm)))))), (tx, .inr (9, [.ref tq, .int 0])), (tq, .inl (cB, 400, .inl tf)), (r7, .inl (cB, n2_8, .inl g_9)), (q6, .inr (5, [.int 0, .ref r7, .ref qk_15, .ref qt_14, .int 0, .int 0, .int 0, .int y, .int z, .int w, .int 0, .int 0])), (qt_14, .inl (cB, 0, .inl (fun _ => 0))), (qk_15, .inl (cB, 11, .inl (fun _ => 0)))]) (cx := [(d0, .inr (0, [.ref tx, .ref tr, .ref im, .ref m0, .ref rd])), (tr, .inr (10, [.ref ta, .int cn, .int dr])), (ta, .inl (cN, 40, .inr (.inr (.inr (.inr (rowF na cm)))))), (q6, .inr (5, [.int 0, .ref r7, .ref qk_15, .ref qt_14, .int 0, .int 0, .int 0, .int y, .int z, .int w, .int 0, .int 0])), (r7, .inl (cB, n2_8, .inl g_9)), (qk_15, .inl (cB, 11, .inl (fun _ => 0))), (qt_14, .inl (cB, 0, .inl (fun _ => 0)))]) hD hS hA [0, 1, 2, 6, 5, 8, 7] rfl
    have hkc : 4 ≤ 4 := by decide
    have hks : 423 ≤ 423 := by decide
    refine va_calli (va_runV (C := "DiscMaker") (As := [.int x, .ref q6]) (rest := []) ⟨hx, hb, hml, hown, hts⟩ (c3_grow l D cB cI cJ cZ cN cF H.size d0 tx tr im m0 rd ta cn dr na ng nn nf cm q6 r7 qk_15 qt_14 0 0 0 0 y z w 0 0 n2_8 g_9 (fun _ => 0) 0 (fun _ => 0) x (by (try dsimp only); first | assumption | omega | trivial) (by (try dsimp only); first | assumption | omega | trivial) (by (try dsimp only); first | assumption | omega | trivial) (by (try dsimp only); first | assumption | omega | trivial) (by (try dsimp only); first | assumption | omega | trivial) (by (try dsimp only); first | assumption | omega | trivial) (by (try dsimp only); first | assumption | omega | trivial) (by (try dsimp only); first | assumption | omega | trivial) (by (try dsimp only); first | assumption | omega | trivial) (hB2_11)) (cwV 2 hts (lg_goodV k791 k793 k2 k115 kc_DiscMaker_grow) rfl rfl rfl (by decide +kernel) ⟨Nat.le_of_ble_eq_true rfl, Nat.le_of_ble_eq_true rfl⟩) ⟨fun a U g mk q => by obtain ⟨q0, q1, qP, qK, qN, qD⟩ := q; exact ⟨q0, q1, qP, va_K.moved (u := U) (U := U.calling g mk a) (Vm.Alike.refl U.vm) qK, qN.calling, qD⟩, va_recv hK hP (ci := 0) (q0 := 0) rfl rfl, fun U hU hW => ⟨rfl, by rw [hU], by rw [hU]; exact hPc, va_K.moved hW.alike hK, NN.warm hW hN, hDc.weaken (fun _ _ _ _ => trivial)⟩⟩ rfl rfl hl.1 rfl (lv_room (Nat.le_of_ble_eq_true rfl)) d_DiscMaker_directory_46 ⟨hkc, hks⟩) hS (fun q _ h => hFc q h) hFc (fun r16 u t H1 locs ht hvm hp_r16 hB hz1 hk1 hS => ?_)
    obtain ⟨na2_17, ng2_18, nn2_19, nf2_20, cm2_21, cn2_22, dr2_23⟩ := u
    obtain ⟨hP1, hD1⟩ := hB
    rw [ht] at hP1
    obtain ⟨hP, hD⟩ := va_joinP (X := [(d0, .inr (0, [.ref tx, .ref tr, .ref im, .ref m0, .ref rd])), (tr, .inr (10, [.ref ta, .int cn, .int dr])), (ta, .inl (cN, 40, .inr (.inr (.inr (.inr (rowF na cm)))))), (tx, .inr (9, [.ref tq, .int 0])), (tq, .inl (cB, 400, .inl tf)), (r7, .inl (cB, n2_8, .inl g_9)), (q6, .inr (5, [.int 0, .ref r7, .ref qk_15, .ref qt_14, .int 0, .int 0, .int 0, .int y, .int z, .int w, .int 0, .int 0])), (qt_14, .inl (cB, 0, .inl (fun _ => 0))), (qk_15, .inl (cB, 11, .inl (fun _ => 0)))]) (cx := [(d0, .inr (0, [.ref tx, .ref tr, .ref im, .ref m0, .ref rd])), (tr, .inr (10, [.ref ta, .int cn, .int dr])), (ta, .inl (cN, 40, .inr (.inr (.inr (.inr (rowF na cm)))))), (q6, .inr (5, [.int 0, .ref r7, .ref qk_15, .ref qt_14, .int 0, .int 0, .int 0, .int y, .int z, .int w, .int 0, .int 0])), (r7, .inl (cB, n2_8, .inl g_9)), (qk_15, .inl (cB, 11, .inl (fun _ => 0))), (qt_14, .inl (cB, 0, .inl (fun _ => 0)))]) (wr := [(tx, .inr (9, [.ref tq, .int 0])), (tq, .inl (cB, 400, .inl tf))]) (rx := [(d0, .inr (0, [.ref tx, .ref tr, .ref im, .ref m0, .ref rd])), (tr, .inr (10, [.ref ta, .int cn2_22, .int dr2_23])), (ta, .inl (cN, 40, .inr (.inr (.inr (.inr (rowF na2_17 cm2_21))))))]) hP hD [0, 1, 2, 6, 5, 8, 7] [3, 4] rfl rfl (by decide +kernel) (by decide +kernel) hk1 hFc hP1 hD1
    clear hPc hDc hFc hP1 hD1 hk1 hz1 hkc hks
    generalize H1 = H at hP hS ⊢
    have hP : va_P D CL (([(tx, .inr (9, [.ref tq, .int 0])), (tq, .inl (cB, 400, .inl tf)), (d0, .inr (0, [.ref tx, .ref tr, .ref im, .ref m0, .ref rd])), (tr, .inr (10, [.ref ta, .int cn2_22, .int dr2_23])), (ta, .inl (cN, 40, .inr (.inr (.inr (.inr (rowF na2_17 cm2_21))))))] : va_W) ++ (PL (NC cB na2_17 ng2_18 nn2_19 nf2_20) cm2_21)) H := hP
    have hD : va_D A (([(tx, .inr (9, [.ref tq, .int 0])), (tq, .inl (cB, 400, .inl tf)), (d0, .inr (0, [.ref tx, .ref tr, .ref im, .ref m0, .ref rd])), (tr, .inr (10, [.ref ta, .int cn2_22, .int dr2_23])), (ta, .inl (cN, 40, .inr (.inr (.inr (.inr (rowF na2_17 cm2_21))))))] : va_W) ++ (PL (NC cB na2_17 ng2_18 nn2_19 nf2_20) cm2_21)) := hD
    try dsimp only at hp_r16
    obtain ⟨hcn2_24, htok2_25, hdr2_26, htoa2_27, hG_28⟩ := hp_r16
    have h7 := i_cl (a := tL) (by omega)
    have hP9 := hP.part (X := [(tx, .inr (9, [.ref tq, .int 0])), (tq, .inl (cB, 400, .inl tf)), (d0, .inr (0, [.ref tx, .ref tr, .ref im, .ref m0, .ref rd])), (tr, .inr (10, [.ref ta, .int cn2_22, .int dr2_23])), (ta, .inl (cN, 40, .inr (.inr (.inr (.inr (rowF na2_17 cm2_21))))))]) (cx := [(d0, .inr (0, [.ref tx, .ref tr, .ref im, .ref m0, .ref rd])), (tx, .inr (9, [.ref tq, .int 0])), (tq, .inl (cB, 400, .inl tf)), (tr, .inr (10, [.ref ta, .int cn2_22, .int dr2_23])), (ta, .inl (cN, 40, .inr (.inr (.inr (.inr (rowF na2_17 cm2_21))))))]) [2, 0, 1, 3, 4] rfl
    have hD9 := hD.part (X := [(tx, .inr (9, [.ref tq, .int 0])), (tq, .inl (cB, 400, .inl tf)), (d0, .inr (0, [.ref tx, .ref tr, .ref im, .ref m0, .ref rd])), (tr, .inr (10, [.ref ta, .int cn2_22, .int dr2_23])), (ta, .inl (cN, 40, .inr (.inr (.inr (.inr (rowF na2_17 cm2_21))))))]) (cx := [(d0, .inr (0, [.ref tx, .ref tr, .ref im, .ref m0, .ref rd])), (tx, .inr (9, [.ref tq, .int 0])), (tq, .inl (cB, 400, .inl tf)), (tr, .inr (10, [.ref ta, .int cn2_22, .int dr2_23])), (ta, .inl (cN, 40, .inr (.inr (.inr (.inr (rowF na2_17 cm2_21))))))]) [2, 0, 1, 3, 4] (by decide +kernel) rfl
    exact W.iret (v := r16) hx hb hr (fun t ht hW => ⟨⟨r16, (na2_17, ng2_18, nn2_19, nf2_20, cm2_21, cn2_22, dr2_23), rfl, ⟨(by (try dsimp only); first | assumption | omega | trivial), htok2_25, (by (try dsimp only); first | assumption | omega | trivial), htoa2_27, (hG_28.to (hd_5.t (by omega)) (by omega) (fun j hj => by rw [hcp_12 j hj, show (0 : Int32).toNatClampNeg + j = j by rw [show (0 : Int32).toNatClampNeg = 0 by decide, Nat.zero_add]]) rfl (fun j hj => absurd hj (by omega)))⟩, by rw [ht]; exact hP9, hD9⟩, hS.F ht⟩) hS.2.2 d_DiscMaker_directory_49
  · skip
    have g16_9 : r3.toInt = 0 := (i_eq rfl (by decide)).mp h_9
    refine lv_bipush (v := (-4)) hx hb d_DiscMaker_directory_19 (by decide) ?_
    have hP9 := hP.part (X := [(d0, .inr (0, [.ref tx, .ref tr, .ref im, .ref m0, .ref rd])), (tr, .inr (10, [.ref ta, .int cn, .int dr])), (ta, .inl (cN, 40, .inr (.inr (.inr (.inr (rowF na cm)))))), (tx, .inr (9, [.ref tq, .int 0])), (tq, .inl (cB, 400, .inl tf))]) (cx := [(d0, .inr (0, [.ref tx, .ref tr, .ref im, .ref m0, .ref rd])), (tx, .inr (9, [.ref tq, .int 0])), (tq, .inl (cB, 400, .inl tf)), (tr, .inr (10, [.ref ta, .int cn, .int dr])), (ta, .inl (cN, 40, .inr (.inr (.inr (.inr (rowF na cm))))))]) [0, 3, 4, 1, 2] rfl
    have hD9 := hD.part (X := [(d0, .inr (0, [.ref tx, .ref tr, .ref im, .ref m0, .ref rd])), (tr, .inr (10, [.ref ta, .int cn, .int dr])), (ta, .inl (cN, 40, .inr (.inr (.inr (.inr (rowF na cm)))))), (tx, .inr (9, [.ref tq, .int 0])), (tq, .inl (cB, 400, .inl tf))]) (cx := [(d0, .inr (0, [.ref tx, .ref tr, .ref im, .ref m0, .ref rd])), (tx, .inr (9, [.ref tq, .int 0])), (tq, .inl (cB, 400, .inl tf)), (tr, .inr (10, [.ref ta, .int cn, .int dr])), (ta, .inl (cN, 40, .inr (.inr (.inr (.inr (rowF na cm))))))]) [0, 3, 4, 1, 2] (by decide +kernel) rfl
    refine W.widen (k := 4) (n := 423) (by decide) (by decide) ?_
    exact W.iret (v := (-4)) hx hb hr (fun t ht hW => ⟨⟨(-4), (na, ng, nn, nf, cm, cn, dr), rfl, ⟨(by (try dsimp only); first | assumption | omega | trivial), htok, (by (try dsimp only); first | assumption | omega | trivial), htoa, (Or.inl ⟨Or.inl ⟨by decide, fun h8 => hd_5.f (by omega) h8.1⟩, rfl, rfl, rfl, rfl, rfl⟩)⟩, by rw [ht]; exact hP9, hD9⟩, hS.F ht⟩) hS.2.2 d_DiscMaker_directory_21

theorem d_DiscMaker_file_0 : decode b_DiscMaker_file 0 = .ok (.aload_n 0, 1) := by decide +kernel
theorem d_DiscMaker_file_1 : decode b_DiscMaker_file 1 = .ok (.getfield 10, 3) := by decide +kernel
theorem d_DiscMaker_file_4 : decode b_DiscMaker_file 4 = .ok (.invokevirtual 58, 3) := by decide +kernel
theorem d_DiscMaker_file_7 : decode b_DiscMaker_file 7 = .ok (.istore 4, 2) := by decide +kernel
theorem d_DiscMaker_file_9 : decode b_DiscMaker_file 9 = .ok (.iload_n 2, 1) := by decide +kernel
theorem d_DiscMaker_file_10 : decode b_DiscMaker_file 10 = .ok (.sipush 4100, 3) := by decide +kernel
theorem d_DiscMaker_file_13 : decode b_DiscMaker_file 13 = .ok (.invokestatic 79, 3) := by decide +kernel
theorem d_DiscMaker_file_16 : decode b_DiscMaker_file 16 = .ok (.ifCond .eq 13, 3) := by decide +kernel
theorem d_DiscMaker_file_19 : decode b_DiscMaker_file 19 = .ok (.iload_n 3, 1) := by decide +kernel
theorem d_DiscMaker_file_20 : decode b_DiscMaker_file 20 = .ok (.sipush 255, 3) := by decide +kernel
theorem d_DiscMaker_file_23 : decode b_DiscMaker_file 23 = .ok (.invokestatic 79, 3) := by decide +kernel
theorem d_DiscMaker_file_26 : decode b_DiscMaker_file 26 = .ok (.ifCond .ne 6, 3) := by decide +kernel
theorem d_DiscMaker_file_29 : decode b_DiscMaker_file 29 = .ok (.bipush (-4), 2) := by decide +kernel
theorem d_DiscMaker_file_31 : decode b_DiscMaker_file 31 = .ok (.ireturn, 1) := by decide +kernel
theorem d_DiscMaker_file_32 : decode b_DiscMaker_file 32 = .ok (.new 66, 3) := by decide +kernel
theorem d_DiscMaker_file_35 : decode b_DiscMaker_file 35 = .ok (.dup, 1) := by decide +kernel
theorem d_DiscMaker_file_36 : decode b_DiscMaker_file 36 = .ok (.iconst 1, 1) := by decide +kernel
theorem d_DiscMaker_file_37 : decode b_DiscMaker_file 37 = .ok (.aload_n 0, 1) := by decide +kernel
theorem d_DiscMaker_file_38 : decode b_DiscMaker_file 38 = .ok (.getfield 10, 3) := by decide +kernel
theorem d_DiscMaker_file_41 : decode b_DiscMaker_file 41 = .ok (.iconst 0, 1) := by decide +kernel
theorem d_DiscMaker_file_42 : decode b_DiscMaker_file 42 = .ok (.iload 4, 2) := by decide +kernel
theorem d_DiscMaker_file_44 : decode b_DiscMaker_file 44 = .ok (.invokevirtual 68, 3) := by decide +kernel
theorem d_DiscMaker_file_47 : decode b_DiscMaker_file 47 = .ok (.sipush 420, 3) := by decide +kernel
theorem d_DiscMaker_file_50 : decode b_DiscMaker_file 50 = .ok (.iconst 0, 1) := by decide +kernel
theorem d_DiscMaker_file_51 : decode b_DiscMaker_file 51 = .ok (.iconst 0, 1) := by decide +kernel
theorem d_DiscMaker_file_52 : decode b_DiscMaker_file 52 = .ok (.invokespecial 72, 3) := by decide +kernel
theorem d_DiscMaker_file_55 : decode b_DiscMaker_file 55 = .ok (.astore 5, 2) := by decide +kernel
theorem d_DiscMaker_file_57 : decode b_DiscMaker_file 57 = .ok (.aload 5, 2) := by decide +kernel
theorem d_DiscMaker_file_59 : decode b_DiscMaker_file 59 = .ok (.iload_n 2, 1) := by decide +kernel
theorem d_DiscMaker_file_60 : decode b_DiscMaker_file 60 = .ok (.putfield 83, 3) := by decide +kernel
theorem d_DiscMaker_file_63 : decode b_DiscMaker_file 63 = .ok (.aload 5, 2) := by decide +kernel
theorem d_DiscMaker_file_65 : decode b_DiscMaker_file 65 = .ok (.iload_n 3, 1) := by decide +kernel
theorem d_DiscMaker_file_66 : decode b_DiscMaker_file 66 = .ok (.putfield 87, 3) := by decide +kernel
theorem d_DiscMaker_file_69 : decode b_DiscMaker_file 69 = .ok (.aload_n 0, 1) := by decide +kernel
theorem d_DiscMaker_file_70 : decode b_DiscMaker_file 70 = .ok (.iload_n 1, 1) := by decide +kernel
theorem d_DiscMaker_file_71 : decode b_DiscMaker_file 71 = .ok (.aload 5, 2) := by decide +kernel
theorem d_DiscMaker_file_73 : decode b_DiscMaker_file 73 = .ok (.invokevirtual 75, 3) := by decide +kernel
theorem d_DiscMaker_file_76 : decode b_DiscMaker_file 76 = .ok (.ireturn, 1) := by decide +kernel
set_option maxHeartbeats 4000000 in
set_option maxRecDepth 100000 in
theorem c3_file (l : Launch) (D : va_G) (cB cI cJ cZ cN cF : ClassId) (sz : Nat) (d0 : Nat) (tx : Nat) (tr : Nat) (im : Nat) (m0 : Nat) (rd : Nat) (tq : Nat) (tL : Int32) (tf : Nat → Int32) (ta : Nat) (cn : Int32) (dr : Int32) (na : Nat → Nat → Nat) (ng : Nat → Nat → Int32) (nn : Nat → Nat → Nat) (nf : Nat → Nat → Nat → Int32) (cm : Nat) (x : Int32) (y : Int32) (z : Int32) (htL : 0 ≤ tL.toInt ∧ tL.toInt ≤ 400) (htB : Rg (-128) 127 400 tf) (hcn : cn.toInt = cm) (hcm : cm ≤ 40) (htok : TOK cm ng nn) (htoa : TOA cm ng) (hdr : 0 ≤ dr.toInt ∧ dr.toInt ≤ cn.toInt) : Met l y_DiscMaker_file w_DiscMaker_file ({ frames := 7, cells := 4, slots := 423, locals := 199 }) (va_Pc [.ref d0, .int x, .int y, .int z] (fun U => U.heap.size = sz ∧ va_P D CL (([(d0, .inr (0, [.ref tx, .ref tr, .ref im, .ref m0, .ref rd])), (tx, .inr (9, [.ref tq, .int tL])), (tq, .inl (cB, 400, .inl tf)), (tr, .inr (10, [.ref ta, .int cn, .int dr])), (ta, .inl (cN, 40, .inr (.inr (.inr (.inr (rowF na cm))))))] : va_W) ++ (PL (NC cB na ng nn nf) cm)) U.heap ∧ va_K D CL (TY cB cI cJ cZ cN cF) U ∧ NN U ∧ va_D (fun _ => True) (([(d0, .inr (0, [.ref tx, .ref tr, .ref im, .ref m0, .ref rd])), (tx, .inr (9, [.ref tq, .int tL])), (tq, .inl (cB, 400, .inl tf)), (tr, .inr (10, [.ref ta, .int cn, .int dr])), (ta, .inl (cN, 40, .inr (.inr (.inr (.inr (rowF na cm))))))] : va_W) ++ (PL (NC cB na ng nn nf) cm)) ∧ CST (va_A (([(d0, .inr (0, [.ref tx, .ref tr, .ref im, .ref m0, .ref rd])), (tx, .inr (9, [.ref tq, .int tL])), (tq, .inl (cB, 400, .inl tf)), (tr, .inr (10, [.ref ta, .int cn, .int dr])), (ta, .inl (cN, 40, .inr (.inr (.inr (.inr (rowF na cm))))))] : va_W) ++ (PL (NC cB na ng nn nf) cm)) sz) U U.heap)) (va_Qi (fun (r : Int32) (u : (Nat → Nat → Nat) × (Nat → Nat → Int32) × (Nat → Nat → Nat) × (Nat → Nat → Nat → Int32) × Nat × Int32 × Int32) => match u with | (na2, ng2, nn2, nf2, cm2, cn2, dr2) => (cn2.toInt = cm2 ∧ cm ≤ cm2 ∧ cm2 ≤ 40) ∧ (TOK cm2 ng2 nn2) ∧ (0 ≤ dr2.toInt ∧ dr2.toInt ≤ cn2.toInt) ∧ (TOA cm2 ng2) ∧ (GrowC (FilP y z) r x 1 420 0 0 y z dr dr2 cm cm2 ng ng2 nn nn2 nf nf2 tL.toNatClampNeg tf 0 (fun _ => 0))) (fun (u : (Nat → Nat → Nat) × (Nat → Nat → Int32) × (Nat → Nat → Nat) × (Nat → Nat → Nat → Int32) × Nat × Int32 × Int32) (t : State) => match u with | (na2, ng2, nn2, nf2, cm2, cn2, dr2) => va_P D CL (([(d0, .inr (0, [.ref tx, .ref tr, .ref im, .ref m0, .ref rd])), (tx, .inr (9, [.ref tq, .int 0])), (tq, .inl (cB, 400, .inl tf)), (tr, .inr (10, [.ref ta, .int cn2, .int dr2])), (ta, .inl (cN, 40, .inr (.inr (.inr (.inr (rowF na2 cm2))))))] : va_W) ++ (PL (NC cB na2 ng2 nn2 nf2) cm2)) t.heap ∧ va_D (va_A (([(d0, .inr (0, [.ref tx, .ref tr, .ref im, .ref m0, .ref rd])), (tx, .inr (9, [.ref tq, .int tL])), (tq, .inl (cB, 400, .inl tf)), (tr, .inr (10, [.ref ta, .int cn, .int dr])), (ta, .inl (cN, 40, .inr (.inr (.inr (.inr (rowF na cm))))))] : va_W) ++ (PL (NC cB na ng nn nf) cm)) sz) (([(d0, .inr (0, [.ref tx, .ref tr, .ref im, .ref m0, .ref rd])), (tx, .inr (9, [.ref tq, .int 0])), (tq, .inl (cB, 400, .inl tf)), (tr, .inr (10, [.ref ta, .int cn2, .int dr2])), (ta, .inl (cN, 40, .inr (.inr (.inr (.inr (rowF na2 cm2))))))] : va_W) ++ (PL (NC cB na2 ng2 nn2 nf2) cm2))) (va_A (([(d0, .inr (0, [.ref tx, .ref tr, .ref im, .ref m0, .ref rd])), (tx, .inr (9, [.ref tq, .int tL])), (tq, .inl (cB, 400, .inl tf)), (tr, .inr (10, [.ref ta, .int cn, .int dr])), (ta, .inl (cN, 40, .inr (.inr (.inr (.inr (rowF na cm))))))] : va_W) ++ (PL (NC cB na ng nn nf) cm)) sz)) 4 423 (va_A (([(d0, .inr (0, [.ref tx, .ref tr, .ref im, .ref m0, .ref rd])), (tx, .inr (9, [.ref tq, .int tL])), (tq, .inl (cB, 400, .inl tf)), (tr, .inr (10, [.ref ta, .int cn, .int dr])), (ta, .inl (cN, 40, .inr (.inr (.inr (.inr (rowF na cm))))))] : va_W) ++ (PL (NC cB na ng nn nf) cm)) sz) := by
  refine Met.ofW (cc := b_DiscMaker_file) (maxL := 6) (ret := some .int) (by decide +kernel) rfl ?_
  intro p e s m args below meth c s₁ B hml hv
  obtain ⟨rfl, hsz, hP, hK, hN, hD0, hZc⟩ := hv
  have hx := B.exec
  have hb := B.bytes
  have hr := B.returns
  have hts := atoms_spec (ws := w_DiscMaker_file) B.pre
  have ht9 := fun (w : Cond) (h : w ∈ lw_g) => hts w (List.mem_cons_of_mem _ h)
  have hown : s.vm.findClass "DiscMaker" = some m.cls := findClass_of_methodNamed B.named
  have hlocks := B.notSynchronized
  subst hsz
  have hD := hD0.self (sz := s.heap.size)
  generalize hAe : va_A (([(d0, .inr (0, [.ref tx, .ref tr, .ref im, .ref m0, .ref rd])), (tx, .inr (9, [.ref tq, .int tL])), (tq, .inl (cB, 400, .inl tf)), (tr, .inr (10, [.ref ta, .int cn, .int dr])), (ta, .inl (cN, 40, .inr (.inr (.inr (.inr (rowF na cm))))))] : va_W) ++ (PL (NC cB na ng nn nf) cm)) s.heap.size = A at hD hZc ⊢
  have hA : ∀ q : Nat, s.heap.size ≤ q → A q := fun q h => by rw [← hAe]; exact Or.inr h
  have hS : va_S A s.heap s.heap [] := va_S.rf
  have hP : va_P D CL (([(d0, .inr (0, [.ref tx, .ref tr, .ref im, .ref m0, .ref rd])), (tx, .inr (9, [.ref tq, .int tL])), (tq, .inl (cB, 400, .inl tf)), (tr, .inr (10, [.ref ta, .int cn, .int dr])), (ta, .inl (cN, 40, .inr (.inr (.inr (.inr (rowF na cm))))))] : va_W) ++ (PL (NC cB na ng nn nf) cm)) s.heap := hP
  have hl := lv_entry [.ref d0, .int x, .int y, .int z] (n := 6) (Nat.le_of_ble_eq_true rfl)
  rw [lg_entry_eq]
  generalize (lg_sl [.ref d0, .int x, .int y, .int z] ++ List.replicate (6 - (lg_sl [.ref d0, .int x, .int y, .int z]).length) Slot.unset).toArray = ls at hl ⊢
  have hl : lv_has ls 6 [(0, .ref d0), (1, .int x), (2, .int y), (3, .int z)] := hl
  have L_m4 : ((-4) : Int32).toInt = (-4) := by decide
  have L_m1 : ((-1) : Int32).toInt = (-1) := by decide
  have L_0 : (0 : Int32).toInt = 0 := by decide
  have L_1 : (1 : Int32).toInt = 1 := by decide
  have L_255 : (255 : Int32).toInt = 255 := by decide
  have L_420 : (420 : Int32).toInt = 420 := by decide
  have L_4100 : (4100 : Int32).toInt = 4100 := by decide
  refine lv_aload_n hx hb d_DiscMaker_file_0 rfl (lv_at hl 0 rfl) ?_
  refine va_get (D := D) (ci := 0) (v := .ref tx) (C := "DiscMaker") (T := F_DiscMaker) (N := 5) hx hb ht9 in_DiscMaker hown hK hP 0 rfl rfl 0 (by decide) (ht9 _ k431) (fun _ h9 => h9) rfl d_DiscMaker_file_1 ?_
  have hPc := hP.sub (ws' := [(tx, .inr (9, [.ref tq, .int tL])), (tq, .inl (cB, 400, .inl tf))]) [1, 2] rfl
  have hDc := hD.sub (ws' := [(tx, .inr (9, [.ref tq, .int tL])), (tq, .inl (cB, 400, .inl tf))]) [1, 2] (by decide +kernel) rfl
  have hFc := va_free (wc := [(tx, .inr (9, [.ref tq, .int tL])), (tq, .inl (cB, 400, .inl tf))]) hD hS hA [1, 2] rfl
  have hkc : 0 ≤ 4 := by decide
  have hks : 0 ≤ 423 := by decide
  refine va_calli (va_runV (C := "DiscMaker$Text") (As := []) (rest := []) ⟨hx, hb, hml, hown, hts⟩ (c3_useUp l D cB cI cJ cZ cN cF s.heap.size tx tq tL tf) (cwV 0 hts (lg_goodV k471 k472 k473 k116 kc_Text_useUp) rfl rfl rfl (by decide +kernel) ⟨Nat.le_of_ble_eq_true rfl, Nat.le_of_ble_eq_true rfl⟩) ⟨fun a U g mk q => by obtain ⟨q0, q1, qP, qK, qN, qD⟩ := q; exact ⟨q0, q1, qP, va_K.moved (u := U) (U := U.calling g mk a) (Vm.Alike.refl U.vm) qK, qN.calling, qD⟩, va_recv hK hP (ci := 9) (q0 := 1) rfl rfl, fun U hU hW => ⟨rfl, by rw [hU], by rw [hU]; exact hPc, va_K.moved hW.alike hK, NN.warm hW hN, hDc.weaken (fun _ _ _ _ => trivial)⟩⟩ rfl rfl hl.1 rfl (lv_room (Nat.le_of_ble_eq_true rfl)) d_DiscMaker_file_4 ⟨hkc, hks⟩) hS (fun q _ h => hFc q h) hFc (fun r1 u t H1 locs ht hvm hp_r1 hB hz1 hk1 hS => ?_)
  obtain ⟨hP1, hD1⟩ := hB
  rw [ht] at hP1
  obtain ⟨hP, hD⟩ := va_joinQ (X := [(d0, .inr (0, [.ref tx, .ref tr, .ref im, .ref m0, .ref rd])), (tx, .inr (9, [.ref tq, .int tL])), (tq, .inl (cB, 400, .inl tf)), (tr, .inr (10, [.ref ta, .int cn, .int dr])), (ta, .inl (cN, 40, .inr (.inr (.inr (.inr (rowF na cm))))))]) (cx := [(tx, .inr (9, [.ref tq, .int tL])), (tq, .inl (cB, 400, .inl tf))]) (wr := [(d0, .inr (0, [.ref tx, .ref tr, .ref im, .ref m0, .ref rd])), (tr, .inr (10, [.ref ta, .int cn, .int dr])), (ta, .inl (cN, 40, .inr (.inr (.inr (.inr (rowF na cm))))))]) (w1 := [(tx, .inr (9, [.ref tq, .int 0])), (tq, .inl (cB, 400, .inl tf))]) hP hD [1, 2] [0, 3, 4] rfl rfl (by decide +kernel) (by decide +kernel) hk1 hFc hP1 hD1
  clear hPc hDc hFc hP1 hD1 hk1 hz1 hkc hks
  generalize H1 = H at hP hS ⊢
  have hP : va_P D CL (([(d0, .inr (0, [.ref tx, .ref tr, .ref im, .ref m0, .ref rd])), (tr, .inr (10, [.ref ta, .int cn, .int dr])), (ta, .inl (cN, 40, .inr (.inr (.inr (.inr (rowF na cm)))))), (tx, .inr (9, [.ref tq, .int 0])), (tq, .inl (cB, 400, .inl tf))] : va_W) ++ (PL (NC cB na ng nn nf) cm)) H := hP
  have hD : va_D A (([(d0, .inr (0, [.ref tx, .ref tr, .ref im, .ref m0, .ref rd])), (tr, .inr (10, [.ref ta, .int cn, .int dr])), (ta, .inl (cN, 40, .inr (.inr (.inr (.inr (rowF na cm)))))), (tx, .inr (9, [.ref tq, .int 0])), (tq, .inl (cB, 400, .inl tf))] : va_W) ++ (PL (NC cB na ng nn nf) cm)) := hD
  try dsimp only at hp_r1
  have hv_2 := hp_r1
  have qv_r1 : r1.toInt = tL.toInt := by rw [hv_2]
  refine lv_istore hx hb d_DiscMaker_file_7 hl (by decide) rfl (fun ls hl => ?_)
  have hl : lv_has ls 6 [(4, .int r1), (0, .ref d0), (1, .int x), (2, .int y), (3, .int z)] := hl
  refine lv_iload_n hx hb d_DiscMaker_file_9 rfl (lv_at hl 3 rfl) ?_
  refine lv_sipush (v := 4100) hx hb d_DiscMaker_file_10 (by decide) ?_
  have hPc := hP.sub (ws' := []) [] rfl
  have hDc := hD.sub (ws' := []) [] (by decide +kernel) rfl
  have hFc := va_free (wc := []) hD hS hA [] rfl
  have hkc : 0 ≤ 4 := by decide
  have hks : 0 ≤ 423 := by decide
  refine va_calli (va_runS (As := [.int y, .int 4100]) (rest := []) ⟨hx, hb, hml, hown, hts⟩ (c3_isWithin l D cB cI cJ cZ cN cF H.size y 4100) (cwS 2 hts (lg_goodS k479 k480 k115 kc_DiscMaker_isWithin) rfl rfl rfl (by decide +kernel) ⟨Nat.le_of_ble_eq_true rfl, Nat.le_of_ble_eq_true rfl⟩) ⟨fun a U g mk q => by obtain ⟨q0, q1, qP, qK, qN, qD⟩ := q; exact ⟨q0, q1, qP, va_K.moved (u := U) (U := U.calling g mk a) (Vm.Alike.refl U.vm) qK, qN.calling, qD⟩, fun U hU hW => ⟨rfl, by rw [hU], by rw [hU]; exact hPc, va_K.moved hW.alike hK, NN.warm hW hN, hDc.weaken (fun _ _ _ _ => trivial)⟩⟩ rfl rfl hl.1 rfl (lv_room (Nat.le_of_ble_eq_true rfl)) d_DiscMaker_file_13 ⟨hkc, hks⟩) hS (fun q _ h => hFc q h) hFc (fun r3 u t H1 locs ht hvm hp_r3 hB hz1 hk1 hS => ?_)
  obtain ⟨hP1, hD1⟩ := hB
  rw [ht] at hP1
  obtain ⟨hP, hD⟩ := va_joinQ (X := [(d0, .inr (0, [.ref tx, .ref tr, .ref im, .ref m0, .ref rd])), (tr, .inr (10, [.ref ta, .int cn, .int dr])), (ta, .inl (cN, 40, .inr (.inr (.inr (.inr (rowF na cm)))))), (tx, .inr (9, [.ref tq, .int 0])), (tq, .inl (cB, 400, .inl tf))]) (cx := []) (wr := [(d0, .inr (0, [.ref tx, .ref tr, .ref im, .ref m0, .ref rd])), (tr, .inr (10, [.ref ta, .int cn, .int dr])), (ta, .inl (cN, 40, .inr (.inr (.inr (.inr (rowF na cm)))))), (tx, .inr (9, [.ref tq, .int 0])), (tq, .inl (cB, 400, .inl tf))]) (w1 := []) hP hD [] [0, 1, 2, 3, 4] rfl rfl (by decide +kernel) (by decide +kernel) hk1 hFc hP1 hD1
  clear hPc hDc hFc hP1 hD1 hk1 hz1 hkc hks
  generalize H1 = H at hP hS ⊢
  have hP : va_P D CL (([(d0, .inr (0, [.ref tx, .ref tr, .ref im, .ref m0, .ref rd])), (tr, .inr (10, [.ref ta, .int cn, .int dr])), (ta, .inl (cN, 40, .inr (.inr (.inr (.inr (rowF na cm)))))), (tx, .inr (9, [.ref tq, .int 0])), (tq, .inl (cB, 400, .inl tf))] : va_W) ++ (PL (NC cB na ng nn nf) cm)) H := hP
  have hD : va_D A (([(d0, .inr (0, [.ref tx, .ref tr, .ref im, .ref m0, .ref rd])), (tr, .inr (10, [.ref ta, .int cn, .int dr])), (ta, .inl (cN, 40, .inr (.inr (.inr (.inr (rowF na cm)))))), (tx, .inr (9, [.ref tq, .int 0])), (tq, .inl (cB, 400, .inl tf))] : va_W) ++ (PL (NC cB na ng nn nf) cm)) := hD
  try dsimp only at hp_r3
  obtain ⟨hr_4, hv_5, hb_6⟩ := hp_r3
  try rw [L_4100] at hv_5
  try rw [L_4100] at hb_6
  refine lv_if_eq (tgt := 29) hx hb d_DiscMaker_file_16 (by decide) (fun h_9 => ?_) (fun h_9 => ?_)
  · skip
    have g16_8 : r3.toInt = 0 := (i_eq rfl (by decide)).mp h_9
    refine lv_bipush (v := (-4)) hx hb d_DiscMaker_file_29 (by decide) ?_
    have hP9 := hP.part (X := [(d0, .inr (0, [.ref tx, .ref tr, .ref im, .ref m0, .ref rd])), (tr, .inr (10, [.ref ta, .int cn, .int dr])), (ta, .inl (cN, 40, .inr (.inr (.inr (.inr (rowF na cm)))))), (tx, .inr (9, [.ref tq, .int 0])), (tq, .inl (cB, 400, .inl tf))]) (cx := [(d0, .inr (0, [.ref tx, .ref tr, .ref im, .ref m0, .ref rd])), (tx, .inr (9, [.ref tq, .int 0])), (tq, .inl (cB, 400, .inl tf)), (tr, .inr (10, [.ref ta, .int cn, .int dr])), (ta, .inl (cN, 40, .inr (.inr (.inr (.inr (rowF na cm))))))]) [0, 3, 4, 1, 2] rfl
    have hD9 := hD.part (X := [(d0, .inr (0, [.ref tx, .ref tr, .ref im, .ref m0, .ref rd])), (tr, .inr (10, [.ref ta, .int cn, .int dr])), (ta, .inl (cN, 40, .inr (.inr (.inr (.inr (rowF na cm)))))), (tx, .inr (9, [.ref tq, .int 0])), (tq, .inl (cB, 400, .inl tf))]) (cx := [(d0, .inr (0, [.ref tx, .ref tr, .ref im, .ref m0, .ref rd])), (tx, .inr (9, [.ref tq, .int 0])), (tq, .inl (cB, 400, .inl tf)), (tr, .inr (10, [.ref ta, .int cn, .int dr])), (ta, .inl (cN, 40, .inr (.inr (.inr (.inr (rowF na cm))))))]) [0, 3, 4, 1, 2] (by decide +kernel) rfl
    refine W.widen (k := 4) (n := 423) (by decide) (by decide) ?_
    exact W.iret (v := (-4)) hx hb hr (fun t ht hW => ⟨⟨(-4), (na, ng, nn, nf, cm, cn, dr), rfl, ⟨(by (try dsimp only); first | assumption | omega | trivial), htok, (by (try dsimp only); first | assumption | omega | trivial), htoa, (Or.inl ⟨Or.inl ⟨by decide, fun h8 => hb_6.f (by omega) h8.1.1⟩, rfl, rfl, rfl, rfl, rfl⟩)⟩, by rw [ht]; exact hP9, hD9⟩, hS.F ht⟩) hS.2.2 d_DiscMaker_file_31
  · skip
    have g16_8 : ¬ r3.toInt = 0 := fun h8 => h_9 ((i_eq rfl (by decide)).mpr h8)
    refine lv_iload_n hx hb d_DiscMaker_file_19 rfl (lv_at hl 4 rfl) ?_
    refine lv_sipush (v := 255) hx hb d_DiscMaker_file_20 (by decide) ?_
    have hPc := hP.sub (ws' := []) [] rfl
    have hDc := hD.sub (ws' := []) [] (by decide +kernel) rfl
    have hFc := va_free (wc := []) hD hS hA [] rfl
    have hkc : 0 ≤ 4 := by decide
    have hks : 0 ≤ 423 := by decide
    refine va_calli (va_runS (As := [.int z, .int 255]) (rest := []) ⟨hx, hb, hml, hown, hts⟩ (c3_isWithin l D cB cI cJ cZ cN cF H.size z 255) (cwS 2 hts (lg_goodS k479 k480 k115 kc_DiscMaker_isWithin) rfl rfl rfl (by decide +kernel) ⟨Nat.le_of_ble_eq_true rfl, Nat.le_of_ble_eq_true rfl⟩) ⟨fun a U g mk q => by obtain ⟨q0, q1, qP, qK, qN, qD⟩ := q; exact ⟨q0, q1, qP, va_K.moved (u := U) (U := U.calling g mk a) (Vm.Alike.refl U.vm) qK, qN.calling, qD⟩, fun U hU hW => ⟨rfl, by rw [hU], by rw [hU]; exact hPc, va_K.moved hW.alike hK, NN.warm hW hN, hDc.weaken (fun _ _ _ _ => trivial)⟩⟩ rfl rfl hl.1 rfl (lv_room (Nat.le_of_ble_eq_true rfl)) d_DiscMaker_file_23 ⟨hkc, hks⟩) hS (fun q _ h => hFc q h) hFc (fun r7 u t H1 locs ht hvm hp_r7 hB hz1 hk1 hS => ?_)
    obtain ⟨hP1, hD1⟩ := hB
    rw [ht] at hP1
    obtain ⟨hP, hD⟩ := va_joinQ (X := [(d0, .inr (0, [.ref tx, .ref tr, .ref im, .ref m0, .ref rd])), (tr, .inr (10, [.ref ta, .int cn, .int dr])), (ta, .inl (cN, 40, .inr (.inr (.inr (.inr (rowF na cm)))))), (tx, .inr (9, [.ref tq, .int 0])), (tq, .inl (cB, 400, .inl tf))]) (cx := []) (wr := [(d0, .inr (0, [.ref tx, .ref tr, .ref im, .ref m0, .ref rd])), (tr, .inr (10, [.ref ta, .int cn, .int dr])), (ta, .inl (cN, 40, .inr (.inr (.inr (.inr (rowF na cm)))))), (tx, .inr (9, [.ref tq, .int 0])), (tq, .inl (cB, 400, .inl tf))]) (w1 := []) hP hD [] [0, 1, 2, 3, 4] rfl rfl (by decide +kernel) (by decide +kernel) hk1 hFc hP1 hD1
    clear hPc hDc hFc hP1 hD1 hk1 hz1 hkc hks
    generalize H1 = H at hP hS ⊢
    have hP : va_P D CL (([(d0, .inr (0, [.ref tx, .ref tr, .ref im, .ref m0, .ref rd])), (tr, .inr (10, [.ref ta, .int cn, .int dr])), (ta, .inl (cN, 40, .inr (.inr (.inr (.inr (rowF na cm)))))), (tx, .inr (9, [.ref tq, .int 0])), (tq, .inl (cB, 400, .inl tf))] : va_W) ++ (PL (NC cB na ng nn nf) cm)) H := hP
    have hD : va_D A (([(d0, .inr (0, [.ref tx, .ref tr, .ref im, .ref m0, .ref rd])), (tr, .inr (10, [.ref ta, .int cn, .int dr])), (ta, .inl (cN, 40, .inr (.inr (.inr (.inr (rowF na cm)))))), (tx, .inr (9, [.ref tq, .int 0])), (tq, .inl (cB, 400, .inl tf))] : va_W) ++ (PL (NC cB na ng nn nf) cm)) := hD
    try dsimp only at hp_r7
    obtain ⟨hr_8, hv_9, hb_10⟩ := hp_r7
    try rw [L_255] at hv_9
    try rw [L_255] at hb_10
    refine lv_if_ne (tgt := 32) hx hb d_DiscMaker_file_26 (by decide) (fun h_9 => ?_) (fun h_9 => ?_)
    · skip
      have g26_14 : ¬ r7.toInt = 0 := fun h8 => h_9 ((i_eq rfl (by decide)).mpr h8)
      have hc_32 : 1 ≤ 4 := by decide
      have hs_32 : 12 ≤ 423 := by decide
      refine va_new (ci := 5) (fs := [.int 0, .null, .null, .null, .int 0, .int 0, .int 0, .int 0, .int 0, .int 0, .int 0, .int 0]) (C := "DiscMaker$Node") (T := F_Node) (N := 12) hx hb ht9 in_Node t_Node t_Node_ok hown (ht9 _ k482) (ht9 _ k173) (ht9 _ k118) hK hP hD hS hA rfl (by decide) hc_32 hs_32 d_DiscMaker_file_32 (fun q11 H hP hD hS => ?_)
      have hP := hP.swap (a := [(d0, .inr (0, [.ref tx, .ref tr, .ref im, .ref m0, .ref rd])), (tr, .inr (10, [.ref ta, .int cn, .int dr])), (ta, .inl (cN, 40, .inr (.inr (.inr (.inr (rowF na cm)))))), (tx, .inr (9, [.ref tq, .int 0])), (tq, .inl (cB, 400, .inl tf))]) (b := (PL (NC cB na ng nn nf) cm))
      have hD := hD.swap (a := [(d0, .inr (0, [.ref tx, .ref tr, .ref im, .ref m0, .ref rd])), (tr, .inr (10, [.ref ta, .int cn, .int dr])), (ta, .inl (cN, 40, .inr (.inr (.inr (.inr (rowF na cm)))))), (tx, .inr (9, [.ref tq, .int 0])), (tq, .inl (cB, 400, .inl tf))]) (b := (PL (NC cB na ng nn nf) cm))
      have hP : va_P D CL (([(d0, .inr (0, [.ref tx, .ref tr, .ref im, .ref m0, .ref rd])), (tr, .inr (10, [.ref ta, .int cn, .int dr])), (ta, .inl (cN, 40, .inr (.inr (.inr (.inr (rowF na cm)))))), (tx, .inr (9, [.ref tq, .int 0])), (tq, .inl (cB, 400, .inl tf)), (q11, .inr (5, [.int 0, .null, .null, .null, .int 0, .int 0, .int 0, .int 0, .int 0, .int 0, .int 0, .int 0]))] : va_W) ++ (PL (NC cB na ng nn nf) cm)) H := hP
      have hD : va_D A (([(d0, .inr (0, [.ref tx, .ref tr, .ref im, .ref m0, .ref rd])), (tr, .inr (10, [.ref ta, .int cn, .int dr])), (ta, .inl (cN, 40, .inr (.inr (.inr (.inr (rowF na cm)))))), (tx, .inr (9, [.ref tq, .int 0])), (tq, .inl (cB, 400, .inl tf)), (q11, .inr (5, [.int 0, .null, .null, .null, .int 0, .int 0, .int 0, .int 0, .int 0, .int 0, .int 0, .int 0]))] : va_W) ++ (PL (NC cB na ng nn nf) cm)) := hD
      refine W.widen (k := 1) (n := 12) (by decide) (by decide) ?_
      refine lv_dup hx hb d_DiscMaker_file_35 rfl ?_
      refine lv_iconst (v := 1) hx hb d_DiscMaker_file_36 (by decide) ?_
      refine lv_aload_n hx hb d_DiscMaker_file_37 rfl (lv_at hl 1 rfl) ?_
      refine va_get (D := D) (ci := 0) (v := .ref tx) (C := "DiscMaker") (T := F_DiscMaker) (N := 5) hx hb ht9 in_DiscMaker hown hK hP 0 rfl rfl 0 (by decide) (ht9 _ k431) (fun _ h9 => h9) rfl d_DiscMaker_file_38 ?_
      refine lv_iconst (v := 0) hx hb d_DiscMaker_file_41 (by decide) ?_
      refine lv_iload hx hb d_DiscMaker_file_42 (lv_at hl 0 rfl) ?_
      have hPc := hP.sub (ws' := [(tx, .inr (9, [.ref tq, .int 0])), (tq, .inl (cB, 400, .inl tf))]) [3, 4] rfl
      have hDc := hD.sub (ws' := [(tx, .inr (9, [.ref tq, .int 0])), (tq, .inl (cB, 400, .inl tf))]) [3, 4] (by decide +kernel) rfl
      have hFc := va_free (wc := [(tx, .inr (9, [.ref tq, .int 0])), (tq, .inl (cB, 400, .inl tf))]) hD hS hA [3, 4] rfl
      have hkc : 2 ≤ 4 := by decide
      have hks : 412 ≤ 423 := by decide
      refine va_callr (va_runV (C := "DiscMaker$Text") (As := [.int 0, .int r1]) (rest := [.int 1, .ref q11, .ref q11]) ⟨hx, hb, hml, hown, hts⟩ (c3_part l D cB cI cJ cZ cN cF H.size tx tq 0 tf 0 r1 (by (try dsimp only); first | assumption | omega | trivial) (by (try dsimp only); first | assumption | omega | trivial)) (cwV 2 hts (lg_goodV k483 k484 k485 k116 kc_Text_part) rfl rfl rfl (by decide +kernel) ⟨Nat.le_of_ble_eq_true rfl, Nat.le_of_ble_eq_true rfl⟩) ⟨fun a U g mk q => by obtain ⟨q0, q1, qP, qK, qN, qD, qZ0⟩ := q; exact ⟨q0, q1, qP, va_K.moved (u := U) (U := U.calling g mk a) (Vm.Alike.refl U.vm) qK, qN.calling, qD, CST_blind qZ0⟩, va_recv hK hP (ci := 9) (q0 := 3) rfl rfl, fun U hU hW => ⟨rfl, by rw [hU], by rw [hU]; exact hPc, va_K.moved hW.alike hK, NN.warm hW hN, hDc.weaken (fun _ _ _ _ => trivial), va_Nw.warmC hW hZc⟩⟩ rfl rfl hl.1 rfl (lv_room (Nat.le_of_ble_eq_true rfl)) d_DiscMaker_file_44 ⟨hkc, hks⟩) hS (fun q _ h => hFc q h) hFc (fun u r12 t H1 locs ht hvm hp_r12 hB hz1 hk1 hS => ?_)
      obtain ⟨n2_13, g_14⟩ := u
      obtain ⟨hP1, hD1⟩ := hB
      rw [ht] at hP1
      obtain ⟨hP, hD⟩ := va_joinQ (X := [(d0, .inr (0, [.ref tx, .ref tr, .ref im, .ref m0, .ref rd])), (tr, .inr (10, [.ref ta, .int cn, .int dr])), (ta, .inl (cN, 40, .inr (.inr (.inr (.inr (rowF na cm)))))), (tx, .inr (9, [.ref tq, .int 0])), (tq, .inl (cB, 400, .inl tf)), (q11, .inr (5, [.int 0, .null, .null, .null, .int 0, .int 0, .int 0, .int 0, .int 0, .int 0, .int 0, .int 0]))]) (cx := [(tx, .inr (9, [.ref tq, .int 0])), (tq, .inl (cB, 400, .inl tf))]) (wr := [(d0, .inr (0, [.ref tx, .ref tr, .ref im, .ref m0, .ref rd])), (tr, .inr (10, [.ref ta, .int cn, .int dr])), (ta, .inl (cN, 40, .inr (.inr (.inr (.inr (rowF na cm)))))), (q11, .inr (5, [.int 0, .null, .null, .null, .int 0, .int 0, .int 0, .int 0, .int 0, .int 0, .int 0, .int 0]))]) (w1 := [(tx, .inr (9, [.ref tq, .int 0])), (tq, .inl (cB, 400, .inl tf)), (r12, .inl (cB, n2_13, .inl g_14))]) hP hD [3, 4] [0, 1, 2, 5] rfl rfl (by decide +kernel) (by decide +kernel) hk1 hFc hP1 hD1
      clear hPc hDc hFc hP1 hD1 hk1 hz1 hkc hks
      generalize H1 = H at hP hS ⊢
      have hP : va_P D CL (([(d0, .inr (0, [.ref tx, .ref tr, .ref im, .ref m0, .ref rd])), (tr, .inr (10, [.ref ta, .int cn, .int dr])), (ta, .inl (cN, 40, .inr (.inr (.inr (.inr (rowF na cm)))))), (q11, .inr (5, [.int 0, .null, .null, .null, .int 0, .int 0, .int 0, .int 0, .int 0, .int 0, .int 0, .int 0])), (tx, .inr (9, [.ref tq, .int 0])), (tq, .inl (cB, 400, .inl tf)), (r12, .inl (cB, n2_13, .inl g_14))] : va_W) ++ (PL (NC cB na ng nn nf) cm)) H := hP
      have hD : va_D A (([(d0, .inr (0, [.ref tx, .ref tr, .ref im, .ref m0, .ref rd])), (tr, .inr (10, [.ref ta, .int cn, .int dr])), (ta, .inl (cN, 40, .inr (.inr (.inr (.inr (rowF na cm)))))), (q11, .inr (5, [.int 0, .null, .null, .null, .int 0, .int 0, .int 0, .int 0, .int 0, .int 0, .int 0, .int 0])), (tx, .inr (9, [.ref tq, .int 0])), (tq, .inl (cB, 400, .inl tf)), (r12, .inl (cB, n2_13, .inl g_14))] : va_W) ++ (PL (NC cB na ng nn nf) cm)) := hD
      refine W.widen (k := 2) (n := 412) (by decide) (by decide) ?_
      try dsimp only at hp_r12
      obtain ⟨hn2_15, hB2_16, hcp_17⟩ := hp_r12
      try rw [L_0] at hn2_15
      refine lv_sipush (v := 420) hx hb d_DiscMaker_file_47 (by decide) ?_
      refine lv_iconst (v := 0) hx hb d_DiscMaker_file_50 (by decide) ?_
      refine lv_iconst (v := 0) hx hb d_DiscMaker_file_51 (by decide) ?_
      have hPc := hP.sub (ws' := [(q11, .inr (5, [.int 0, .null, .null, .null, .int 0, .int 0, .int 0, .int 0, .int 0, .int 0, .int 0, .int 0]))]) [3] rfl
      have hDc := hD.sub (ws' := [(q11, .inr (5, [.int 0, .null, .null, .null, .int 0, .int 0, .int 0, .int 0, .int 0, .int 0, .int 0, .int 0]))]) [3] (by decide +kernel) rfl
      have hFc := va_free (wc := [(q11, .inr (5, [.int 0, .null, .null, .null, .int 0, .int 0, .int 0, .int 0, .int 0, .int 0, .int 0, .int 0]))]) hD hS hA [3] rfl
      have hkc : 4 ≤ 4 := by decide
      have hks : 423 ≤ 423 := by decide
      refine va_callv (va_runI (As := [.int 1, .ref r12, .int 420, .int 0, .int 0]) (rest := [.ref q11]) ⟨hx, hb, hml, hown, hts⟩ (c_Node_init l D cB cI cJ cZ cN cF H.size q11 r12 1 420 0 0) (cwI 5 hts (lg_good kc_Node_init) rfl rfl rfl (ht9 _ k118) (ht9 _ k790) (ht9 _ k175) rfl (by decide +kernel) ⟨Nat.le_of_ble_eq_true rfl, Nat.le_of_ble_eq_true rfl⟩) ⟨fun a U g mk q => by obtain ⟨q0, q1, qP, qK, qN, qD⟩ := q; exact ⟨q0, q1, qP, va_K.moved (u := U) (U := U.calling g mk a) (Vm.Alike.refl U.vm) qK, qN.calling, qD⟩, fun U hU hW => ⟨rfl, by rw [hU], by rw [hU]; exact hPc, va_K.moved hW.alike hK, NN.warm hW hN, hDc.weaken (fun _ _ _ _ => trivial)⟩⟩ rfl rfl hl.1 rfl (lv_room (Nat.le_of_ble_eq_true rfl)) d_DiscMaker_file_52 ⟨hkc, hks⟩) hS (fun q _ h => hFc q h) hFc (fun u t H1 locs ht hvm hp_r18 hB hz1 hk1 hS => ?_)
      obtain ⟨qt_19, qk_20⟩ := u
      obtain ⟨hP1, hD1⟩ := hB
      rw [ht] at hP1
      obtain ⟨hP, hD⟩ := va_joinQ (X := [(d0, .inr (0, [.ref tx, .ref tr, .ref im, .ref m0, .ref rd])), (tr, .inr (10, [.ref ta, .int cn, .int dr])), (ta, .inl (cN, 40, .inr (.inr (.inr (.inr (rowF na cm)))))), (q11, .inr (5, [.int 0, .null, .null, .null, .int 0, .int 0, .int 0, .int 0, .int 0, .int 0, .int 0, .int 0])), (tx, .inr (9, [.ref tq, .int 0])), (tq, .inl (cB, 400, .inl tf)), (r12, .inl (cB, n2_13, .inl g_14))]) (cx := [(q11, .inr (5, [.int 0, .null, .null, .null, .int 0, .int 0, .int 0, .int 0, .int 0, .int 0, .int 0, .int 0]))]) (wr := [(d0, .inr (0, [.ref tx, .ref tr, .ref im, .ref m0, .ref rd])), (tr, .inr (10, [.ref ta, .int cn, .int dr])), (ta, .inl (cN, 40, .inr (.inr (.inr (.inr (rowF na cm)))))), (tx, .inr (9, [.ref tq, .int 0])), (tq, .inl (cB, 400, .inl tf)), (r12, .inl (cB, n2_13, .inl g_14))]) (w1 := [(q11, .inr (5, [.int 1, .ref r12, .ref qk_20, .ref qt_19, .int 0, .int 0, .int 0, .int 420, .int 0, .int 0, .int 0, .int 0])), (qt_19, .inl (cB, 0, .inl (fun _ => 0))), (qk_20, .inl (cB, 11, .inl (fun _ => 0)))]) hP hD [3] [0, 1, 2, 4, 5, 6] rfl rfl (by decide +kernel) (by decide +kernel) hk1 hFc hP1 hD1
      clear hPc hDc hFc hP1 hD1 hk1 hz1 hkc hks
      generalize H1 = H at hP hS ⊢
      have hP : va_P D CL (([(d0, .inr (0, [.ref tx, .ref tr, .ref im, .ref m0, .ref rd])), (tr, .inr (10, [.ref ta, .int cn, .int dr])), (ta, .inl (cN, 40, .inr (.inr (.inr (.inr (rowF na cm)))))), (tx, .inr (9, [.ref tq, .int 0])), (tq, .inl (cB, 400, .inl tf)), (r12, .inl (cB, n2_13, .inl g_14)), (q11, .inr (5, [.int 1, .ref r12, .ref qk_20, .ref qt_19, .int 0, .int 0, .int 0, .int 420, .int 0, .int 0, .int 0, .int 0])), (qt_19, .inl (cB, 0, .inl (fun _ => 0))), (qk_20, .inl (cB, 11, .inl (fun _ => 0)))] : va_W) ++ (PL (NC cB na ng nn nf) cm)) H := hP
      have hD : va_D A (([(d0, .inr (0, [.ref tx, .ref tr, .ref im, .ref m0, .ref rd])), (tr, .inr (10, [.ref ta, .int cn, .int dr])), (ta, .inl (cN, 40, .inr (.inr (.inr (.inr (rowF na cm)))))), (tx, .inr (9, [.ref tq, .int 0])), (tq, .inl (cB, 400, .inl tf)), (r12, .inl (cB, n2_13, .inl g_14)), (q11, .inr (5, [.int 1, .ref r12, .ref qk_20, .ref qt_19, .int 0, .int 0, .int 0, .int 420, .int 0, .int 0, .int 0, .int 0])), (qt_19, .inl (cB, 0, .inl (fun _ => 0))), (qk_20, .inl (cB, 11, .inl (fun _ => 0)))] : va_W) ++ (PL (NC cB na ng nn nf) cm)) := hD
      refine W.widen (k := 4) (n := 423) (by decide) (by decide) ?_
      refine lv_astore hx hb d_DiscMaker_file_55 hl (by decide) rfl (fun ls hl => ?_)
      have hl : lv_has ls 6 [(5, .ref q11), (4, .int r1), (0, .ref d0), (1, .int x), (2, .int y), (3, .int z)] := hl
      refine lv_aload hx hb d_DiscMaker_file_57 (lv_at hl 0 rfl) ?_
      refine lv_iload_n hx hb d_DiscMaker_file_59 rfl (lv_at hl 4 rfl) ?_
      refine va_putN (D := D) (ci := 5) (v := .int y) (ty := .int) (C := "DiscMaker$Node") (T := F_Node) (N := 12) hx hb ht9 in_Node t_Node t_Node_ok n_Node hown hK hP hD hS 6 rfl rfl 10 (by decide) (va_Nw.use rfl (hN _ k206)) (fun _ h9 => h9) rfl (by decide +kernel) rfl rfl (Nat.le_of_ble_eq_true rfl) d_DiscMaker_file_60 (fun H locs hP hD hS => ?_)
      have hP : va_P D CL (([(d0, .inr (0, [.ref tx, .ref tr, .ref im, .ref m0, .ref rd])), (tr, .inr (10, [.ref ta, .int cn, .int dr])), (ta, .inl (cN, 40, .inr (.inr (.inr (.inr (rowF na cm)))))), (tx, .inr (9, [.ref tq, .int 0])), (tq, .inl (cB, 400, .inl tf)), (r12, .inl (cB, n2_13, .inl g_14)), (q11, .inr (5, [.int 1, .ref r12, .ref qk_20, .ref qt_19, .int 0, .int 0, .int 0, .int 420, .int 0, .int 0, .int y, .int 0])), (qt_19, .inl (cB, 0, .inl (fun _ => 0))), (qk_20, .inl (cB, 11, .inl (fun _ => 0)))] : va_W) ++ (PL (NC cB na ng nn nf) cm)) H := hP
      have hD : va_D A (([(d0, .inr (0, [.ref tx, .ref tr, .ref im, .ref m0, .ref rd])), (tr, .inr (10, [.ref ta, .int cn, .int dr])), (ta, .inl (cN, 40, .inr (.inr (.inr (.inr (rowF na cm)))))), (tx, .inr (9, [.ref tq, .int 0])), (tq, .inl (cB, 400, .inl tf)), (r12, .inl (cB, n2_13, .inl g_14)), (q11, .inr (5, [.int 1, .ref r12, .ref qk_20, .ref qt_19, .int 0, .int 0, .int 0, .int 420, .int 0, .int 0, .int y, .int 0])), (qt_19, .inl (cB, 0, .inl (fun _ => 0))), (qk_20, .inl (cB, 11, .inl (fun _ => 0)))] : va_W) ++ (PL (NC cB na ng nn nf) cm)) := hD
      refine lv_aload hx hb d_DiscMaker_file_63 (lv_at hl 0 rfl) ?_
      refine lv_iload_n hx hb d_DiscMaker_file_65 rfl (lv_at hl 5 rfl) ?_
      refine va_putN (D := D) (ci := 5) (v := .int z) (ty := .int) (C := "DiscMaker$Node") (T := F_Node) (N := 12) hx hb ht9 in_Node t_Node t_Node_ok n_Node hown hK hP hD hS 6 rfl rfl 11 (by decide) (va_Nw.use rfl (hN _ k208)) (fun _ h9 => h9) rfl (by decide +kernel) rfl rfl (Nat.le_of_ble_eq_true rfl) d_DiscMaker_file_66 (fun H locs hP hD hS => ?_)
      have hP : va_P D CL (([(d0, .inr (0, [.ref tx, .ref tr, .ref im, .ref m0, .ref rd])), (tr, .inr (10, [.ref ta, .int cn, .int dr])), (ta, .inl (cN, 40, .inr (.inr (.inr (.inr (rowF na cm)))))), (tx, .inr (9, [.ref tq, .int 0])), (tq, .inl (cB, 400, .inl tf)), (r12, .inl (cB, n2_13, .inl g_14)), (q11, .inr (5, [.int 1, .ref r12, .ref qk_20, .ref qt_19, .int 0, .int 0, .int 0, .int 420, .int 0, .int 0, .int y, .int z])), (qt_19, .inl (cB, 0, .inl (fun _ => 0))), (qk_20, .inl (cB, 11, .inl (fun _ => 0)))] : va_W) ++ (PL (NC cB na ng nn nf) cm)) H := hP
      have hD : va_D A (([(d0, .inr (0, [.ref tx, .ref tr, .ref im, .ref m0, .ref rd])), (tr, .inr (10, [.ref ta, .int cn, .int dr])), (ta, .inl (cN, 40, .inr (.inr (.inr (.inr (rowF na cm)))))), (tx, .inr (9, [.ref tq, .int 0])), (tq, .inl (cB, 400, .inl tf)), (r12, .inl (cB, n2_13, .inl g_14)), (q11, .inr (5, [.int 1, .ref r12, .ref qk_20, .ref qt_19, .int 0, .int 0, .int 0, .int 420, .int 0, .int 0, .int y, .int z])), (qt_19, .inl (cB, 0, .inl (fun _ => 0))), (qk_20, .inl (cB, 11, .inl (fun _ => 0)))] : va_W) ++ (PL (NC cB na ng nn nf) cm)) := hD
      refine lv_aload_n hx hb d_DiscMaker_file_69 rfl (lv_at hl 2 rfl) ?_
      refine lv_iload_n hx hb d_DiscMaker_file_70 rfl (lv_at hl 3 rfl) ?_
      refine lv_aload hx hb d_DiscMaker_file_71 (lv_at hl 0 rfl) ?_
      have hPc := hP.part (X := [(d0, .inr (0, [.ref tx, .ref tr, .ref im, .ref m0, .ref rd])), (tr, .inr (10, [.ref ta, .int cn, .int dr])), (ta, .inl (cN, 40, .inr (.inr (.inr (.inr (rowF na cm)))))), (tx, .inr (9, [.ref tq, .int 0])), (tq, .inl (cB, 400, .inl tf)), (r12, .inl (cB, n2_13, .inl g_14)), (q11, .inr (5, [.int 1, .ref r12, .ref qk_20, .ref qt_19, .int 0, .int 0, .int 0, .int 420, .int 0, .int 0, .int y, .int z])), (qt_19, .inl (cB, 0, .inl (fun _ => 0))), (qk_20, .inl (cB, 11, .inl (fun _ => 0)))]) (cx := [(d0, .inr (0, [.ref tx, .ref tr, .ref im, .ref m0, .ref rd])), (tr, .inr (10, [.ref ta, .int cn, .int dr])), (ta, .inl (cN, 40, .inr (.inr (.inr (.inr (rowF na cm)))))), (q11, .inr (5, [.int 1, .ref r12, .ref qk_20, .ref qt_19, .int 0, .int 0, .int 0, .int 420, .int 0, .int 0, .int y, .int z])), (r12, .inl (cB, n2_13, .inl g_14)), (qk_20, .inl (cB, 11, .inl (fun _ => 0))), (qt_19, .inl (cB, 0, .inl (fun _ => 0)))]) [0, 1, 2, 6, 5, 8, 7] rfl
      have hDc := hD.part (X := [(d0, .inr (0, [.ref tx, .ref tr, .ref im, .ref m0, .ref rd])), (tr, .inr (10, [.ref ta, .int cn, .int dr])), (ta, .inl (cN, 40, .inr (.inr (.inr (.inr (rowF na cm)))))), (tx, .inr (9, [.ref tq, .int 0])), (tq, .inl (cB, 400, .inl tf)), (r12, .inl (cB, n2_13, .inl g_14)), (q11, .inr (5, [.int 1, .ref r12, .ref qk_20, .ref qt_19, .int 0, .int 0, .int 0, .int 420, .int 0, .int 0, .int y, .int z])), (qt_19, .inl (cB, 0, .inl (fun _ => 0))), (qk_20, .inl (cB, 11, .inl (fun _ => 0)))]) (cx := [(d0, .inr (0, [.ref tx, .ref tr, .ref im, .ref m0, .ref rd])), (tr, .inr (10, [.ref ta, .int cn, .int dr])), (ta, .inl (cN, 40, .inr (.inr (.inr (.inr (rowF na cm)))))), (q11, .inr (5, [.int 1, .ref r12, .ref qk_20, .ref qt_19, .int 0, .int 0, .int 0, .int 420, .int 0, .int 0, .int y, .int z])), (r12, .inl (cB, n2_13, .inl g_14)), (qk_20, .inl (cB, 11, .inl (fun _ => 0))), (qt_19, .inl (cB, 0, .inl (fun _ => 0)))]) [0, 1, 2, 6, 5, 8, 7] (by decide +kernel) rfl
      have hFc := va_freeP (X := [(d0, .inr (0, [.ref tx, .ref tr, .ref im, .ref m0, .ref rd])), (tr, .inr (10, [.ref ta, .int cn, .int dr])), (ta, .inl (cN, 40, .inr (.inr (.inr (.inr (rowF na cm)))))), (tx, .inr (9, [.ref tq, .int 0])), (tq, .inl (cB, 400, .inl tf)), (r12, .inl (cB, n2_13, .inl g_14)), (q11, .inr (5, [.int 1, .ref r12, .ref qk_20, .ref qt_19, .int 0, .int 0, .int 0, .int 420, .int 0, .int 0, .int y, .int z])), (qt_19, .inl (cB, 0, .inl (fun _ => 0))), (qk_20, .inl (cB, 11, .inl (fun _ => 0)))]) (cx := [(d0, .inr (0, [.ref tx, .ref tr, .ref im, .ref m0, .ref rd])), (tr, .inr (10, [.ref ta, .int cn, .int dr])), (ta, .inl (cN, 40, .inr (.inr (.inr (.inr (rowF na cm)))))), (q11, .inr (5, [.int 1, .ref r12, .ref qk_20, .ref qt_19, .int 0, .int 0, .int 0, .int 420, .int 0, .int 0, .int y, .int z])), (r12, .inl (cB, n2_13, .inl g_14)), (qk_20, .inl (cB, 11, .inl (fun _ => 0))), (qt_19, .inl (cB, 0, .inl (fun _ => 0)))]) hD hS hA [0, 1, 2, 6, 5, 8, 7] rfl
      have hkc : 4 ≤ 4 := by decide
      have hks : 423 ≤ 423 := by decide
      refine va_calli (va_runV (C := "DiscMaker") (As := [.int x, .ref q11]) (rest := []) ⟨hx, hb, hml, hown, hts⟩ (c3_grow l D cB cI cJ cZ cN cF H.size d0 tx tr im m0 rd ta cn dr na ng nn nf cm q11 r12 qk_20 qt_19 1 0 0 0 420 0 0 y z n2_13 g_14 (fun _ => 0) 0 (fun _ => 0) x (by (try dsimp only); first | assumption | omega | trivial) (by (try dsimp only); first | assumption | omega | trivial) (by (try dsimp only); first | assumption | omega | trivial) (by (try dsimp only); first | assumption | omega | trivial) (by (try dsimp only); first | assumption | omega | trivial) (by (try dsimp only); first | assumption | omega | trivial) (by (try dsimp only); first | assumption | omega | trivial) (by (try dsimp only); first | assumption | omega | trivial) (by (try dsimp only); first | assumption | omega | trivial) (hB2_16)) (cwV 2 hts (lg_goodV k791 k793 k2 k115 kc_DiscMaker_grow) rfl rfl rfl (by decide +kernel) ⟨Nat.le_of_ble_eq_true rfl, Nat.le_of_ble_eq_true rfl⟩) ⟨fun a U g mk q => by obtain ⟨q0, q1, qP, qK, qN, qD⟩ := q; exact ⟨q0, q1, qP, va_K.moved (u := U) (U := U.calling g mk a) (Vm.Alike.refl U.vm) qK, qN.calling, qD⟩, va_recv hK hP (ci := 0) (q0 := 0) rfl rfl, fun U hU hW => ⟨rfl, by rw [hU], by rw [hU]; exact hPc, va_K.moved hW.alike hK, NN.warm hW hN, hDc.weaken (fun _ _ _ _ => trivial)⟩⟩ rfl rfl hl.1 rfl (lv_room (Nat.le_of_ble_eq_true rfl)) d_DiscMaker_file_73 ⟨hkc, hks⟩) hS (fun q _ h => hFc q h) hFc (fun r21 u t H1 locs ht hvm hp_r21 hB hz1 hk1 hS => ?_)
      obtain ⟨na2_22, ng2_23, nn2_24, nf2_25, cm2_26, cn2_27, dr2_28⟩ := u
      obtain ⟨hP1, hD1⟩ := hB
      rw [ht] at hP1
      obtain ⟨hP, hD⟩ := va_joinP (X := [(d0, .inr (0, [.ref tx, .ref tr, .ref im, .ref m0, .ref rd])), (tr, .inr (10, [.ref ta, .int cn, .int dr])), (ta, .inl (cN, 40, .inr (.inr (.inr (.inr (rowF na cm)))))), (tx, .inr (9, [.ref tq, .int 0])), (tq, .inl (cB, 400, .inl tf)), (r12, .inl (cB, n2_13, .inl g_14)), (q11, .inr (5, [.int 1, .ref r12, .ref qk_20, .ref qt_19, .int 0, .int 0, .int 0, .int 420, .int 0, .int 0, .int y, .int z])), (qt_19, .inl (cB, 0, .inl (fun _ => 0))), (qk_20, .inl (cB, 11, .inl (fun _ => 0)))]) (cx := [(d0, .inr (0, [.ref tx, .ref tr, .ref im, .ref m0, .ref rd])), (tr, .inr (10, [.ref ta, .int cn, .int dr])), (ta, .inl (cN, 40, .inr (.inr (.inr (.inr (rowF na cm)))))), (q11, .inr (5, [.int 1, .ref r12, .ref qk_20, .ref qt_19, .int 0, .int 0, .int 0, .int 420, .int 0, .int 0, .int y, .int z])), (r12, .inl (cB, n2_13, .inl g_14)), (qk_20, .inl (cB, 11, .inl (fun _ => 0))), (qt_19, .inl (cB, 0, .inl (fun _ => 0)))]) (wr := [(tx, .inr (9, [.ref tq, .int 0])), (tq, .inl (cB, 400, .inl tf))]) (rx := [(d0, .inr (0, [.ref tx, .ref tr, .ref im, .ref m0, .ref rd])), (tr, .inr (10, [.ref ta, .int cn2_27, .int dr2_28])), (ta, .inl (cN, 40, .inr (.inr (.inr (.inr (rowF na2_22 cm2_26))))))]) hP hD [0, 1, 2, 6, 5, 8, 7] [3, 4] rfl rfl (by decide +kernel) (by decide +kernel) hk1 hFc hP1 hD1
      clear hPc hDc hFc hP1 hD1 hk1 hz1 hkc hks
      generalize H1 = H at hP hS ⊢
      have hP : va_P D CL (([(tx, .inr (9, [.ref tq, .int 0])), (tq, .inl (cB, 400, .inl tf)), (d0, .inr (0, [.ref tx, .ref tr, .ref im, .ref m0, .ref rd])), (tr, .inr (10, [.ref ta, .int cn2_27, .int dr2_28])), (ta, .inl (cN, 40, .inr (.inr (.inr (.inr (rowF na2_22 cm2_26))))))] : va_W) ++ (PL (NC cB na2_22 ng2_23 nn2_24 nf2_25) cm2_26)) H := hP
      have hD : va_D A (([(tx, .inr (9, [.ref tq, .int 0])), (tq, .inl (cB, 400, .inl tf)), (d0, .inr (0, [.ref tx, .ref tr, .ref im, .ref m0, .ref rd])), (tr, .inr (10, [.ref ta, .int cn2_27, .int dr2_28])), (ta, .inl (cN, 40, .inr (.inr (.inr (.inr (rowF na2_22 cm2_26))))))] : va_W) ++ (PL (NC cB na2_22 ng2_23 nn2_24 nf2_25) cm2_26)) := hD
      try dsimp only at hp_r21
      obtain ⟨hcn2_29, htok2_30, hdr2_31, htoa2_32, hG_33⟩ := hp_r21
      have h7 := i_cl (a := tL) (by omega)
      have hP9 := hP.part (X := [(tx, .inr (9, [.ref tq, .int 0])), (tq, .inl (cB, 400, .inl tf)), (d0, .inr (0, [.ref tx, .ref tr, .ref im, .ref m0, .ref rd])), (tr, .inr (10, [.ref ta, .int cn2_27, .int dr2_28])), (ta, .inl (cN, 40, .inr (.inr (.inr (.inr (rowF na2_22 cm2_26))))))]) (cx := [(d0, .inr (0, [.ref tx, .ref tr, .ref im, .ref m0, .ref rd])), (tx, .inr (9, [.ref tq, .int 0])), (tq, .inl (cB, 400, .inl tf)), (tr, .inr (10, [.ref ta, .int cn2_27, .int dr2_28])), (ta, .inl (cN, 40, .inr (.inr (.inr (.inr (rowF na2_22 cm2_26))))))]) [2, 0, 1, 3, 4] rfl
      have hD9 := hD.part (X := [(tx, .inr (9, [.ref tq, .int 0])), (tq, .inl (cB, 400, .inl tf)), (d0, .inr (0, [.ref tx, .ref tr, .ref im, .ref m0, .ref rd])), (tr, .inr (10, [.ref ta, .int cn2_27, .int dr2_28])), (ta, .inl (cN, 40, .inr (.inr (.inr (.inr (rowF na2_22 cm2_26))))))]) (cx := [(d0, .inr (0, [.ref tx, .ref tr, .ref im, .ref m0, .ref rd])), (tx, .inr (9, [.ref tq, .int 0])), (tq, .inl (cB, 400, .inl tf)), (tr, .inr (10, [.ref ta, .int cn2_27, .int dr2_28])), (ta, .inl (cN, 40, .inr (.inr (.inr (.inr (rowF na2_22 cm2_26))))))]) [2, 0, 1, 3, 4] (by decide +kernel) rfl
      exact W.iret (v := r21) hx hb hr (fun t ht hW => ⟨⟨r21, (na2_22, ng2_23, nn2_24, nf2_25, cm2_26, cn2_27, dr2_28), rfl, ⟨(by (try dsimp only); first | assumption | omega | trivial), htok2_30, (by (try dsimp only); first | assumption | omega | trivial), htoa2_32, (hG_33.to ⟨hb_6.t (by omega), hb_10.t (by omega)⟩ (by omega) (fun j hj => by rw [hcp_17 j hj, show (0 : Int32).toNatClampNeg + j = j by rw [show (0 : Int32).toNatClampNeg = 0 by decide, Nat.zero_add]]) rfl (fun j hj => absurd hj (by omega)))⟩, by rw [ht]; exact hP9, hD9⟩, hS.F ht⟩) hS.2.2 d_DiscMaker_file_76
    · skip
      have g26_14 : r7.toInt = 0 := (i_eq rfl (by decide)).mp h_9
      refine lv_bipush (v := (-4)) hx hb d_DiscMaker_file_29 (by decide) ?_
      have hP9 := hP.part (X := [(d0, .inr (0, [.ref tx, .ref tr, .ref im, .ref m0, .ref rd])), (tr, .inr (10, [.ref ta, .int cn, .int dr])), (ta, .inl (cN, 40, .inr (.inr (.inr (.inr (rowF na cm)))))), (tx, .inr (9, [.ref tq, .int 0])), (tq, .inl (cB, 400, .inl tf))]) (cx := [(d0, .inr (0, [.ref tx, .ref tr, .ref im, .ref m0, .ref rd])), (tx, .inr (9, [.ref tq, .int 0])), (tq, .inl (cB, 400, .inl tf)), (tr, .inr (10, [.ref ta, .int cn, .int dr])), (ta, .inl (cN, 40, .inr (.inr (.inr (.inr (rowF na cm))))))]) [0, 3, 4, 1, 2] rfl
      have hD9 := hD.part (X := [(d0, .inr (0, [.ref tx, .ref tr, .ref im, .ref m0, .ref rd])), (tr, .inr (10, [.ref ta, .int cn, .int dr])), (ta, .inl (cN, 40, .inr (.inr (.inr (.inr (rowF na cm)))))), (tx, .inr (9, [.ref tq, .int 0])), (tq, .inl (cB, 400, .inl tf))]) (cx := [(d0, .inr (0, [.ref tx, .ref tr, .ref im, .ref m0, .ref rd])), (tx, .inr (9, [.ref tq, .int 0])), (tq, .inl (cB, 400, .inl tf)), (tr, .inr (10, [.ref ta, .int cn, .int dr])), (ta, .inl (cN, 40, .inr (.inr (.inr (.inr (rowF na cm))))))]) [0, 3, 4, 1, 2] (by decide +kernel) rfl
      refine W.widen (k := 4) (n := 423) (by decide) (by decide) ?_
      exact W.iret (v := (-4)) hx hb hr (fun t ht hW => ⟨⟨(-4), (na, ng, nn, nf, cm, cn, dr), rfl, ⟨(by (try dsimp only); first | assumption | omega | trivial), htok, (by (try dsimp only); first | assumption | omega | trivial), htoa, (Or.inl ⟨Or.inl ⟨by decide, fun h8 => hb_10.f (by omega) h8.1.2⟩, rfl, rfl, rfl, rfl, rfl⟩)⟩, by rw [ht]; exact hP9, hD9⟩, hS.F ht⟩) hS.2.2 d_DiscMaker_file_31
