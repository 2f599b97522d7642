theorem d_DiscMakerModel_capital_0 : decode b_DiscMakerModel_capital 0 = .ok (.iload_n 0, 1) := by decide +kernel
theorem d_DiscMakerModel_capital_1 : decode b_DiscMakerModel_capital 1 = .ok (.bipush 97, 2) := by decide +kernel
theorem d_DiscMakerModel_capital_3 : decode b_DiscMakerModel_capital 3 = .ok (.if_icmp .lt 16, 3) := by decide +kernel
theorem d_DiscMakerModel_capital_6 : decode b_DiscMakerModel_capital 6 = .ok (.iload_n 0, 1) := by decide +kernel
theorem d_DiscMakerModel_capital_7 : decode b_DiscMakerModel_capital 7 = .ok (.bipush 122, 2) := by decide +kernel
theorem d_DiscMakerModel_capital_9 : decode b_DiscMakerModel_capital 9 = .ok (.if_icmp .gt 10, 3) := by decide +kernel
theorem d_DiscMakerModel_capital_12 : decode b_DiscMakerModel_capital 12 = .ok (.iload_n 0, 1) := by decide +kernel
theorem d_DiscMakerModel_capital_13 : decode b_DiscMakerModel_capital 13 = .ok (.bipush 32, 2) := by decide +kernel
theorem d_DiscMakerModel_capital_15 : decode b_DiscMakerModel_capital 15 = .ok (.isub, 1) := by decide +kernel
theorem d_DiscMakerModel_capital_16 : decode b_DiscMakerModel_capital 16 = .ok (.goto 23, 3) := by decide +kernel
theorem d_DiscMakerModel_capital_19 : decode b_DiscMakerModel_capital 19 = .ok (.iload_n 0, 1) := by decide +kernel
theorem d_DiscMakerModel_capital_20 : decode b_DiscMakerModel_capital 20 = .ok (.invokestatic 124, 3) := by decide +kernel
theorem d_DiscMakerModel_capital_23 : decode b_DiscMakerModel_capital 23 = .ok (.ifCond .ne 10, 3) := by decide +kernel
theorem d_DiscMakerModel_capital_26 : decode b_DiscMakerModel_capital 26 = .ok (.iload_n 0, 1) := by decide +kernel
theorem d_DiscMakerModel_capital_27 : decode b_DiscMakerModel_capital 27 = .ok (.invokestatic 128, 3) := by decide +kernel
theorem d_DiscMakerModel_capital_30 : decode b_DiscMakerModel_capital 30 = .ok (.ifCond .eq 7, 3) := by decide +kernel
theorem d_DiscMakerModel_capital_33 : decode b_DiscMakerModel_capital 33 = .ok (.iload_n 0, 1) := by decide +kernel
theorem d_DiscMakerModel_capital_34 : decode b_DiscMakerModel_capital 34 = .ok (.goto 5, 3) := by decide +kernel
theorem d_DiscMakerModel_capital_37 : decode b_DiscMakerModel_capital 37 = .ok (.bipush 95, 2) := by decide +kernel
theorem d_DiscMakerModel_capital_39 : decode b_DiscMakerModel_capital 39 = .ok (.ireturn, 1) := by decide +kernel
set_option maxHeartbeats 4000000 in
set_option maxRecDepth 100000 in
theorem m_capital (l : Launch) (D : va_G) (cB cI cJ cZ cN cF : ClassId) (sz : Nat) (x : Int32) (hx0 : 0 ≤ x.toInt ∧ x.toInt ≤ 255) : Met l y_DiscMakerModel_capital w_DiscMakerModel_capital ({ frames := 1, cells := 0, slots := 0, locals := 20 }) (va_Pc [.int x] (fun U => U.heap.size = sz ∧ va_P D CL [] U.heap ∧ va_K D CL (TY cB cI cJ cZ cN cF) U ∧ NN U ∧ va_D (fun _ => True) [])) (va_Qi (fun (r : Int32) (u : Unit) => True) (fun (u : Unit) (t : State) => match u with | () => va_P D CL [] t.heap ∧ va_D (va_A [] sz) []) (va_A [] sz)) 0 0 (va_A [] sz) := by
  refine Met.ofW (cc := b_DiscMakerModel_capital) (maxL := 1) (ret := some .int) (by decide) rfl ?_
  intro p e s m args below meth c s₁ B hml hv
  obtain ⟨rfl, hsz, hP, hK, hN, hD0⟩ := hv
  have hx := B.exec
  have hb := B.bytes
  have hr := B.returns
  have hts := atoms_spec (ws := w_DiscMakerModel_capital) B.pre
  have ht9 := fun (w : Cond) (h : w ∈ lw_g) => hts w (List.mem_cons_of_mem _ h)
  have hown : s.vm.findClass "DiscMakerModel" = some m.cls := findClass_of_methodNamed B.named
  have hlocks := B.notSynchronized
  subst hsz
  have hD := hD0.self (sz := s.heap.size)
  generalize hAe : va_A [] s.heap.size = A at hD ⊢
  have hA : ∀ q : Nat, s.heap.size ≤ q → A q := fun q h => by rw [← hAe]; exact Or.inr h
  have hS : va_S A s.heap s.heap [] := va_S.rf
  have hP : va_P D CL [] s.heap := hP
  have hl := lv_entry [.int x] (n := 1) (Nat.le_of_ble_eq_true rfl)
  rw [lg_entry_eq]
  generalize (lg_sl [.int x] ++ List.replicate (1 - (lg_sl [.int x]).length) Slot.unset).toArray = ls at hl ⊢
  have hl : lv_has ls 1 [(0, .int x)] := hl
  have L_m1 : ((-1) : Int32).toInt = (-1) := by decide
  have L_0 : (0 : Int32).toInt = 0 := by decide
  have L_1 : (1 : Int32).toInt = 1 := by decide
  have L_32 : (32 : Int32).toInt = 32 := by decide
  have L_95 : (95 : Int32).toInt = 95 := by decide
  have L_97 : (97 : Int32).toInt = 97 := by decide
  have L_122 : (122 : Int32).toInt = 122 := by decide
  refine lv_iload_n hx hb d_DiscMakerModel_capital_0 rfl (lv_at hl 0 rfl) ?_
  refine lv_bipush (v := 97) hx hb d_DiscMakerModel_capital_1 (by decide) ?_
  refine lv_icmp_lt (tgt := 19) hx hb d_DiscMakerModel_capital_3 (by decide) (fun h_9 => ?_) (fun h_9 => ?_)
  · skip
    have g3_3 : x.toInt < 97 := (i_lt rfl (by decide)).mp h_9
    refine lv_iload_n hx hb d_DiscMakerModel_capital_19 rfl (lv_at hl 0 rfl) ?_
    have hPc := hP.sub (ws' := []) [] rfl
    have hDc := hD.sub (ws' := []) [] (by decide +kernel) rfl
    have hFc := va_free (wc := []) hD hS hA [] rfl
    have hkc : 0 ≤ 0 := by decide
    have hks : 0 ≤ 0 := by decide
    refine va_calli (va_runS (As := [.int x]) (rest := []) ⟨hx, hb, hml, hown, hts⟩ (m_isLetter l D cB cI cJ cZ cN cF s.heap.size x) (cwS 1 hts (lg_goodS k1606 k1607 k125 kc_DiscMakerModel_isLetter) rfl rfl rfl (by decide +kernel) ⟨Nat.le_of_ble_eq_true rfl, Nat.le_of_ble_eq_true rfl⟩) ⟨fun a U g mk q => by obtain ⟨q0, q1, qP, qK, qN, qD⟩ := q; exact ⟨q0, q1, qP, va_K.moved (u := U) (U := U.calling g mk a) (Vm.Alike.refl U.vm) qK, qN.calling, qD⟩, fun U hU hW => ⟨rfl, by rw [hU], by rw [hU]; exact hPc, va_K.moved hW.alike hK, NN.warm hW hN, hDc.weaken (fun _ _ _ _ => trivial)⟩⟩ rfl rfl hl.1 rfl (lv_room (Nat.le_of_ble_eq_true rfl)) d_DiscMakerModel_capital_20 ⟨hkc, hks⟩) hS (fun q _ h => hFc q h) hFc (fun r1 u t H1 locs ht hvm hp_r1 hB hz1 hk1 hS => ?_)
    obtain ⟨hP1, hD1⟩ := hB
    rw [ht] at hP1
    obtain ⟨hP, hD⟩ := va_join (wr := []) (w1 := []) hP hD [] [] rfl rfl (by decide +kernel) (by decide +kernel) hk1 hFc hP1 hD1
    clear hPc hDc hFc hP1 hD1 hk1 hz1 hkc hks
    generalize H1 = H at hP hS ⊢
    have hP : va_P D CL [] H := hP
    have hD : va_D A [] := hD
    try dsimp only at hp_r1
    obtain ⟨hr_2, hl_3, hd_4⟩ := hp_r1
    refine lv_if_ne (tgt := 33) hx hb d_DiscMakerModel_capital_23 (by decide) (fun h_9 => ?_) (fun h_9 => ?_)
    · skip
      have g23_6 : ¬ r1.toInt = 0 := fun h8 => h_9 ((i_eq rfl (by decide)).mpr h8)
      refine lv_iload_n hx hb d_DiscMakerModel_capital_33 rfl (lv_at hl 0 rfl) ?_
      refine lv_goto (tgt := 39) hx hb d_DiscMakerModel_capital_34 (by decide) ?_
      have hP9 := hP.sub (ws' := []) [] rfl
      have hD9 := hD.sub (ws' := []) [] (by decide +kernel) rfl
      exact W.iret (v := x) hx hb hr (fun t ht hW => ⟨⟨x, (), rfl, trivial, by rw [ht]; exact hP9, hD9⟩, hS.F ht⟩) hS.2.2 d_DiscMakerModel_capital_39
    · skip
      have g23_6 : r1.toInt = 0 := (i_eq rfl (by decide)).mp h_9
      refine lv_iload_n hx hb d_DiscMakerModel_capital_26 rfl (lv_at hl 0 rfl) ?_
      have hPc := hP.sub (ws' := []) [] rfl
      have hDc := hD.sub (ws' := []) [] (by decide +kernel) rfl
      have hFc := va_free (wc := []) hD hS hA [] rfl
      have hkc : 0 ≤ 0 := by decide
      have hks : 0 ≤ 0 := by decide
      refine va_calli (va_runS (As := [.int x]) (rest := []) ⟨hx, hb, hml, hown, hts⟩ (m_isDigit l D cB cI cJ cZ cN cF H.size x) (cwS 1 hts (lg_goodS k1609 k1610 k125 kc_DiscMakerModel_isDigit) rfl rfl rfl (by decide +kernel) ⟨Nat.le_of_ble_eq_true rfl, Nat.le_of_ble_eq_true rfl⟩) ⟨fun a U g mk q => by obtain ⟨q0, q1, qP, qK, qN, qD⟩ := q; exact ⟨q0, q1, qP, va_K.moved (u := U) (U := U.calling g mk a) (Vm.Alike.refl U.vm) qK, qN.calling, qD⟩, fun U hU hW => ⟨rfl, by rw [hU], by rw [hU]; exact hPc, va_K.moved hW.alike hK, NN.warm hW hN, hDc.weaken (fun _ _ _ _ => trivial)⟩⟩ rfl rfl hl.1 rfl (lv_room (Nat.le_of_ble_eq_true rfl)) d_DiscMakerModel_capital_27 ⟨hkc, hks⟩) hS (fun q _ h => hFc q h) hFc (fun r5 u t H1 locs ht hvm hp_r5 hB hz1 hk1 hS => ?_)
      obtain ⟨hP1, hD1⟩ := hB
      rw [ht] at hP1
      obtain ⟨hP, hD⟩ := va_join (wr := []) (w1 := []) hP hD [] [] rfl rfl (by decide +kernel) (by decide +kernel) hk1 hFc hP1 hD1
      clear hPc hDc hFc hP1 hD1 hk1 hz1 hkc hks
      generalize H1 = H at hP hS ⊢
      have hP : va_P D CL [] H := hP
      have hD : va_D A [] := hD
      try dsimp only at hp_r5
      obtain ⟨hr_6, hl_7, hd_8⟩ := hp_r5
      refine lv_if_eq (tgt := 37) hx hb d_DiscMakerModel_capital_30 (by decide) (fun h_9 => ?_) (fun h_9 => ?_)
      · skip
        have g30_12 : r5.toInt = 0 := (i_eq rfl (by decide)).mp h_9
        refine lv_bipush (v := 95) hx hb d_DiscMakerModel_capital_37 (by decide) ?_
        have hP9 := hP.sub (ws' := []) [] rfl
        have hD9 := hD.sub (ws' := []) [] (by decide +kernel) rfl
        exact W.iret (v := 95) hx hb hr (fun t ht hW => ⟨⟨95, (), rfl, trivial, by rw [ht]; exact hP9, hD9⟩, hS.F ht⟩) hS.2.2 d_DiscMakerModel_capital_39
      · skip
        have g30_12 : ¬ r5.toInt = 0 := fun h8 => h_9 ((i_eq rfl (by decide)).mpr h8)
        refine lv_iload_n hx hb d_DiscMakerModel_capital_33 rfl (lv_at hl 0 rfl) ?_
        refine lv_goto (tgt := 39) hx hb d_DiscMakerModel_capital_34 (by decide) ?_
        have hP9 := hP.sub (ws' := []) [] rfl
        have hD9 := hD.sub (ws' := []) [] (by decide +kernel) rfl
        exact W.iret (v := x) hx hb hr (fun t ht hW => ⟨⟨x, (), rfl, trivial, by rw [ht]; exact hP9, hD9⟩, hS.F ht⟩) hS.2.2 d_DiscMakerModel_capital_39
  · skip
    have g3_3 : ¬ x.toInt < 97 := fun h8 => h_9 ((i_lt rfl (by decide)).mpr h8)
    refine lv_iload_n hx hb d_DiscMakerModel_capital_6 rfl (lv_at hl 0 rfl) ?_
    refine lv_bipush (v := 122) hx hb d_DiscMakerModel_capital_7 (by decide) ?_
    refine lv_icmp_gt (tgt := 19) hx hb d_DiscMakerModel_capital_9 (by decide) (fun h_9 => ?_) (fun h_9 => ?_)
    · skip
      have g9_20 : 122 < x.toInt := (i_lt (by decide) rfl).mp h_9
      refine lv_iload_n hx hb d_DiscMakerModel_capital_19 rfl (lv_at hl 0 rfl) ?_
      have hPc := hP.sub (ws' := []) [] rfl
      have hDc := hD.sub (ws' := []) [] (by decide +kernel) rfl
      have hFc := va_free (wc := []) hD hS hA [] rfl
      have hkc : 0 ≤ 0 := by decide
      have hks : 0 ≤ 0 := by decide
      refine va_calli (va_runS (As := [.int x]) (rest := []) ⟨hx, hb, hml, hown, hts⟩ (m_isLetter l D cB cI cJ cZ cN cF s.heap.size x) (cwS 1 hts (lg_goodS k1606 k1607 k125 kc_DiscMakerModel_isLetter) rfl rfl rfl (by decide +kernel) ⟨Nat.le_of_ble_eq_true rfl, Nat.le_of_ble_eq_true rfl⟩) ⟨fun a U g mk q => by obtain ⟨q0, q1, qP, qK, qN, qD⟩ := q; exact ⟨q0, q1, qP, va_K.moved (u := U) (U := U.calling g mk a) (Vm.Alike.refl U.vm) qK, qN.calling, qD⟩, fun U hU hW => ⟨rfl, by rw [hU], by rw [hU]; exact hPc, va_K.moved hW.alike hK, NN.warm hW hN, hDc.weaken (fun _ _ _ _ => trivial)⟩⟩ rfl rfl hl.1 rfl (lv_room (Nat.le_of_ble_eq_true rfl)) d_DiscMakerModel_capital_20 ⟨hkc, hks⟩) hS (fun q _ h => hFc q h) hFc (fun r9 u t H1 locs ht hvm hp_r9 hB hz1 hk1 hS => ?_)
      obtain ⟨hP1, hD1⟩ := hB
      rw [ht] at hP1
      obtain ⟨hP, hD⟩ := va_join (wr := []) (w1 := []) hP hD [] [] rfl rfl (by decide +kernel) (by decide +kernel) hk1 hFc hP1 hD1
      clear hPc hDc hFc hP1 hD1 hk1 hz1 hkc hks
      generalize H1 = H at hP hS ⊢
      have hP : va_P D CL [] H := hP
      have hD : va_D A [] := hD
      try dsimp only at hp_r9
      obtain ⟨hr_10, hl_11, hd_12⟩ := hp_r9
      refine lv_if_ne (tgt := 33) hx hb d_DiscMakerModel_capital_23 (by decide) (fun h_9 => ?_) (fun h_9 => ?_)
      · skip
        have g23_23 : ¬ r9.toInt = 0 := fun h8 => h_9 ((i_eq rfl (by decide)).mpr h8)
        refine lv_iload_n hx hb d_DiscMakerModel_capital_33 rfl (lv_at hl 0 rfl) ?_
        refine lv_goto (tgt := 39) hx hb d_DiscMakerModel_capital_34 (by decide) ?_
        have hP9 := hP.sub (ws' := []) [] rfl
        have hD9 := hD.sub (ws' := []) [] (by decide +kernel) rfl
        exact W.iret (v := x) hx hb hr (fun t ht hW => ⟨⟨x, (), rfl, trivial, by rw [ht]; exact hP9, hD9⟩, hS.F ht⟩) hS.2.2 d_DiscMakerModel_capital_39
      · skip
        have g23_23 : r9.toInt = 0 := (i_eq rfl (by decide)).mp h_9
        refine lv_iload_n hx hb d_DiscMakerModel_capital_26 rfl (lv_at hl 0 rfl) ?_
        have hPc := hP.sub (ws' := []) [] rfl
        have hDc := hD.sub (ws' := []) [] (by decide +kernel) rfl
        have hFc := va_free (wc := []) hD hS hA [] rfl
        have hkc : 0 ≤ 0 := by decide
        have hks : 0 ≤ 0 := by decide
        refine va_calli (va_runS (As := [.int x]) (rest := []) ⟨hx, hb, hml, hown, hts⟩ (m_isDigit l D cB cI cJ cZ cN cF H.size x) (cwS 1 hts (lg_goodS k1609 k1610 k125 kc_DiscMakerModel_isDigit) rfl rfl rfl (by decide +kernel) ⟨Nat.le_of_ble_eq_true rfl, Nat.le_of_ble_eq_true rfl⟩) ⟨fun a U g mk q => by obtain ⟨q0, q1, qP, qK, qN, qD⟩ := q; exact ⟨q0, q1, qP, va_K.moved (u := U) (U := U.calling g mk a) (Vm.Alike.refl U.vm) qK, qN.calling, qD⟩, fun U hU hW => ⟨rfl, by rw [hU], by rw [hU]; exact hPc, va_K.moved hW.alike hK, NN.warm hW hN, hDc.weaken (fun _ _ _ _ => trivial)⟩⟩ rfl rfl hl.1 rfl (lv_room (Nat.le_of_ble_eq_true rfl)) d_DiscMakerModel_capital_27 ⟨hkc, hks⟩) hS (fun q _ h => hFc q h) hFc (fun r13 u t H1 locs ht hvm hp_r13 hB hz1 hk1 hS => ?_)
        obtain ⟨hP1, hD1⟩ := hB
        rw [ht] at hP1
        obtain ⟨hP, hD⟩ := va_join (wr := []) (w1 := []) hP hD [] [] rfl rfl (by decide +kernel) (by decide +kernel) hk1 hFc hP1 hD1
        clear hPc hDc hFc hP1 hD1 hk1 hz1 hkc hks
        generalize H1 = H at hP hS ⊢
        have hP : va_P D CL [] H := hP
        have hD : va_D A [] := hD
        try dsimp only at hp_r13
        obtain ⟨hr_14, hl_15, hd_16⟩ := hp_r13
        refine lv_if_eq (tgt := 37) hx hb d_DiscMakerModel_capital_30 (by decide) (fun h_9 => ?_) (fun h_9 => ?_)
        · skip
          have g30_29 : r13.toInt = 0 := (i_eq rfl (by decide)).mp h_9
          refine lv_bipush (v := 95) hx hb d_DiscMakerModel_capital_37 (by decide) ?_
          have hP9 := hP.sub (ws' := []) [] rfl
          have hD9 := hD.sub (ws' := []) [] (by decide +kernel) rfl
          exact W.iret (v := 95) hx hb hr (fun t ht hW => ⟨⟨95, (), rfl, trivial, by rw [ht]; exact hP9, hD9⟩, hS.F ht⟩) hS.2.2 d_DiscMakerModel_capital_39
        · skip
          have g30_29 : ¬ r13.toInt = 0 := fun h8 => h_9 ((i_eq rfl (by decide)).mpr h8)
          refine lv_iload_n hx hb d_DiscMakerModel_capital_33 rfl (lv_at hl 0 rfl) ?_
          refine lv_goto (tgt := 39) hx hb d_DiscMakerModel_capital_34 (by decide) ?_
          have hP9 := hP.sub (ws' := []) [] rfl
          have hD9 := hD.sub (ws' := []) [] (by decide +kernel) rfl
          exact W.iret (v := x) hx hb hr (fun t ht hW => ⟨⟨x, (), rfl, trivial, by rw [ht]; exact hP9, hD9⟩, hS.F ht⟩) hS.2.2 d_DiscMakerModel_capital_39
    · skip
      have g9_20 : ¬ 122 < x.toInt := fun h8 => h_9 ((i_lt (by decide) rfl).mpr h8)
      refine lv_iload_n hx hb d_DiscMakerModel_capital_12 rfl (lv_at hl 0 rfl) ?_
      refine lv_bipush (v := 32) hx hb d_DiscMakerModel_capital_13 (by decide) ?_
      refine lv_isub hx hb d_DiscMakerModel_capital_15 ?_
      refine lv_topi (fun v17 e_v17 => ?_)
      have t_v17 : v17.toInt = x.toInt - 32 := by rw [e_v17]; exact i_sub rfl (by decide) (by omega) (by omega)
      refine lv_goto (tgt := 39) hx hb d_DiscMakerModel_capital_16 (by decide) ?_
      have hP9 := hP.sub (ws' := []) [] rfl
      have hD9 := hD.sub (ws' := []) [] (by decide +kernel) rfl
      exact W.iret (v := v17) hx hb hr (fun t ht hW => ⟨⟨v17, (), rfl, trivial, by rw [ht]; exact hP9, hD9⟩, hS.F ht⟩) hS.2.2 d_DiscMakerModel_capital_39

theorem d_DiscMakerModel_letter_0 : decode b_DiscMakerModel_letter 0 = .ok (.iload_n 2, 1) := by decide +kernel
theorem d_DiscMakerModel_letter_1 : decode b_DiscMakerModel_letter 1 = .ok (.aload_n 0, 1) := by decide +kernel
theorem d_DiscMakerModel_letter_2 : decode b_DiscMakerModel_letter 2 = .ok (.getfield 50, 3) := by decide +kernel
theorem d_DiscMakerModel_letter_5 : decode b_DiscMakerModel_letter 5 = .ok (.iload_n 1, 1) := by decide +kernel
theorem d_DiscMakerModel_letter_6 : decode b_DiscMakerModel_letter 6 = .ok (.iaload, 1) := by decide +kernel
theorem d_DiscMakerModel_letter_7 : decode b_DiscMakerModel_letter 7 = .ok (.if_icmp .ge 17, 3) := by decide +kernel
theorem d_DiscMakerModel_letter_10 : decode b_DiscMakerModel_letter 10 = .ok (.aload_n 0, 1) := by decide +kernel
theorem d_DiscMakerModel_letter_11 : decode b_DiscMakerModel_letter 11 = .ok (.getfield 47, 3) := by decide +kernel
theorem d_DiscMakerModel_letter_14 : decode b_DiscMakerModel_letter 14 = .ok (.bipush 8, 2) := by decide +kernel
theorem d_DiscMakerModel_letter_16 : decode b_DiscMakerModel_letter 16 = .ok (.iload_n 1, 1) := by decide +kernel
theorem d_DiscMakerModel_letter_17 : decode b_DiscMakerModel_letter 17 = .ok (.imul, 1) := by decide +kernel
theorem d_DiscMakerModel_letter_18 : decode b_DiscMakerModel_letter 18 = .ok (.iload_n 2, 1) := by decide +kernel
theorem d_DiscMakerModel_letter_19 : decode b_DiscMakerModel_letter 19 = .ok (.iadd, 1) := by decide +kernel
theorem d_DiscMakerModel_letter_20 : decode b_DiscMakerModel_letter 20 = .ok (.baload, 1) := by decide +kernel
theorem d_DiscMakerModel_letter_21 : decode b_DiscMakerModel_letter 21 = .ok (.goto 5, 3) := by decide +kernel
theorem d_DiscMakerModel_letter_24 : decode b_DiscMakerModel_letter 24 = .ok (.bipush 32, 2) := by decide +kernel
theorem d_DiscMakerModel_letter_26 : decode b_DiscMakerModel_letter 26 = .ok (.ireturn, 1) := by decide +kernel
set_option maxHeartbeats 4000000 in
set_option maxRecDepth 100000 in
theorem m_letter (l : Launch) (D : va_G) (cB cI cJ cZ cN cF : ClassId) (sz : Nat) (h0 : Nat) (ma : Nat → Nat) (sv_thrown sv_length sv_nodes sv_many sv_directories sv_runsFrom sv_runs sv_read sv_wrong sv_isNamed sv_goes sv_goesSize sv_goesAt sv_targetParts sv_isRoot : Int32) (fBa : Nat → Int32) (fBs : Nat → Int32) (x : Int32) (y : Int32) (hx0 : 0 ≤ x.toInt ∧ x.toInt < 40) (hy0 : 0 ≤ y.toInt ∧ y.toInt < 8) (hBa : Rg (-128) 127 320 fBa) (hBs : Rg 0 8 40 fBs) : Met l y_DiscMakerModel_letter w_DiscMakerModel_letter ({ frames := 0, cells := 0, slots := 0, locals := 0 }) (va_Pc [.ref h0, .int x, .int y] (fun U => U.heap.size = sz ∧ va_P D CL [(h0, .inr (11, MO ma sv_thrown sv_length sv_nodes sv_many sv_directories sv_runsFrom sv_runs sv_read sv_wrong sv_isNamed sv_goes sv_goesSize sv_goesAt sv_targetParts sv_isRoot)), ((ma 12), .inl (cB, 320, .inl fBa)), ((ma 13), .inl (cI, 40, .inl fBs))] U.heap ∧ va_K D CL (TY cB cI cJ cZ cN cF) U ∧ NN U ∧ va_D (fun _ => True) [(h0, .inr (11, MO ma sv_thrown sv_length sv_nodes sv_many sv_directories sv_runsFrom sv_runs sv_read sv_wrong sv_isNamed sv_goes sv_goesSize sv_goesAt sv_targetParts sv_isRoot)), ((ma 12), .inl (cB, 320, .inl fBa)), ((ma 13), .inl (cI, 40, .inl fBs))])) (va_Qi (fun (r : Int32) (u : Unit) => ((-128) ≤ r.toInt ∧ r.toInt ≤ 127) ∧ (r.toInt = leF fBa fBs x.toNatClampNeg y.toNatClampNeg)) (fun (u : Unit) (t : State) => match u with | () => va_P D CL [(h0, .inr (11, MO ma sv_thrown sv_length sv_nodes sv_many sv_directories sv_runsFrom sv_runs sv_read sv_wrong sv_isNamed sv_goes sv_goesSize sv_goesAt sv_targetParts sv_isRoot)), ((ma 12), .inl (cB, 320, .inl fBa)), ((ma 13), .inl (cI, 40, .inl fBs))] t.heap ∧ va_D (va_A [(h0, .inr (11, MO ma sv_thrown sv_length sv_nodes sv_many sv_directories sv_runsFrom sv_runs sv_read sv_wrong sv_isNamed sv_goes sv_goesSize sv_goesAt sv_targetParts sv_isRoot)), ((ma 12), .inl (cB, 320, .inl fBa)), ((ma 13), .inl (cI, 40, .inl fBs))] sz) [(h0, .inr (11, MO ma sv_thrown sv_length sv_nodes sv_many sv_directories sv_runsFrom sv_runs sv_read sv_wrong sv_isNamed sv_goes sv_goesSize sv_goesAt sv_targetParts sv_isRoot)), ((ma 12), .inl (cB, 320, .inl fBa)), ((ma 13), .inl (cI, 40, .inl fBs))]) (va_A [(h0, .inr (11, MO ma sv_thrown sv_length sv_nodes sv_many sv_directories sv_runsFrom sv_runs sv_read sv_wrong sv_isNamed sv_goes sv_goesSize sv_goesAt sv_targetParts sv_isRoot)), ((ma 12), .inl (cB, 320, .inl fBa)), ((ma 13), .inl (cI, 40, .inl fBs))] sz)) 0 0 (va_A [(h0, .inr (11, MO ma sv_thrown sv_length sv_nodes sv_many sv_directories sv_runsFrom sv_runs sv_read sv_wrong sv_isNamed sv_goes sv_goesSize sv_goesAt sv_targetParts sv_isRoot)), ((ma 12), .inl (cB, 320, .inl fBa)), ((ma 13), .inl (cI, 40, .inl fBs))] sz) := by
  refine Met.ofW (cc := b_DiscMakerModel_letter) (maxL := 3) (ret := some .int) (by decide) rfl ?_
  intro p e s m args below meth c s₁ B hml hv
  obtain ⟨rfl, hsz, hP, hK, hN, hD0⟩ := hv
  have hx := B.exec
  have hb := B.bytes
  have hr := B.returns
  have hts := atoms_spec (ws := w_DiscMakerModel_letter) B.pre
  have ht9 := fun (w : Cond) (h : w ∈ lw_g) => hts w (List.mem_cons_of_mem _ h)
  have hown : s.vm.findClass "DiscMakerModel" = some m.cls := findClass_of_methodNamed B.named
  have hlocks := B.notSynchronized
  subst hsz
  have hD := hD0.self (sz := s.heap.size)
  generalize hAe : va_A [(h0, .inr (11, MO ma sv_thrown sv_length sv_nodes sv_many sv_directories sv_runsFrom sv_runs sv_read sv_wrong sv_isNamed sv_goes sv_goesSize sv_goesAt sv_targetParts sv_isRoot)), ((ma 12), .inl (cB, 320, .inl fBa)), ((ma 13), .inl (cI, 40, .inl fBs))] s.heap.size = A at hD ⊢
  have hA : ∀ q : Nat, s.heap.size ≤ q → A q := fun q h => by rw [← hAe]; exact Or.inr h
  have hS : va_S A s.heap s.heap [] := va_S.rf
  have hP : va_P D CL [(h0, .inr (11, MO ma sv_thrown sv_length sv_nodes sv_many sv_directories sv_runsFrom sv_runs sv_read sv_wrong sv_isNamed sv_goes sv_goesSize sv_goesAt sv_targetParts sv_isRoot)), ((ma 12), .inl (cB, 320, .inl fBa)), ((ma 13), .inl (cI, 40, .inl fBs))] s.heap := hP
  have hl := lv_entry [.ref h0, .int x, .int y] (n := 3) (Nat.le_of_ble_eq_true rfl)
  rw [lg_entry_eq]
  generalize (lg_sl [.ref h0, .int x, .int y] ++ List.replicate (3 - (lg_sl [.ref h0, .int x, .int y]).length) Slot.unset).toArray = ls at hl ⊢
  have hl : lv_has ls 3 [(0, .ref h0), (1, .int x), (2, .int y)] := hl
  have L_m1 : ((-1) : Int32).toInt = (-1) := by decide
  have L_0 : (0 : Int32).toInt = 0 := by decide
  have L_1 : (1 : Int32).toInt = 1 := by decide
  have L_8 : (8 : Int32).toInt = 8 := by decide
  have L_32 : (32 : Int32).toInt = 32 := by decide
  have hxc := i_cl (a := x) (by omega)
  have hyc := i_cl (a := y) (by omega)
  refine lv_iload_n hx hb d_DiscMakerModel_letter_0 rfl (lv_at hl 2 rfl) ?_
  refine lv_aload_n hx hb d_DiscMakerModel_letter_1 rfl (lv_at hl 0 rfl) ?_
  refine va_get (D := D) (ci := 11) (v := .ref (ma 13)) (C := "DiscMakerModel") (T := F_DiscMakerModel) (N := 48) hx hb ht9 in_DiscMakerModel hown hK hP 0 rfl rfl 16 (by decide) (ht9 _ k1447) (fun _ h9 => h9) rfl d_DiscMakerModel_letter_2 ?_
  refine lv_iload_n hx hb d_DiscMakerModel_letter_5 rfl (lv_at hl 1 rfl) ?_
  refine va_iald hx hb hK hP 2 1 rfl rfl (vp_in_iff.mpr ⟨by omega, by omega⟩) d_DiscMakerModel_letter_6 ?_
  refine lv_topi (fun v1 e_v1 => ?_)
  have t_v1 : 0 ≤ v1.toInt ∧ v1.toInt ≤ 8 := by
    rw [e_v1]; exact hBs _ (by have := i_cl (a := x) (by omega); omega)
  refine lv_icmp_ge (tgt := 24) hx hb d_DiscMakerModel_letter_7 (by decide) (fun h_9 => ?_) (fun h_9 => ?_)
  · skip
    have g7_6 : v1.toInt ≤ y.toInt := (i_le rfl rfl).mp h_9
    refine lv_bipush (v := 32) hx hb d_DiscMakerModel_letter_24 (by decide) ?_
    have hP9 := hP.sub (ws' := [(h0, .inr (11, MO ma sv_thrown sv_length sv_nodes sv_many sv_directories sv_runsFrom sv_runs sv_read sv_wrong sv_isNamed sv_goes sv_goesSize sv_goesAt sv_targetParts sv_isRoot)), ((ma 12), .inl (cB, 320, .inl fBa)), ((ma 13), .inl (cI, 40, .inl fBs))]) [0, 1, 2] rfl
    have hD9 := hD.sub (ws' := [(h0, .inr (11, MO ma sv_thrown sv_length sv_nodes sv_many sv_directories sv_runsFrom sv_runs sv_read sv_wrong sv_isNamed sv_goes sv_goesSize sv_goesAt sv_targetParts sv_isRoot)), ((ma 12), .inl (cB, 320, .inl fBa)), ((ma 13), .inl (cI, 40, .inl fBs))]) [0, 1, 2] (by decide +kernel) rfl
    exact W.iret (v := 32) hx hb hr (fun t ht hW => ⟨⟨32, (), rfl, ⟨(by (try dsimp only); first | assumption | omega | trivial), (by (try dsimp only); unfold leF; rw [if_neg (by rw [← e_v1]; omega)]; omega)⟩, by rw [ht]; exact hP9, hD9⟩, hS.F ht⟩) hS.2.2 d_DiscMakerModel_letter_26
  · skip
    have g7_6 : ¬ v1.toInt ≤ y.toInt := fun h8 => h_9 ((i_le rfl rfl).mpr h8)
    refine lv_aload_n hx hb d_DiscMakerModel_letter_10 rfl (lv_at hl 0 rfl) ?_
    refine va_get (D := D) (ci := 11) (v := .ref (ma 12)) (C := "DiscMakerModel") (T := F_DiscMakerModel) (N := 48) hx hb ht9 in_DiscMakerModel hown hK hP 0 rfl rfl 15 (by decide) (ht9 _ k1446) (fun _ h9 => h9) rfl d_DiscMakerModel_letter_11 ?_
    refine lv_bipush (v := 8) hx hb d_DiscMakerModel_letter_14 (by decide) ?_
    refine lv_iload_n hx hb d_DiscMakerModel_letter_16 rfl (lv_at hl 1 rfl) ?_
    refine lv_imul hx hb d_DiscMakerModel_letter_17 ?_
    refine lv_topi (fun v2 e_v2 => ?_)
    have t_v2 : v2.toInt = 8 * x.toInt := by rw [e_v2]; exact i_mul (by decide) rfl (by omega) (by omega)
    refine lv_iload_n hx hb d_DiscMakerModel_letter_18 rfl (lv_at hl 2 rfl) ?_
    refine lv_iadd hx hb d_DiscMakerModel_letter_19 ?_
    refine lv_topi (fun v3 e_v3 => ?_)
    have t_v3 : v3.toInt = v2.toInt + y.toInt := by rw [e_v3]; exact i_add rfl rfl (by omega) (by omega)
    refine va_bald hx hb hK hP 1 0 rfl rfl (vp_in_iff.mpr ⟨by omega, by omega⟩) d_DiscMakerModel_letter_20 ?_
    refine lv_topi (fun v4 e_v4 => ?_)
    have c_v4 := i_cl (a := v3) (by omega)
    have e2_v4 : v4 = fBa (8 * x.toNatClampNeg + y.toNatClampNeg) := by rw [e_v4, show v3.toNatClampNeg = 8 * x.toNatClampNeg + y.toNatClampNeg by omega]
    have t_v4 : (-128) ≤ v4.toInt ∧ v4.toInt ≤ 127 := by
      rw [e_v4]; exact hBa _ (by have := i_cl (a := v3) (by omega); omega)
    refine lv_goto (tgt := 26) hx hb d_DiscMakerModel_letter_21 (by decide) ?_
    have hP9 := hP.sub (ws' := [(h0, .inr (11, MO ma sv_thrown sv_length sv_nodes sv_many sv_directories sv_runsFrom sv_runs sv_read sv_wrong sv_isNamed sv_goes sv_goesSize sv_goesAt sv_targetParts sv_isRoot)), ((ma 12), .inl (cB, 320, .inl fBa)), ((ma 13), .inl (cI, 40, .inl fBs))]) [0, 1, 2] rfl
    have hD9 := hD.sub (ws' := [(h0, .inr (11, MO ma sv_thrown sv_length sv_nodes sv_many sv_directories sv_runsFrom sv_runs sv_read sv_wrong sv_isNamed sv_goes sv_goesSize sv_goesAt sv_targetParts sv_isRoot)), ((ma 12), .inl (cB, 320, .inl fBa)), ((ma 13), .inl (cI, 40, .inl fBs))]) [0, 1, 2] (by decide +kernel) rfl
    exact W.iret (v := v4) hx hb hr (fun t ht hW => ⟨⟨v4, (), rfl, ⟨(by (try dsimp only); first | assumption | omega | trivial), (by (try dsimp only); unfold leF; rw [if_pos (by rw [← e_v1]; omega), e2_v4])⟩, by rw [ht]; exact hP9, hD9⟩, hS.F ht⟩) hS.2.2 d_DiscMakerModel_letter_26

theorem d_DiscMakerModel_extra_0 : decode b_DiscMakerModel_extra 0 = .ok (.iload_n 2, 1) := by decide +kernel
theorem d_DiscMakerModel_extra_1 : decode b_DiscMakerModel_extra 1 = .ok (.aload_n 0, 1) := by decide +kernel
theorem d_DiscMakerModel_extra_2 : decode b_DiscMakerModel_extra 2 = .ok (.getfield 56, 3) := by decide +kernel
theorem d_DiscMakerModel_extra_5 : decode b_DiscMakerModel_extra 5 = .ok (.iload_n 1, 1) := by decide +kernel
theorem d_DiscMakerModel_extra_6 : decode b_DiscMakerModel_extra 6 = .ok (.iaload, 1) := by decide +kernel
theorem d_DiscMakerModel_extra_7 : decode b_DiscMakerModel_extra 7 = .ok (.if_icmp .ge 16, 3) := by decide +kernel
theorem d_DiscMakerModel_extra_10 : decode b_DiscMakerModel_extra 10 = .ok (.aload_n 0, 1) := by decide +kernel
theorem d_DiscMakerModel_extra_11 : decode b_DiscMakerModel_extra 11 = .ok (.getfield 53, 3) := by decide +kernel
theorem d_DiscMakerModel_extra_14 : decode b_DiscMakerModel_extra 14 = .ok (.iconst 3, 1) := by decide +kernel
theorem d_DiscMakerModel_extra_15 : decode b_DiscMakerModel_extra 15 = .ok (.iload_n 1, 1) := by decide +kernel
theorem d_DiscMakerModel_extra_16 : decode b_DiscMakerModel_extra 16 = .ok (.imul, 1) := by decide +kernel
theorem d_DiscMakerModel_extra_17 : decode b_DiscMakerModel_extra 17 = .ok (.iload_n 2, 1) := by decide +kernel
theorem d_DiscMakerModel_extra_18 : decode b_DiscMakerModel_extra 18 = .ok (.iadd, 1) := by decide +kernel
theorem d_DiscMakerModel_extra_19 : decode b_DiscMakerModel_extra 19 = .ok (.baload, 1) := by decide +kernel
theorem d_DiscMakerModel_extra_20 : decode b_DiscMakerModel_extra 20 = .ok (.goto 5, 3) := by decide +kernel
theorem d_DiscMakerModel_extra_23 : decode b_DiscMakerModel_extra 23 = .ok (.bipush 32, 2) := by decide +kernel
theorem d_DiscMakerModel_extra_25 : decode b_DiscMakerModel_extra 25 = .ok (.ireturn, 1) := by decide +kernel
set_option maxHeartbeats 4000000 in
set_option maxRecDepth 100000 in
theorem m_extra (l : Launch) (D : va_G) (cB cI cJ cZ cN cF : ClassId) (sz : Nat) (h0 : Nat) (ma : Nat → Nat) (sv_thrown sv_length sv_nodes sv_many sv_directories sv_runsFrom sv_runs sv_read sv_wrong sv_isNamed sv_goes sv_goesSize sv_goesAt sv_targetParts sv_isRoot : Int32) (fEx : Nat → Int32) (fEs : Nat → Int32) (x : Int32) (y : Int32) (hx0 : 0 ≤ x.toInt ∧ x.toInt < 40) (hy0 : 0 ≤ y.toInt ∧ y.toInt < 3) (hEx : Rg (-128) 127 120 fEx) (hEs : Rg 0 3 40 fEs) : Met l y_DiscMakerModel_extra w_DiscMakerModel_extra ({ frames := 0, cells := 0, slots := 0, locals := 0 }) (va_Pc [.ref h0, .int x, .int y] (fun U => U.heap.size = sz ∧ va_P D CL [(h0, .inr (11, MO ma sv_thrown sv_length sv_nodes sv_many sv_directories sv_runsFrom sv_runs sv_read sv_wrong sv_isNamed sv_goes sv_goesSize sv_goesAt sv_targetParts sv_isRoot)), ((ma 14), .inl (cB, 120, .inl fEx)), ((ma 15), .inl (cI, 40, .inl fEs))] U.heap ∧ va_K D CL (TY cB cI cJ cZ cN cF) U ∧ NN U ∧ va_D (fun _ => True) [(h0, .inr (11, MO ma sv_thrown sv_length sv_nodes sv_many sv_directories sv_runsFrom sv_runs sv_read sv_wrong sv_isNamed sv_goes sv_goesSize sv_goesAt sv_targetParts sv_isRoot)), ((ma 14), .inl (cB, 120, .inl fEx)), ((ma 15), .inl (cI, 40, .inl fEs))])) (va_Qi (fun (r : Int32) (u : Unit) => ((-128) ≤ r.toInt ∧ r.toInt ≤ 127) ∧ (r.toInt = exF fEx fEs x.toNatClampNeg y.toNatClampNeg)) (fun (u : Unit) (t : State) => match u with | () => va_P D CL [(h0, .inr (11, MO ma sv_thrown sv_length sv_nodes sv_many sv_directories sv_runsFrom sv_runs sv_read sv_wrong sv_isNamed sv_goes sv_goesSize sv_goesAt sv_targetParts sv_isRoot)), ((ma 14), .inl (cB, 120, .inl fEx)), ((ma 15), .inl (cI, 40, .inl fEs))] t.heap ∧ va_D (va_A [(h0, .inr (11, MO ma sv_thrown sv_length sv_nodes sv_many sv_directories sv_runsFrom sv_runs sv_read sv_wrong sv_isNamed sv_goes sv_goesSize sv_goesAt sv_targetParts sv_isRoot)), ((ma 14), .inl (cB, 120, .inl fEx)), ((ma 15), .inl (cI, 40, .inl fEs))] sz) [(h0, .inr (11, MO ma sv_thrown sv_length sv_nodes sv_many sv_directories sv_runsFrom sv_runs sv_read sv_wrong sv_isNamed sv_goes sv_goesSize sv_goesAt sv_targetParts sv_isRoot)), ((ma 14), .inl (cB, 120, .inl fEx)), ((ma 15), .inl (cI, 40, .inl fEs))]) (va_A [(h0, .inr (11, MO ma sv_thrown sv_length sv_nodes sv_many sv_directories sv_runsFrom sv_runs sv_read sv_wrong sv_isNamed sv_goes sv_goesSize sv_goesAt sv_targetParts sv_isRoot)), ((ma 14), .inl (cB, 120, .inl fEx)), ((ma 15), .inl (cI, 40, .inl fEs))] sz)) 0 0 (va_A [(h0, .inr (11, MO ma sv_thrown sv_length sv_nodes sv_many sv_directories sv_runsFrom sv_runs sv_read sv_wrong sv_isNamed sv_goes sv_goesSize sv_goesAt sv_targetParts sv_isRoot)), ((ma 14), .inl (cB, 120, .inl fEx)), ((ma 15), .inl (cI, 40, .inl fEs))] sz) := by
  refine Met.ofW (cc := b_DiscMakerModel_extra) (maxL := 3) (ret := some .int) (by decide) rfl ?_
  intro p e s m args below meth c s₁ B hml hv
  obtain ⟨rfl, hsz, hP, hK, hN, hD0⟩ := hv
  have hx := B.exec
  have hb := B.bytes
  have hr := B.returns
  have hts := atoms_spec (ws := w_DiscMakerModel_extra) B.pre
  have ht9 := fun (w : Cond) (h : w ∈ lw_g) => hts w (List.mem_cons_of_mem _ h)
  have hown : s.vm.findClass "DiscMakerModel" = some m.cls := findClass_of_methodNamed B.named
  have hlocks := B.notSynchronized
  subst hsz
  have hD := hD0.self (sz := s.heap.size)
  generalize hAe : va_A [(h0, .inr (11, MO ma sv_thrown sv_length sv_nodes sv_many sv_directories sv_runsFrom sv_runs sv_read sv_wrong sv_isNamed sv_goes sv_goesSize sv_goesAt sv_targetParts sv_isRoot)), ((ma 14), .inl (cB, 120, .inl fEx)), ((ma 15), .inl (cI, 40, .inl fEs))] s.heap.size = A at hD ⊢
  have hA : ∀ q : Nat, s.heap.size ≤ q → A q := fun q h => by rw [← hAe]; exact Or.inr h
  have hS : va_S A s.heap s.heap [] := va_S.rf
  have hP : va_P D CL [(h0, .inr (11, MO ma sv_thrown sv_length sv_nodes sv_many sv_directories sv_runsFrom sv_runs sv_read sv_wrong sv_isNamed sv_goes sv_goesSize sv_goesAt sv_targetParts sv_isRoot)), ((ma 14), .inl (cB, 120, .inl fEx)), ((ma 15), .inl (cI, 40, .inl fEs))] s.heap := hP
  have hl := lv_entry [.ref h0, .int x, .int y] (n := 3) (Nat.le_of_ble_eq_true rfl)
  rw [lg_entry_eq]
  generalize (lg_sl [.ref h0, .int x, .int y] ++ List.replicate (3 - (lg_sl [.ref h0, .int x, .int y]).length) Slot.unset).toArray = ls at hl ⊢
  have hl : lv_has ls 3 [(0, .ref h0), (1, .int x), (2, .int y)] := hl
  have L_m1 : ((-1) : Int32).toInt = (-1) := by decide
  have L_0 : (0 : Int32).toInt = 0 := by decide
  have L_1 : (1 : Int32).toInt = 1 := by decide
  have L_3 : (3 : Int32).toInt = 3 := by decide
  have L_32 : (32 : Int32).toInt = 32 := by decide
  have hxc := i_cl (a := x) (by omega)
  have hyc := i_cl (a := y) (by omega)
  refine lv_iload_n hx hb d_DiscMakerModel_extra_0 rfl (lv_at hl 2 rfl) ?_
  refine lv_aload_n hx hb d_DiscMakerModel_extra_1 rfl (lv_at hl 0 rfl) ?_
  refine va_get (D := D) (ci := 11) (v := .ref (ma 15)) (C := "DiscMakerModel") (T := F_DiscMakerModel) (N := 48) hx hb ht9 in_DiscMakerModel hown hK hP 0 rfl rfl 18 (by decide) (ht9 _ k1449) (fun _ h9 => h9) rfl d_DiscMakerModel_extra_2 ?_
  refine lv_iload_n hx hb d_DiscMakerModel_extra_5 rfl (lv_at hl 1 rfl) ?_
  refine va_iald hx hb hK hP 2 1 rfl rfl (vp_in_iff.mpr ⟨by omega, by omega⟩) d_DiscMakerModel_extra_6 ?_
  refine lv_topi (fun v1 e_v1 => ?_)
  have t_v1 : 0 ≤ v1.toInt ∧ v1.toInt ≤ 3 := by
    rw [e_v1]; exact hEs _ (by have := i_cl (a := x) (by omega); omega)
  refine lv_icmp_ge (tgt := 23) hx hb d_DiscMakerModel_extra_7 (by decide) (fun h_9 => ?_) (fun h_9 => ?_)
  · skip
    have g7_6 : v1.toInt ≤ y.toInt := (i_le rfl rfl).mp h_9
    refine lv_bipush (v := 32) hx hb d_DiscMakerModel_extra_23 (by decide) ?_
    have hP9 := hP.sub (ws' := [(h0, .inr (11, MO ma sv_thrown sv_length sv_nodes sv_many sv_directories sv_runsFrom sv_runs sv_read sv_wrong sv_isNamed sv_goes sv_goesSize sv_goesAt sv_targetParts sv_isRoot)), ((ma 14), .inl (cB, 120, .inl fEx)), ((ma 15), .inl (cI, 40, .inl fEs))]) [0, 1, 2] rfl
    have hD9 := hD.sub (ws' := [(h0, .inr (11, MO ma sv_thrown sv_length sv_nodes sv_many sv_directories sv_runsFrom sv_runs sv_read sv_wrong sv_isNamed sv_goes sv_goesSize sv_goesAt sv_targetParts sv_isRoot)), ((ma 14), .inl (cB, 120, .inl fEx)), ((ma 15), .inl (cI, 40, .inl fEs))]) [0, 1, 2] (by decide +kernel) rfl
    exact W.iret (v := 32) hx hb hr (fun t ht hW => ⟨⟨32, (), rfl, ⟨(by (try dsimp only); first | assumption | omega | trivial), (by (try dsimp only); unfold exF; rw [if_neg (by rw [← e_v1]; omega)]; omega)⟩, by rw [ht]; exact hP9, hD9⟩, hS.F ht⟩) hS.2.2 d_DiscMakerModel_extra_25
  · skip
    have g7_6 : ¬ v1.toInt ≤ y.toInt := fun h8 => h_9 ((i_le rfl rfl).mpr h8)
    refine lv_aload_n hx hb d_DiscMakerModel_extra_10 rfl (lv_at hl 0 rfl) ?_
    refine va_get (D := D) (ci := 11) (v := .ref (ma 14)) (C := "DiscMakerModel") (T := F_DiscMakerModel) (N := 48) hx hb ht9 in_DiscMakerModel hown hK hP 0 rfl rfl 17 (by decide) (ht9 _ k1448) (fun _ h9 => h9) rfl d_DiscMakerModel_extra_11 ?_
    refine lv_iconst (v := 3) hx hb d_DiscMakerModel_extra_14 (by decide) ?_
    refine lv_iload_n hx hb d_DiscMakerModel_extra_15 rfl (lv_at hl 1 rfl) ?_
    refine lv_imul hx hb d_DiscMakerModel_extra_16 ?_
    refine lv_topi (fun v2 e_v2 => ?_)
    have t_v2 : v2.toInt = 3 * x.toInt := by rw [e_v2]; exact i_mul (by decide) rfl (by omega) (by omega)
    refine lv_iload_n hx hb d_DiscMakerModel_extra_17 rfl (lv_at hl 2 rfl) ?_
    refine lv_iadd hx hb d_DiscMakerModel_extra_18 ?_
    refine lv_topi (fun v3 e_v3 => ?_)
    have t_v3 : v3.toInt = v2.toInt + y.toInt := by rw [e_v3]; exact i_add rfl rfl (by omega) (by omega)
    refine va_bald hx hb hK hP 1 0 rfl rfl (vp_in_iff.mpr ⟨by omega, by omega⟩) d_DiscMakerModel_extra_19 ?_
    refine lv_topi (fun v4 e_v4 => ?_)
    have c_v4 := i_cl (a := v3) (by omega)
    have e2_v4 : v4 = fEx (3 * x.toNatClampNeg + y.toNatClampNeg) := by rw [e_v4, show v3.toNatClampNeg = 3 * x.toNatClampNeg + y.toNatClampNeg by omega]
    have t_v4 : (-128) ≤ v4.toInt ∧ v4.toInt ≤ 127 := by
      rw [e_v4]; exact hEx _ (by have := i_cl (a := v3) (by omega); omega)
    refine lv_goto (tgt := 25) hx hb d_DiscMakerModel_extra_20 (by decide) ?_
    have hP9 := hP.sub (ws' := [(h0, .inr (11, MO ma sv_thrown sv_length sv_nodes sv_many sv_directories sv_runsFrom sv_runs sv_read sv_wrong sv_isNamed sv_goes sv_goesSize sv_goesAt sv_targetParts sv_isRoot)), ((ma 14), .inl (cB, 120, .inl fEx)), ((ma 15), .inl (cI, 40, .inl fEs))]) [0, 1, 2] rfl
    have hD9 := hD.sub (ws' := [(h0, .inr (11, MO ma sv_thrown sv_length sv_nodes sv_many sv_directories sv_runsFrom sv_runs sv_read sv_wrong sv_isNamed sv_goes sv_goesSize sv_goesAt sv_targetParts sv_isRoot)), ((ma 14), .inl (cB, 120, .inl fEx)), ((ma 15), .inl (cI, 40, .inl fEs))]) [0, 1, 2] (by decide +kernel) rfl
    exact W.iret (v := v4) hx hb hr (fun t ht hW => ⟨⟨v4, (), rfl, ⟨(by (try dsimp only); first | assumption | omega | trivial), (by (try dsimp only); unfold exF; rw [if_pos (by rw [← e_v1]; omega), e2_v4])⟩, by rw [ht]; exact hP9, hD9⟩, hS.F ht⟩) hS.2.2 d_DiscMakerModel_extra_25

theorem d_DiscMakerModel_identifiers_0 : decode b_DiscMakerModel_identifiers 0 = .ok (.iconst 0, 1) := by decide +kernel
theorem d_DiscMakerModel_identifiers_1 : decode b_DiscMakerModel_identifiers 1 = .ok (.istore_n 3, 1) := by decide +kernel
theorem d_DiscMakerModel_identifiers_2 : decode b_DiscMakerModel_identifiers 2 = .ok (.iconst 0, 1) := by decide +kernel
theorem d_DiscMakerModel_identifiers_3 : decode b_DiscMakerModel_identifiers 3 = .ok (.istore 4, 2) := by decide +kernel
theorem d_DiscMakerModel_identifiers_5 : decode b_DiscMakerModel_identifiers 5 = .ok (.iload 4, 2) := by decide +kernel
theorem d_DiscMakerModel_identifiers_7 : decode b_DiscMakerModel_identifiers 7 = .ok (.bipush 8, 2) := by decide +kernel
theorem d_DiscMakerModel_identifiers_9 : decode b_DiscMakerModel_identifiers 9 = .ok (.if_icmp .ge 29, 3) := by decide +kernel
theorem d_DiscMakerModel_identifiers_12 : decode b_DiscMakerModel_identifiers 12 = .ok (.iload_n 3, 1) := by decide +kernel
theorem d_DiscMakerModel_identifiers_13 : decode b_DiscMakerModel_identifiers 13 = .ok (.ifCond .ne 25, 3) := by decide +kernel
theorem d_DiscMakerModel_identifiers_16 : decode b_DiscMakerModel_identifiers 16 = .ok (.aload_n 0, 1) := by decide +kernel
theorem d_DiscMakerModel_identifiers_17 : decode b_DiscMakerModel_identifiers 17 = .ok (.iload_n 1, 1) := by decide +kernel
theorem d_DiscMakerModel_identifiers_18 : decode b_DiscMakerModel_identifiers 18 = .ok (.iload 4, 2) := by decide +kernel
theorem d_DiscMakerModel_identifiers_20 : decode b_DiscMakerModel_identifiers 20 = .ok (.invokevirtual 163, 3) := by decide +kernel
theorem d_DiscMakerModel_identifiers_23 : decode b_DiscMakerModel_identifiers 23 = .ok (.aload_n 0, 1) := by decide +kernel
theorem d_DiscMakerModel_identifiers_24 : decode b_DiscMakerModel_identifiers 24 = .ok (.iload_n 2, 1) := by decide +kernel
theorem d_DiscMakerModel_identifiers_25 : decode b_DiscMakerModel_identifiers 25 = .ok (.iload 4, 2) := by decide +kernel
theorem d_DiscMakerModel_identifiers_27 : decode b_DiscMakerModel_identifiers 27 = .ok (.invokevirtual 163, 3) := by decide +kernel
theorem d_DiscMakerModel_identifiers_30 : decode b_DiscMakerModel_identifiers 30 = .ok (.isub, 1) := by decide +kernel
theorem d_DiscMakerModel_identifiers_31 : decode b_DiscMakerModel_identifiers 31 = .ok (.istore_n 3, 1) := by decide +kernel
theorem d_DiscMakerModel_identifiers_32 : decode b_DiscMakerModel_identifiers 32 = .ok (.iinc 4 1, 3) := by decide +kernel
theorem d_DiscMakerModel_identifiers_35 : decode b_DiscMakerModel_identifiers 35 = .ok (.goto (-30), 3) := by decide +kernel
theorem d_DiscMakerModel_identifiers_38 : decode b_DiscMakerModel_identifiers 38 = .ok (.iconst 0, 1) := by decide +kernel
theorem d_DiscMakerModel_identifiers_39 : decode b_DiscMakerModel_identifiers 39 = .ok (.istore 4, 2) := by decide +kernel
theorem d_DiscMakerModel_identifiers_41 : decode b_DiscMakerModel_identifiers 41 = .ok (.iload 4, 2) := by decide +kernel
theorem d_DiscMakerModel_identifiers_43 : decode b_DiscMakerModel_identifiers 43 = .ok (.iconst 3, 1) := by decide +kernel
theorem d_DiscMakerModel_identifiers_44 : decode b_DiscMakerModel_identifiers 44 = .ok (.if_icmp .ge 29, 3) := by decide +kernel
theorem d_DiscMakerModel_identifiers_47 : decode b_DiscMakerModel_identifiers 47 = .ok (.iload_n 3, 1) := by decide +kernel
theorem d_DiscMakerModel_identifiers_48 : decode b_DiscMakerModel_identifiers 48 = .ok (.ifCond .ne 25, 3) := by decide +kernel
theorem d_DiscMakerModel_identifiers_51 : decode b_DiscMakerModel_identifiers 51 = .ok (.aload_n 0, 1) := by decide +kernel
theorem d_DiscMakerModel_identifiers_52 : decode b_DiscMakerModel_identifiers 52 = .ok (.iload_n 1, 1) := by decide +kernel
theorem d_DiscMakerModel_identifiers_53 : decode b_DiscMakerModel_identifiers 53 = .ok (.iload 4, 2) := by decide +kernel
theorem d_DiscMakerModel_identifiers_55 : decode b_DiscMakerModel_identifiers 55 = .ok (.invokevirtual 166, 3) := by decide +kernel
theorem d_DiscMakerModel_identifiers_58 : decode b_DiscMakerModel_identifiers 58 = .ok (.aload_n 0, 1) := by decide +kernel
theorem d_DiscMakerModel_identifiers_59 : decode b_DiscMakerModel_identifiers 59 = .ok (.iload_n 2, 1) := by decide +kernel
theorem d_DiscMakerModel_identifiers_60 : decode b_DiscMakerModel_identifiers 60 = .ok (.iload 4, 2) := by decide +kernel
theorem d_DiscMakerModel_identifiers_62 : decode b_DiscMakerModel_identifiers 62 = .ok (.invokevirtual 166, 3) := by decide +kernel
theorem d_DiscMakerModel_identifiers_65 : decode b_DiscMakerModel_identifiers 65 = .ok (.isub, 1) := by decide +kernel
theorem d_DiscMakerModel_identifiers_66 : decode b_DiscMakerModel_identifiers 66 = .ok (.istore_n 3, 1) := by decide +kernel
theorem d_DiscMakerModel_identifiers_67 : decode b_DiscMakerModel_identifiers 67 = .ok (.iinc 4 1, 3) := by decide +kernel
theorem d_DiscMakerModel_identifiers_70 : decode b_DiscMakerModel_identifiers 70 = .ok (.goto (-29), 3) := by decide +kernel
theorem d_DiscMakerModel_identifiers_73 : decode b_DiscMakerModel_identifiers 73 = .ok (.iload_n 3, 1) := by decide +kernel
theorem d_DiscMakerModel_identifiers_74 : decode b_DiscMakerModel_identifiers 74 = .ok (.ireturn, 1) := by decide +kernel
set_option maxHeartbeats 4000000 in
set_option maxRecDepth 100000 in
theorem m_identifiers (l : Launch) (D : va_G) (cB cI cJ cZ cN cF : ClassId) (sz : Nat) (h0 : Nat) (ma : Nat → Nat) (sv_thrown sv_length sv_nodes sv_many sv_directories sv_runsFrom sv_runs sv_read sv_wrong sv_isNamed sv_goes sv_goesSize sv_goesAt sv_targetParts sv_isRoot : Int32) (fBa : Nat → Int32) (fBs : Nat → Int32) (fEx : Nat → Int32) (fEs : Nat → Int32) (x : Int32) (y : Int32) (hx0 : 0 ≤ x.toInt ∧ x.toInt < 40) (hy0 : 0 ≤ y.toInt ∧ y.toInt < 40) (hBa : Rg (-128) 127 320 fBa) (hBs : Rg 0 8 40 fBs) (hEx : Rg (-128) 127 120 fEx) (hEs : Rg 0 3 40 fEs) : Met l y_DiscMakerModel_identifiers w_DiscMakerModel_identifiers ({ frames := 1, cells := 0, slots := 0, locals := 22 }) (va_Pc [.ref h0, .int x, .int y] (fun U => U.heap.size = sz ∧ va_P D CL [(h0, .inr (11, MO ma sv_thrown sv_length sv_nodes sv_many sv_directories sv_runsFrom sv_runs sv_read sv_wrong sv_isNamed sv_goes sv_goesSize sv_goesAt sv_targetParts sv_isRoot)), ((ma 12), .inl (cB, 320, .inl fBa)), ((ma 13), .inl (cI, 40, .inl fBs)), ((ma 14), .inl (cB, 120, .inl fEx)), ((ma 15), .inl (cI, 40, .inl fEs))] U.heap ∧ va_K D CL (TY cB cI cJ cZ cN cF) U ∧ NN U ∧ va_D (fun _ => True) [(h0, .inr (11, MO ma sv_thrown sv_length sv_nodes sv_many sv_directories sv_runsFrom sv_runs sv_read sv_wrong sv_isNamed sv_goes sv_goesSize sv_goesAt sv_targetParts sv_isRoot)), ((ma 12), .inl (cB, 320, .inl fBa)), ((ma 13), .inl (cI, 40, .inl fBs)), ((ma 14), .inl (cB, 120, .inl fEx)), ((ma 15), .inl (cI, 40, .inl fEs))])) (va_Qi (fun (r : Int32) (u : Unit) => (r.toInt < 0 ↔ LX (kyF fBa fBs fEx fEs) 11 x.toNatClampNeg y.toNatClampNeg) ∧ (r.toInt = 0 ↔ ∀ j, j < 11 → kyF fBa fBs fEx fEs x.toNatClampNeg j = kyF fBa fBs fEx fEs y.toNatClampNeg j)) (fun (u : Unit) (t : State) => match u with | () => va_P D CL [(h0, .inr (11, MO ma sv_thrown sv_length sv_nodes sv_many sv_directories sv_runsFrom sv_runs sv_read sv_wrong sv_isNamed sv_goes sv_goesSize sv_goesAt sv_targetParts sv_isRoot)), ((ma 12), .inl (cB, 320, .inl fBa)), ((ma 13), .inl (cI, 40, .inl fBs)), ((ma 14), .inl (cB, 120, .inl fEx)), ((ma 15), .inl (cI, 40, .inl fEs))] t.heap ∧ va_D (va_A [(h0, .inr (11, MO ma sv_thrown sv_length sv_nodes sv_many sv_directories sv_runsFrom sv_runs sv_read sv_wrong sv_isNamed sv_goes sv_goesSize sv_goesAt sv_targetParts sv_isRoot)), ((ma 12), .inl (cB, 320, .inl fBa)), ((ma 13), .inl (cI, 40, .inl fBs)), ((ma 14), .inl (cB, 120, .inl fEx)), ((ma 15), .inl (cI, 40, .inl fEs))] sz) [(h0, .inr (11, MO ma sv_thrown sv_length sv_nodes sv_many sv_directories sv_runsFrom sv_runs sv_read sv_wrong sv_isNamed sv_goes sv_goesSize sv_goesAt sv_targetParts sv_isRoot)), ((ma 12), .inl (cB, 320, .inl fBa)), ((ma 13), .inl (cI, 40, .inl fBs)), ((ma 14), .inl (cB, 120, .inl fEx)), ((ma 15), .inl (cI, 40, .inl fEs))]) (va_A [(h0, .inr (11, MO ma sv_thrown sv_length sv_nodes sv_many sv_directories sv_runsFrom sv_runs sv_read sv_wrong sv_isNamed sv_goes sv_goesSize sv_goesAt sv_targetParts sv_isRoot)), ((ma 12), .inl (cB, 320, .inl fBa)), ((ma 13), .inl (cI, 40, .inl fBs)), ((ma 14), .inl (cB, 120, .inl fEx)), ((ma 15), .inl (cI, 40, .inl fEs))] sz)) 0 0 (va_A [(h0, .inr (11, MO ma sv_thrown sv_length sv_nodes sv_many sv_directories sv_runsFrom sv_runs sv_read sv_wrong sv_isNamed sv_goes sv_goesSize sv_goesAt sv_targetParts sv_isRoot)), ((ma 12), .inl (cB, 320, .inl fBa)), ((ma 13), .inl (cI, 40, .inl fBs)), ((ma 14), .inl (cB, 120, .inl fEx)), ((ma 15), .inl (cI, 40, .inl fEs))] sz) := by
  refine Met.ofW (cc := b_DiscMakerModel_identifiers) (maxL := 5) (ret := some .int) (by decide) rfl ?_
  intro p e s m args below meth c s₁ B hml hv
  obtain ⟨rfl, hsz, hP, hK, hN, hD0⟩ := hv
  have hx := B.exec
  have hb := B.bytes
  have hr := B.returns
  have hts := atoms_spec (ws := w_DiscMakerModel_identifiers) B.pre
  have ht9 := fun (w : Cond) (h : w ∈ lw_g) => hts w (List.mem_cons_of_mem _ h)
  have hown : s.vm.findClass "DiscMakerModel" = some m.cls := findClass_of_methodNamed B.named
  have hlocks := B.notSynchronized
  subst hsz
  have hD := hD0.self (sz := s.heap.size)
  generalize hAe : va_A [(h0, .inr (11, MO ma sv_thrown sv_length sv_nodes sv_many sv_directories sv_runsFrom sv_runs sv_read sv_wrong sv_isNamed sv_goes sv_goesSize sv_goesAt sv_targetParts sv_isRoot)), ((ma 12), .inl (cB, 320, .inl fBa)), ((ma 13), .inl (cI, 40, .inl fBs)), ((ma 14), .inl (cB, 120, .inl fEx)), ((ma 15), .inl (cI, 40, .inl fEs))] s.heap.size = A at hD ⊢
  have hA : ∀ q : Nat, s.heap.size ≤ q → A q := fun q h => by rw [← hAe]; exact Or.inr h
  have hS : va_S A s.heap s.heap [] := va_S.rf
  have hP : va_P D CL [(h0, .inr (11, MO ma sv_thrown sv_length sv_nodes sv_many sv_directories sv_runsFrom sv_runs sv_read sv_wrong sv_isNamed sv_goes sv_goesSize sv_goesAt sv_targetParts sv_isRoot)), ((ma 12), .inl (cB, 320, .inl fBa)), ((ma 13), .inl (cI, 40, .inl fBs)), ((ma 14), .inl (cB, 120, .inl fEx)), ((ma 15), .inl (cI, 40, .inl fEs))] s.heap := hP
  have hl := lv_entry [.ref h0, .int x, .int y] (n := 5) (Nat.le_of_ble_eq_true rfl)
  rw [lg_entry_eq]
  generalize (lg_sl [.ref h0, .int x, .int y] ++ List.replicate (5 - (lg_sl [.ref h0, .int x, .int y]).length) Slot.unset).toArray = ls at hl ⊢
  have hl : lv_has ls 5 [(0, .ref h0), (1, .int x), (2, .int y)] := hl
  have L_m1 : ((-1) : Int32).toInt = (-1) := by decide
  have L_0 : (0 : Int32).toInt = 0 := by decide
  have L_1 : (1 : Int32).toInt = 1 := by decide
  have L_3 : (3 : Int32).toInt = 3 := by decide
  have L_8 : (8 : Int32).toInt = 8 := by decide
  refine lv_iconst (v := 0) hx hb d_DiscMakerModel_identifiers_0 (by decide) ?_
  refine lv_istore_n hx hb d_DiscMakerModel_identifiers_1 rfl hl (by decide) rfl (fun ls hl => ?_)
  have hl : lv_has ls 5 [(3, .int 0), (0, .ref h0), (1, .int x), (2, .int y)] := hl
  refine lv_iconst (v := 0) hx hb d_DiscMakerModel_identifiers_2 (by decide) ?_
  refine lv_istore hx hb d_DiscMakerModel_identifiers_3 hl (by decide) rfl (fun ls hl => ?_)
  have hl : lv_has ls 5 [(4, .int 0), (3, .int 0), (0, .ref h0), (1, .int x), (2, .int y)] := hl
  refine zz_labM (B := fun (lk : Nat) (K : Heap → List Loc → Array Slot → List Value → Prop) => ∀ (da : Int32) (ka : Int32) (H : Heap) (locs : List Loc) (ls : Array Slot), lk = (8 - ka.toInt).toNat → (0 ≤ ka.toInt ∧ ka.toInt ≤ 8) → (DX (kyF fBa fBs fEx fEs) 11 x.toNatClampNeg y.toNatClampNeg ka.toNatClampNeg da.toInt) → va_P D CL [(h0, .inr (11, MO ma sv_thrown sv_length sv_nodes sv_many sv_directories sv_runsFrom sv_runs sv_read sv_wrong sv_isNamed sv_goes sv_goesSize sv_goesAt sv_targetParts sv_isRoot)), ((ma 12), .inl (cB, 320, .inl fBa)), ((ma 13), .inl (cI, 40, .inl fBs)), ((ma 14), .inl (cB, 120, .inl fEx)), ((ma 15), .inl (cI, 40, .inl fEs))] H → va_D A [(h0, .inr (11, MO ma sv_thrown sv_length sv_nodes sv_many sv_directories sv_runsFrom sv_runs sv_read sv_wrong sv_isNamed sv_goes sv_goesSize sv_goesAt sv_targetParts sv_isRoot)), ((ma 12), .inl (cB, 320, .inl fBa)), ((ma 13), .inl (cI, 40, .inl fBs)), ((ma 14), .inl (cB, 120, .inl fEx)), ((ma 15), .inl (cI, 40, .inl fEs))] → va_S A s.heap H locs → lv_has ls 5 [(0, .ref h0), (1, .int x), (2, .int y), (3, .int da), (4, .int ka)] → K H locs ls []) 5 ?_ ?_
  · skip
    intro lk ih5 da ka H locs ls hm5 f1 fa hP hD hS hl
    refine lv_iload hx hb d_DiscMakerModel_identifiers_5 (lv_at hl 4 rfl) ?_
    refine lv_bipush (v := 8) hx hb d_DiscMakerModel_identifiers_7 (by decide) ?_
    refine lv_icmp_ge (tgt := 38) hx hb d_DiscMakerModel_identifiers_9 (by decide) (fun h_9 => ?_) (fun h_9 => ?_)
    · skip
      have g9_7 : 8 ≤ ka.toInt := (i_le (by decide) rfl).mp h_9
      have h38 := i_cl (a := ka) (by omega)
      refine lv_iconst (v := 0) hx hb d_DiscMakerModel_identifiers_38 (by decide) ?_
      refine lv_istore hx hb d_DiscMakerModel_identifiers_39 hl (by decide) rfl (fun ls hl => ?_)
      have hl : lv_has ls 5 [(4, .int 0), (0, .ref h0), (1, .int x), (2, .int y), (3, .int da)] := hl
      refine zz_labM (B := fun (lk : Nat) (K : Heap → List Loc → Array Slot → List Value → Prop) => ∀ (db : Int32) (kb : Int32) (H : Heap) (locs : List Loc) (ls : Array Slot), lk = (3 - kb.toInt).toNat → (0 ≤ kb.toInt ∧ kb.toInt ≤ 3) → (DX (kyF fBa fBs fEx fEs) 11 x.toNatClampNeg y.toNatClampNeg (8 + kb.toNatClampNeg) db.toInt) → va_P D CL [(h0, .inr (11, MO ma sv_thrown sv_length sv_nodes sv_many sv_directories sv_runsFrom sv_runs sv_read sv_wrong sv_isNamed sv_goes sv_goesSize sv_goesAt sv_targetParts sv_isRoot)), ((ma 12), .inl (cB, 320, .inl fBa)), ((ma 13), .inl (cI, 40, .inl fBs)), ((ma 14), .inl (cB, 120, .inl fEx)), ((ma 15), .inl (cI, 40, .inl fEs))] H → va_D A [(h0, .inr (11, MO ma sv_thrown sv_length sv_nodes sv_many sv_directories sv_runsFrom sv_runs sv_read sv_wrong sv_isNamed sv_goes sv_goesSize sv_goesAt sv_targetParts sv_isRoot)), ((ma 12), .inl (cB, 320, .inl fBa)), ((ma 13), .inl (cI, 40, .inl fBs)), ((ma 14), .inl (cB, 120, .inl fEx)), ((ma 15), .inl (cI, 40, .inl fEs))] → va_S A s.heap H locs → lv_has ls 5 [(0, .ref h0), (1, .int x), (2, .int y), (3, .int db), (4, .int kb)] → K H locs ls []) 41 ?_ ?_
      · skip
        intro lk ih41 db kb H locs ls hm41 f2 fb hP hD hS hl
        refine lv_iload hx hb d_DiscMakerModel_identifiers_41 (lv_at hl 4 rfl) ?_
        refine lv_iconst (v := 3) hx hb d_DiscMakerModel_identifiers_43 (by decide) ?_
        refine lv_icmp_ge (tgt := 73) hx hb d_DiscMakerModel_identifiers_44 (by decide) (fun h_9 => ?_) (fun h_9 => ?_)
        · skip
          have g44_12 : 3 ≤ kb.toInt := (i_le (by decide) rfl).mp h_9
          refine lv_iload_n hx hb d_DiscMakerModel_identifiers_73 rfl (lv_at hl 3 rfl) ?_
          have hP9 := hP.sub (ws' := [(h0, .inr (11, MO ma sv_thrown sv_length sv_nodes sv_many sv_directories sv_runsFrom sv_runs sv_read sv_wrong sv_isNamed sv_goes sv_goesSize sv_goesAt sv_targetParts sv_isRoot)), ((ma 12), .inl (cB, 320, .inl fBa)), ((ma 13), .inl (cI, 40, .inl fBs)), ((ma 14), .inl (cB, 120, .inl fEx)), ((ma 15), .inl (cI, 40, .inl fEs))]) [0, 1, 2, 3, 4] rfl
          have hD9 := hD.sub (ws' := [(h0, .inr (11, MO ma sv_thrown sv_length sv_nodes sv_many sv_directories sv_runsFrom sv_runs sv_read sv_wrong sv_isNamed sv_goes sv_goesSize sv_goesAt sv_targetParts sv_isRoot)), ((ma 12), .inl (cB, 320, .inl fBa)), ((ma 13), .inl (cI, 40, .inl fBs)), ((ma 14), .inl (cB, 120, .inl fEx)), ((ma 15), .inl (cI, 40, .inl fEs))]) [0, 1, 2, 3, 4] (by decide +kernel) rfl
          have h73 := i_cl (a := kb) (by omega)
          exact W.iret (v := db) hx hb hr (fun t ht hW => ⟨⟨db, (), rfl, ⟨(DX_ltI fb (by omega)), (DX_eqI fb (by omega))⟩, by rw [ht]; exact hP9, hD9⟩, hS.F ht⟩) hS.2.2 d_DiscMakerModel_identifiers_74
        · skip
          have g44_12 : ¬ 3 ≤ kb.toInt := fun h8 => h_9 ((i_le (by decide) rfl).mpr h8)
          refine lv_iload_n hx hb d_DiscMakerModel_identifiers_47 rfl (lv_at hl 3 rfl) ?_
          refine lv_if_ne (tgt := 73) hx hb d_DiscMakerModel_identifiers_48 (by decide) (fun h_9 => ?_) (fun h_9 => ?_)
          · skip
            have g48_16 : ¬ db.toInt = 0 := fun h8 => h_9 ((i_eq rfl (by decide)).mpr h8)
            refine lv_iload_n hx hb d_DiscMakerModel_identifiers_73 rfl (lv_at hl 3 rfl) ?_
            have hP9 := hP.sub (ws' := [(h0, .inr (11, MO ma sv_thrown sv_length sv_nodes sv_many sv_directories sv_runsFrom sv_runs sv_read sv_wrong sv_isNamed sv_goes sv_goesSize sv_goesAt sv_targetParts sv_isRoot)), ((ma 12), .inl (cB, 320, .inl fBa)), ((ma 13), .inl (cI, 40, .inl fBs)), ((ma 14), .inl (cB, 120, .inl fEx)), ((ma 15), .inl (cI, 40, .inl fEs))]) [0, 1, 2, 3, 4] rfl
            have hD9 := hD.sub (ws' := [(h0, .inr (11, MO ma sv_thrown sv_length sv_nodes sv_many sv_directories sv_runsFrom sv_runs sv_read sv_wrong sv_isNamed sv_goes sv_goesSize sv_goesAt sv_targetParts sv_isRoot)), ((ma 12), .inl (cB, 320, .inl fBa)), ((ma 13), .inl (cI, 40, .inl fBs)), ((ma 14), .inl (cB, 120, .inl fEx)), ((ma 15), .inl (cI, 40, .inl fEs))]) [0, 1, 2, 3, 4] (by decide +kernel) rfl
            have h73 := i_cl (a := kb) (by omega)
            exact W.iret (v := db) hx hb hr (fun t ht hW => ⟨⟨db, (), rfl, ⟨(DX_ltI fb (by omega)), (DX_eqI fb (by omega))⟩, by rw [ht]; exact hP9, hD9⟩, hS.F ht⟩) hS.2.2 d_DiscMakerModel_identifiers_74
          · skip
            have g48_16 : db.toInt = 0 := (i_eq rfl (by decide)).mp h_9
            refine lv_aload_n hx hb d_DiscMakerModel_identifiers_51 rfl (lv_at hl 0 rfl) ?_
            refine lv_iload_n hx hb d_DiscMakerModel_identifiers_52 rfl (lv_at hl 1 rfl) ?_
            refine lv_iload hx hb d_DiscMakerModel_identifiers_53 (lv_at hl 4 rfl) ?_
            have hPc := hP.sub (ws' := [(h0, .inr (11, MO ma sv_thrown sv_length sv_nodes sv_many sv_directories sv_runsFrom sv_runs sv_read sv_wrong sv_isNamed sv_goes sv_goesSize sv_goesAt sv_targetParts sv_isRoot)), ((ma 14), .inl (cB, 120, .inl fEx)), ((ma 15), .inl (cI, 40, .inl fEs))]) [0, 3, 4] rfl
            have hDc := hD.sub (ws' := [(h0, .inr (11, MO ma sv_thrown sv_length sv_nodes sv_many sv_directories sv_runsFrom sv_runs sv_read sv_wrong sv_isNamed sv_goes sv_goesSize sv_goesAt sv_targetParts sv_isRoot)), ((ma 14), .inl (cB, 120, .inl fEx)), ((ma 15), .inl (cI, 40, .inl fEs))]) [0, 3, 4] (by decide +kernel) rfl
            have hFc := va_free (wc := [(h0, .inr (11, MO ma sv_thrown sv_length sv_nodes sv_many sv_directories sv_runsFrom sv_runs sv_read sv_wrong sv_isNamed sv_goes sv_goesSize sv_goesAt sv_targetParts sv_isRoot)), ((ma 14), .inl (cB, 120, .inl fEx)), ((ma 15), .inl (cI, 40, .inl fEs))]) hD hS hA [0, 3, 4] rfl
            have hkc : 0 ≤ 0 := by decide
            have hks : 0 ≤ 0 := by decide
            refine va_calli (va_runV (C := "DiscMakerModel") (As := [.int x, .int kb]) (rest := []) ⟨hx, hb, hml, hown, hts⟩ (m_extra l D cB cI cJ cZ cN cF H.size h0 ma sv_thrown sv_length sv_nodes sv_many sv_directories sv_runsFrom sv_runs sv_read sv_wrong sv_isNamed sv_goes sv_goesSize sv_goesAt sv_targetParts sv_isRoot fEx fEs x kb (by (try dsimp only); first | assumption | omega | trivial) (by (try dsimp only); first | assumption | omega | trivial) (by (try dsimp only); first | assumption | omega | trivial) (by (try dsimp only); first | assumption | omega | trivial)) (cwV 2 hts (lg_goodV k1667 k1669 k64 k125 kc_DiscMakerModel_extra) rfl rfl rfl (by decide +kernel) ⟨Nat.le_of_ble_eq_true rfl, Nat.le_of_ble_eq_true rfl⟩) ⟨fun a U g mk q => by obtain ⟨q0, q1, qP, qK, qN, qD⟩ := q; exact ⟨q0, q1, qP, va_K.moved (u := U) (U := U.calling g mk a) (Vm.Alike.refl U.vm) qK, qN.calling, qD⟩, va_recv hK hP (ci := 11) (q0 := 0) rfl rfl, fun U hU hW => ⟨rfl, by rw [hU], by rw [hU]; exact hPc, va_K.moved hW.alike hK, NN.warm hW hN, hDc.weaken (fun _ _ _ _ => trivial)⟩⟩ rfl rfl hl.1 rfl (lv_room (Nat.le_of_ble_eq_true rfl)) d_DiscMakerModel_identifiers_55 ⟨hkc, hks⟩) hS (fun q _ h => hFc q h) hFc (fun r1 u t H1 locs ht hvm hp_r1 hB hz1 hk1 hS => ?_)
            obtain ⟨hP1, hD1⟩ := hB
            rw [ht] at hP1
            obtain ⟨hP, hD⟩ := va_join (wr := [((ma 12), .inl (cB, 320, .inl fBa)), ((ma 13), .inl (cI, 40, .inl fBs))]) (w1 := [(h0, .inr (11, MO ma sv_thrown sv_length sv_nodes sv_many sv_directories sv_runsFrom sv_runs sv_read sv_wrong sv_isNamed sv_goes sv_goesSize sv_goesAt sv_targetParts sv_isRoot)), ((ma 14), .inl (cB, 120, .inl fEx)), ((ma 15), .inl (cI, 40, .inl fEs))]) hP hD [0, 3, 4] [1, 2] rfl rfl (by decide +kernel) (by decide +kernel) hk1 hFc hP1 hD1
            clear hPc hDc hFc hP1 hD1 hk1 hz1 hkc hks
            generalize H1 = H at hP hS ⊢
            have hP : va_P D CL [((ma 12), .inl (cB, 320, .inl fBa)), ((ma 13), .inl (cI, 40, .inl fBs)), (h0, .inr (11, MO ma sv_thrown sv_length sv_nodes sv_many sv_directories sv_runsFrom sv_runs sv_read sv_wrong sv_isNamed sv_goes sv_goesSize sv_goesAt sv_targetParts sv_isRoot)), ((ma 14), .inl (cB, 120, .inl fEx)), ((ma 15), .inl (cI, 40, .inl fEs))] H := hP
            have hD : va_D A [((ma 12), .inl (cB, 320, .inl fBa)), ((ma 13), .inl (cI, 40, .inl fBs)), (h0, .inr (11, MO ma sv_thrown sv_length sv_nodes sv_many sv_directories sv_runsFrom sv_runs sv_read sv_wrong sv_isNamed sv_goes sv_goesSize sv_goesAt sv_targetParts sv_isRoot)), ((ma 14), .inl (cB, 120, .inl fEx)), ((ma 15), .inl (cI, 40, .inl fEs))] := hD
            try dsimp only at hp_r1
            obtain ⟨hr_2, hv_3⟩ := hp_r1
            refine lv_aload_n hx hb d_DiscMakerModel_identifiers_58 rfl (lv_at hl 0 rfl) ?_
            refine lv_iload_n hx hb d_DiscMakerModel_identifiers_59 rfl (lv_at hl 2 rfl) ?_
            refine lv_iload hx hb d_DiscMakerModel_identifiers_60 (lv_at hl 4 rfl) ?_
            have hPc := hP.sub (ws' := [(h0, .inr (11, MO ma sv_thrown sv_length sv_nodes sv_many sv_directories sv_runsFrom sv_runs sv_read sv_wrong sv_isNamed sv_goes sv_goesSize sv_goesAt sv_targetParts sv_isRoot)), ((ma 14), .inl (cB, 120, .inl fEx)), ((ma 15), .inl (cI, 40, .inl fEs))]) [2, 3, 4] rfl
            have hDc := hD.sub (ws' := [(h0, .inr (11, MO ma sv_thrown sv_length sv_nodes sv_many sv_directories sv_runsFrom sv_runs sv_read sv_wrong sv_isNamed sv_goes sv_goesSize sv_goesAt sv_targetParts sv_isRoot)), ((ma 14), .inl (cB, 120, .inl fEx)), ((ma 15), .inl (cI, 40, .inl fEs))]) [2, 3, 4] (by decide +kernel) rfl
            have hFc := va_free (wc := [(h0, .inr (11, MO ma sv_thrown sv_length sv_nodes sv_many sv_directories sv_runsFrom sv_runs sv_read sv_wrong sv_isNamed sv_goes sv_goesSize sv_goesAt sv_targetParts sv_isRoot)), ((ma 14), .inl (cB, 120, .inl fEx)), ((ma 15), .inl (cI, 40, .inl fEs))]) hD hS hA [2, 3, 4] rfl
            have hkc : 0 ≤ 0 := by decide
            have hks : 0 ≤ 0 := by decide
            refine va_calli (va_runV (C := "DiscMakerModel") (As := [.int y, .int kb]) (rest := [.int r1]) ⟨hx, hb, hml, hown, hts⟩ (m_extra l D cB cI cJ cZ cN cF H.size h0 ma sv_thrown sv_length sv_nodes sv_many sv_directories sv_runsFrom sv_runs sv_read sv_wrong sv_isNamed sv_goes sv_goesSize sv_goesAt sv_targetParts sv_isRoot fEx fEs y kb (by (try dsimp only); first | assumption | omega | trivial) (by (try dsimp only); first | assumption | omega | trivial) (by (try dsimp only); first | assumption | omega | trivial) (by (try dsimp only); first | assumption | omega | trivial)) (cwV 2 hts (lg_goodV k1667 k1669 k64 k125 kc_DiscMakerModel_extra) rfl rfl rfl (by decide +kernel) ⟨Nat.le_of_ble_eq_true rfl, Nat.le_of_ble_eq_true rfl⟩) ⟨fun a U g mk q => by obtain ⟨q0, q1, qP, qK, qN, qD⟩ := q; exact ⟨q0, q1, qP, va_K.moved (u := U) (U := U.calling g mk a) (Vm.Alike.refl U.vm) qK, qN.calling, qD⟩, va_recv hK hP (ci := 11) (q0 := 2) rfl rfl, fun U hU hW => ⟨rfl, by rw [hU], by rw [hU]; exact hPc, va_K.moved hW.alike hK, NN.warm hW hN, hDc.weaken (fun _ _ _ _ => trivial)⟩⟩ rfl rfl hl.1 rfl (lv_room (Nat.le_of_ble_eq_true rfl)) d_DiscMakerModel_identifiers_62 ⟨hkc, hks⟩) hS (fun q _ h => hFc q h) hFc (fun r4 u t H1 locs ht hvm hp_r4 hB hz1 hk1 hS => ?_)
            obtain ⟨hP1, hD1⟩ := hB
            rw [ht] at hP1
            obtain ⟨hP, hD⟩ := va_join (wr := [((ma 12), .inl (cB, 320, .inl fBa)), ((ma 13), .inl (cI, 40, .inl fBs))]) (w1 := [(h0, .inr (11, MO ma sv_thrown sv_length sv_nodes sv_many sv_directories sv_runsFrom sv_runs sv_read sv_wrong sv_isNamed sv_goes sv_goesSize sv_goesAt sv_targetParts sv_isRoot)), ((ma 14), .inl (cB, 120, .inl fEx)), ((ma 15), .inl (cI, 40, .inl fEs))]) hP hD [2, 3, 4] [0, 1] rfl rfl (by decide +kernel) (by decide +kernel) hk1 hFc hP1 hD1
            clear hPc hDc hFc hP1 hD1 hk1 hz1 hkc hks
            generalize H1 = H at hP hS ⊢
            have hP : va_P D CL [((ma 12), .inl (cB, 320, .inl fBa)), ((ma 13), .inl (cI, 40, .inl fBs)), (h0, .inr (11, MO ma sv_thrown sv_length sv_nodes sv_many sv_directories sv_runsFrom sv_runs sv_read sv_wrong sv_isNamed sv_goes sv_goesSize sv_goesAt sv_targetParts sv_isRoot)), ((ma 14), .inl (cB, 120, .inl fEx)), ((ma 15), .inl (cI, 40, .inl fEs))] H := hP
            have hD : va_D A [((ma 12), .inl (cB, 320, .inl fBa)), ((ma 13), .inl (cI, 40, .inl fBs)), (h0, .inr (11, MO ma sv_thrown sv_length sv_nodes sv_many sv_directories sv_runsFrom sv_runs sv_read sv_wrong sv_isNamed sv_goes sv_goesSize sv_goesAt sv_targetParts sv_isRoot)), ((ma 14), .inl (cB, 120, .inl fEx)), ((ma 15), .inl (cI, 40, .inl fEs))] := hD
            try dsimp only at hp_r4
            obtain ⟨hr_5, hv_6⟩ := hp_r4
            refine lv_isub hx hb d_DiscMakerModel_identifiers_65 ?_
            refine lv_topi (fun v7 e_v7 => ?_)
            have t_v7 : v7.toInt = r1.toInt - r4.toInt := by rw [e_v7]; exact i_sub rfl rfl (by omega) (by omega)
            refine lv_istore_n hx hb d_DiscMakerModel_identifiers_66 rfl hl (by decide) rfl (fun ls hl => ?_)
            have hl : lv_has ls 5 [(3, .int v7), (0, .ref h0), (1, .int x), (2, .int y), (4, .int kb)] := hl
            obtain ⟨v8, e_v8⟩ : ∃ z : Int32, z = kb + 1 := ⟨_, rfl⟩
            refine lv_iinc (v := v8) hx hb d_DiscMakerModel_identifiers_67 hl (k := 4) rfl e_v8.symm (by decide +kernel) rfl (fun ls hl => ?_)
            have t_v8 : v8.toInt = kb.toInt + 1 := by rw [e_v8]; exact i_add rfl (by decide) (by omega) (by omega)
            have hl : lv_has ls 5 [(4, .int v8), (3, .int v7), (0, .ref h0), (1, .int x), (2, .int y)] := hl
            refine lv_goto (tgt := 41) hx hb d_DiscMakerModel_identifiers_70 (by decide) ?_
            have hP := hP.sub (ws' := [(h0, .inr (11, MO ma sv_thrown sv_length sv_nodes sv_many sv_directories sv_runsFrom sv_runs sv_read sv_wrong sv_isNamed sv_goes sv_goesSize sv_goesAt sv_targetParts sv_isRoot)), ((ma 12), .inl (cB, 320, .inl fBa)), ((ma 13), .inl (cI, 40, .inl fBs)), ((ma 14), .inl (cB, 120, .inl fEx)), ((ma 15), .inl (cI, 40, .inl fEs))]) [2, 0, 1, 3, 4] rfl
            have hD := hD.sub (ws' := [(h0, .inr (11, MO ma sv_thrown sv_length sv_nodes sv_many sv_directories sv_runsFrom sv_runs sv_read sv_wrong sv_isNamed sv_goes sv_goesSize sv_goesAt sv_targetParts sv_isRoot)), ((ma 12), .inl (cB, 320, .inl fBa)), ((ma 13), .inl (cI, 40, .inl fBs)), ((ma 14), .inl (cB, 120, .inl fEx)), ((ma 15), .inl (cI, 40, .inl fEs))]) [2, 0, 1, 3, 4] (by decide +kernel) rfl
            have hl := lv_sub hl [2, 3, 4, 1, 0] rfl
            exact ih41 _ (by first | omega | (dsimp only; omega)) v7 v8 _ _ _ rfl ((by (try dsimp only); first | assumption | omega | trivial)) ((by have h1 := i_cl (a := kb) (by omega); have h2 := i_cl (a := v8) (by omega); rw [show 8 + v8.toNatClampNeg = 8 + kb.toNatClampNeg + 1 by omega]; exact DX_step fb (by omega) (by omega) (by rw [kyF_ex, kyF_ex]; omega))) hP hD hS hl
      · skip
        intro kk41
        have hP := hP.sub (ws' := [(h0, .inr (11, MO ma sv_thrown sv_length sv_nodes sv_many sv_directories sv_runsFrom sv_runs sv_read sv_wrong sv_isNamed sv_goes sv_goesSize sv_goesAt sv_targetParts sv_isRoot)), ((ma 12), .inl (cB, 320, .inl fBa)), ((ma 13), .inl (cI, 40, .inl fBs)), ((ma 14), .inl (cB, 120, .inl fEx)), ((ma 15), .inl (cI, 40, .inl fEs))]) [0, 1, 2, 3, 4] rfl
        have hD := hD.sub (ws' := [(h0, .inr (11, MO ma sv_thrown sv_length sv_nodes sv_many sv_directories sv_runsFrom sv_runs sv_read sv_wrong sv_isNamed sv_goes sv_goesSize sv_goesAt sv_targetParts sv_isRoot)), ((ma 12), .inl (cB, 320, .inl fBa)), ((ma 13), .inl (cI, 40, .inl fBs)), ((ma 14), .inl (cB, 120, .inl fEx)), ((ma 15), .inl (cI, 40, .inl fEs))]) [0, 1, 2, 3, 4] (by decide +kernel) rfl
        have hl := lv_sub hl [1, 2, 3, 4, 0] rfl
        exact kk41 _ da 0 _ _ _ rfl ((by (try dsimp only); first | assumption | omega | trivial)) ((DX_exit fa (by rw [show (0 : Int32).toNatClampNeg = 0 by decide]; omega))) hP hD hS hl
    · skip
      have g9_7 : ¬ 8 ≤ ka.toInt := fun h8 => h_9 ((i_le (by decide) rfl).mpr h8)
      refine lv_iload_n hx hb d_DiscMakerModel_identifiers_12 rfl (lv_at hl 3 rfl) ?_
      refine lv_if_ne (tgt := 38) hx hb d_DiscMakerModel_identifiers_13 (by decide) (fun h_9 => ?_) (fun h_9 => ?_)
      · skip
        have g13_33 : ¬ da.toInt = 0 := fun h8 => h_9 ((i_eq rfl (by decide)).mpr h8)
        have h38 := i_cl (a := ka) (by omega)
        refine lv_iconst (v := 0) hx hb d_DiscMakerModel_identifiers_38 (by decide) ?_
        refine lv_istore hx hb d_DiscMakerModel_identifiers_39 hl (by decide) rfl (fun ls hl => ?_)
        have hl : lv_has ls 5 [(4, .int 0), (0, .ref h0), (1, .int x), (2, .int y), (3, .int da)] := hl
        refine zz_labM (B := fun (lk : Nat) (K : Heap → List Loc → Array Slot → List Value → Prop) => ∀ (db : Int32) (kb : Int32) (H : Heap) (locs : List Loc) (ls : Array Slot), lk = (3 - kb.toInt).toNat → (0 ≤ kb.toInt ∧ kb.toInt ≤ 3) → (DX (kyF fBa fBs fEx fEs) 11 x.toNatClampNeg y.toNatClampNeg (8 + kb.toNatClampNeg) db.toInt) → va_P D CL [(h0, .inr (11, MO ma sv_thrown sv_length sv_nodes sv_many sv_directories sv_runsFrom sv_runs sv_read sv_wrong sv_isNamed sv_goes sv_goesSize sv_goesAt sv_targetParts sv_isRoot)), ((ma 12), .inl (cB, 320, .inl fBa)), ((ma 13), .inl (cI, 40, .inl fBs)), ((ma 14), .inl (cB, 120, .inl fEx)), ((ma 15), .inl (cI, 40, .inl fEs))] H → va_D A [(h0, .inr (11, MO ma sv_thrown sv_length sv_nodes sv_many sv_directories sv_runsFrom sv_runs sv_read sv_wrong sv_isNamed sv_goes sv_goesSize sv_goesAt sv_targetParts sv_isRoot)), ((ma 12), .inl (cB, 320, .inl fBa)), ((ma 13), .inl (cI, 40, .inl fBs)), ((ma 14), .inl (cB, 120, .inl fEx)), ((ma 15), .inl (cI, 40, .inl fEs))] → va_S A s.heap H locs → lv_has ls 5 [(0, .ref h0), (1, .int x), (2, .int y), (3, .int db), (4, .int kb)] → K H locs ls []) 41 ?_ ?_
        · skip
          intro lk ih41 db kb H locs ls hm41 f2 fb hP hD hS hl
          refine lv_iload hx hb d_DiscMakerModel_identifiers_41 (lv_at hl 4 rfl) ?_
          refine lv_iconst (v := 3) hx hb d_DiscMakerModel_identifiers_43 (by decide) ?_
          refine lv_icmp_ge (tgt := 73) hx hb d_DiscMakerModel_identifiers_44 (by decide) (fun h_9 => ?_) (fun h_9 => ?_)
          · skip
            have g44_38 : 3 ≤ kb.toInt := (i_le (by decide) rfl).mp h_9
            refine lv_iload_n hx hb d_DiscMakerModel_identifiers_73 rfl (lv_at hl 3 rfl) ?_
            have hP9 := hP.sub (ws' := [(h0, .inr (11, MO ma sv_thrown sv_length sv_nodes sv_many sv_directories sv_runsFrom sv_runs sv_read sv_wrong sv_isNamed sv_goes sv_goesSize sv_goesAt sv_targetParts sv_isRoot)), ((ma 12), .inl (cB, 320, .inl fBa)), ((ma 13), .inl (cI, 40, .inl fBs)), ((ma 14), .inl (cB, 120, .inl fEx)), ((ma 15), .inl (cI, 40, .inl fEs))]) [0, 1, 2, 3, 4] rfl
            have hD9 := hD.sub (ws' := [(h0, .inr (11, MO ma sv_thrown sv_length sv_nodes sv_many sv_directories sv_runsFrom sv_runs sv_read sv_wrong sv_isNamed sv_goes sv_goesSize sv_goesAt sv_targetParts sv_isRoot)), ((ma 12), .inl (cB, 320, .inl fBa)), ((ma 13), .inl (cI, 40, .inl fBs)), ((ma 14), .inl (cB, 120, .inl fEx)), ((ma 15), .inl (cI, 40, .inl fEs))]) [0, 1, 2, 3, 4] (by decide +kernel) rfl
            have h73 := i_cl (a := kb) (by omega)
            exact W.iret (v := db) hx hb hr (fun t ht hW => ⟨⟨db, (), rfl, ⟨(DX_ltI fb (by omega)), (DX_eqI fb (by omega))⟩, by rw [ht]; exact hP9, hD9⟩, hS.F ht⟩) hS.2.2 d_DiscMakerModel_identifiers_74
          · skip
            have g44_38 : ¬ 3 ≤ kb.toInt := fun h8 => h_9 ((i_le (by decide) rfl).mpr h8)
            refine lv_iload_n hx hb d_DiscMakerModel_identifiers_47 rfl (lv_at hl 3 rfl) ?_
            refine lv_if_ne (tgt := 73) hx hb d_DiscMakerModel_identifiers_48 (by decide) (fun h_9 => ?_) (fun h_9 => ?_)
            · skip
              have g48_42 : ¬ db.toInt = 0 := fun h8 => h_9 ((i_eq rfl (by decide)).mpr h8)
              refine lv_iload_n hx hb d_DiscMakerModel_identifiers_73 rfl (lv_at hl 3 rfl) ?_
              have hP9 := hP.sub (ws' := [(h0, .inr (11, MO ma sv_thrown sv_length sv_nodes sv_many sv_directories sv_runsFrom sv_runs sv_read sv_wrong sv_isNamed sv_goes sv_goesSize sv_goesAt sv_targetParts sv_isRoot)), ((ma 12), .inl (cB, 320, .inl fBa)), ((ma 13), .inl (cI, 40, .inl fBs)), ((ma 14), .inl (cB, 120, .inl fEx)), ((ma 15), .inl (cI, 40, .inl fEs))]) [0, 1, 2, 3, 4] rfl
              have hD9 := hD.sub (ws' := [(h0, .inr (11, MO ma sv_thrown sv_length sv_nodes sv_many sv_directories sv_runsFrom sv_runs sv_read sv_wrong sv_isNamed sv_goes sv_goesSize sv_goesAt sv_targetParts sv_isRoot)), ((ma 12), .inl (cB, 320, .inl fBa)), ((ma 13), .inl (cI, 40, .inl fBs)), ((ma 14), .inl (cB, 120, .inl fEx)), ((ma 15), .inl (cI, 40, .inl fEs))]) [0, 1, 2, 3, 4] (by decide +kernel) rfl
              have h73 := i_cl (a := kb) (by omega)
              exact W.iret (v := db) hx hb hr (fun t ht hW => ⟨⟨db, (), rfl, ⟨(DX_ltI fb (by omega)), (DX_eqI fb (by omega))⟩, by rw [ht]; exact hP9, hD9⟩, hS.F ht⟩) hS.2.2 d_DiscMakerModel_identifiers_74
            · skip
              have g48_42 : db.toInt = 0 := (i_eq rfl (by decide)).mp h_9
              refine lv_aload_n hx hb d_DiscMakerModel_identifiers_51 rfl (lv_at hl 0 rfl) ?_
              refine lv_iload_n hx hb d_DiscMakerModel_identifiers_52 rfl (lv_at hl 1 rfl) ?_
              refine lv_iload hx hb d_DiscMakerModel_identifiers_53 (lv_at hl 4 rfl) ?_
              have hPc := hP.sub (ws' := [(h0, .inr (11, MO ma sv_thrown sv_length sv_nodes sv_many sv_directories sv_runsFrom sv_runs sv_read sv_wrong sv_isNamed sv_goes sv_goesSize sv_goesAt sv_targetParts sv_isRoot)), ((ma 14), .inl (cB, 120, .inl fEx)), ((ma 15), .inl (cI, 40, .inl fEs))]) [0, 3, 4] rfl
              have hDc := hD.sub (ws' := [(h0, .inr (11, MO ma sv_thrown sv_length sv_nodes sv_many sv_directories sv_runsFrom sv_runs sv_read sv_wrong sv_isNamed sv_goes sv_goesSize sv_goesAt sv_targetParts sv_isRoot)), ((ma 14), .inl (cB, 120, .inl fEx)), ((ma 15), .inl (cI, 40, .inl fEs))]) [0, 3, 4] (by decide +kernel) rfl
              have hFc := va_free (wc := [(h0, .inr (11, MO ma sv_thrown sv_length sv_nodes sv_many sv_directories sv_runsFrom sv_runs sv_read sv_wrong sv_isNamed sv_goes sv_goesSize sv_goesAt sv_targetParts sv_isRoot)), ((ma 14), .inl (cB, 120, .inl fEx)), ((ma 15), .inl (cI, 40, .inl fEs))]) hD hS hA [0, 3, 4] rfl
              have hkc : 0 ≤ 0 := by decide
              have hks : 0 ≤ 0 := by decide
              refine va_calli (va_runV (C := "DiscMakerModel") (As := [.int x, .int kb]) (rest := []) ⟨hx, hb, hml, hown, hts⟩ (m_extra l D cB cI cJ cZ cN cF H.size h0 ma sv_thrown sv_length sv_nodes sv_many sv_directories sv_runsFrom sv_runs sv_read sv_wrong sv_isNamed sv_goes sv_goesSize sv_goesAt sv_targetParts sv_isRoot fEx fEs x kb (by (try dsimp only); first | assumption | omega | trivial) (by (try dsimp only); first | assumption | omega | trivial) (by (try dsimp only); first | assumption | omega | trivial) (by (try dsimp only); first | assumption | omega | trivial)) (cwV 2 hts (lg_goodV k1667 k1669 k64 k125 kc_DiscMakerModel_extra) rfl rfl rfl (by decide +kernel) ⟨Nat.le_of_ble_eq_true rfl, Nat.le_of_ble_eq_true rfl⟩) ⟨fun a U g mk q => by obtain ⟨q0, q1, qP, qK, qN, qD⟩ := q; exact ⟨q0, q1, qP, va_K.moved (u := U) (U := U.calling g mk a) (Vm.Alike.refl U.vm) qK, qN.calling, qD⟩, va_recv hK hP (ci := 11) (q0 := 0) rfl rfl, fun U hU hW => ⟨rfl, by rw [hU], by rw [hU]; exact hPc, va_K.moved hW.alike hK, NN.warm hW hN, hDc.weaken (fun _ _ _ _ => trivial)⟩⟩ rfl rfl hl.1 rfl (lv_room (Nat.le_of_ble_eq_true rfl)) d_DiscMakerModel_identifiers_55 ⟨hkc, hks⟩) hS (fun q _ h => hFc q h) hFc (fun r9 u t H1 locs ht hvm hp_r9 hB hz1 hk1 hS => ?_)
              obtain ⟨hP1, hD1⟩ := hB
              rw [ht] at hP1
              obtain ⟨hP, hD⟩ := va_join (wr := [((ma 12), .inl (cB, 320, .inl fBa)), ((ma 13), .inl (cI, 40, .inl fBs))]) (w1 := [(h0, .inr (11, MO ma sv_thrown sv_length sv_nodes sv_many sv_directories sv_runsFrom sv_runs sv_read sv_wrong sv_isNamed sv_goes sv_goesSize sv_goesAt sv_targetParts sv_isRoot)), ((ma 14), .inl (cB, 120, .inl fEx)), ((ma 15), .inl (cI, 40, .inl fEs))]) hP hD [0, 3, 4] [1, 2] rfl rfl (by decide +kernel) (by decide +kernel) hk1 hFc hP1 hD1
              clear hPc hDc hFc hP1 hD1 hk1 hz1 hkc hks
              generalize H1 = H at hP hS ⊢
              have hP : va_P D CL [((ma 12), .inl (cB, 320, .inl fBa)), ((ma 13), .inl (cI, 40, .inl fBs)), (h0, .inr (11, MO ma sv_thrown sv_length sv_nodes sv_many sv_directories sv_runsFrom sv_runs sv_read sv_wrong sv_isNamed sv_goes sv_goesSize sv_goesAt sv_targetParts sv_isRoot)), ((ma 14), .inl (cB, 120, .inl fEx)), ((ma 15), .inl (cI, 40, .inl fEs))] H := hP
              have hD : va_D A [((ma 12), .inl (cB, 320, .inl fBa)), ((ma 13), .inl (cI, 40, .inl fBs)), (h0, .inr (11, MO ma sv_thrown sv_length sv_nodes sv_many sv_directories sv_runsFrom sv_runs sv_read sv_wrong sv_isNamed sv_goes sv_goesSize sv_goesAt sv_targetParts sv_isRoot)), ((ma 14), .inl (cB, 120, .inl fEx)), ((ma 15), .inl (cI, 40, .inl fEs))] := hD
              try dsimp only at hp_r9
              obtain ⟨hr_10, hv_11⟩ := hp_r9
              refine lv_aload_n hx hb d_DiscMakerModel_identifiers_58 rfl (lv_at hl 0 rfl) ?_
              refine lv_iload_n hx hb d_DiscMakerModel_identifiers_59 rfl (lv_at hl 2 rfl) ?_
              refine lv_iload hx hb d_DiscMakerModel_identifiers_60 (lv_at hl 4 rfl) ?_
              have hPc := hP.sub (ws' := [(h0, .inr (11, MO ma sv_thrown sv_length sv_nodes sv_many sv_directories sv_runsFrom sv_runs sv_read sv_wrong sv_isNamed sv_goes sv_goesSize sv_goesAt sv_targetParts sv_isRoot)), ((ma 14), .inl (cB, 120, .inl fEx)), ((ma 15), .inl (cI, 40, .inl fEs))]) [2, 3, 4] rfl
              have hDc := hD.sub (ws' := [(h0, .inr (11, MO ma sv_thrown sv_length sv_nodes sv_many sv_directories sv_runsFrom sv_runs sv_read sv_wrong sv_isNamed sv_goes sv_goesSize sv_goesAt sv_targetParts sv_isRoot)), ((ma 14), .inl (cB, 120, .inl fEx)), ((ma 15), .inl (cI, 40, .inl fEs))]) [2, 3, 4] (by decide +kernel) rfl
              have hFc := va_free (wc := [(h0, .inr (11, MO ma sv_thrown sv_length sv_nodes sv_many sv_directories sv_runsFrom sv_runs sv_read sv_wrong sv_isNamed sv_goes sv_goesSize sv_goesAt sv_targetParts sv_isRoot)), ((ma 14), .inl (cB, 120, .inl fEx)), ((ma 15), .inl (cI, 40, .inl fEs))]) hD hS hA [2, 3, 4] rfl
              have hkc : 0 ≤ 0 := by decide
              have hks : 0 ≤ 0 := by decide
              refine va_calli (va_runV (C := "DiscMakerModel") (As := [.int y, .int kb]) (rest := [.int r9]) ⟨hx, hb, hml, hown, hts⟩ (m_extra l D cB cI cJ cZ cN cF H.size h0 ma sv_thrown sv_length sv_nodes sv_many sv_directories sv_runsFrom sv_runs sv_read sv_wrong sv_isNamed sv_goes sv_goesSize sv_goesAt sv_targetParts sv_isRoot fEx fEs y kb (by (try dsimp only); first | assumption | omega | trivial) (by (try dsimp only); first | assumption | omega | trivial) (by (try dsimp only); first | assumption | omega | trivial) (by (try dsimp only); first | assumption | omega | trivial)) (cwV 2 hts (lg_goodV k1667 k1669 k64 k125 kc_DiscMakerModel_extra) rfl rfl rfl (by decide +kernel) ⟨Nat.le_of_ble_eq_true rfl, Nat.le_of_ble_eq_true rfl⟩) ⟨fun a U g mk q => by obtain ⟨q0, q1, qP, qK, qN, qD⟩ := q; exact ⟨q0, q1, qP, va_K.moved (u := U) (U := U.calling g mk a) (Vm.Alike.refl U.vm) qK, qN.calling, qD⟩, va_recv hK hP (ci := 11) (q0 := 2) rfl rfl, fun U hU hW => ⟨rfl, by rw [hU], by rw [hU]; exact hPc, va_K.moved hW.alike hK, NN.warm hW hN, hDc.weaken (fun _ _ _ _ => trivial)⟩⟩ rfl rfl hl.1 rfl (lv_room (Nat.le_of_ble_eq_true rfl)) d_DiscMakerModel_identifiers_62 ⟨hkc, hks⟩) hS (fun q _ h => hFc q h) hFc (fun r12 u t H1 locs ht hvm hp_r12 hB hz1 hk1 hS => ?_)
              obtain ⟨hP1, hD1⟩ := hB
              rw [ht] at hP1
              obtain ⟨hP, hD⟩ := va_join (wr := [((ma 12), .inl (cB, 320, .inl fBa)), ((ma 13), .inl (cI, 40, .inl fBs))]) (w1 := [(h0, .inr (11, MO ma sv_thrown sv_length sv_nodes sv_many sv_directories sv_runsFrom sv_runs sv_read sv_wrong sv_isNamed sv_goes sv_goesSize sv_goesAt sv_targetParts sv_isRoot)), ((ma 14), .inl (cB, 120, .inl fEx)), ((ma 15), .inl (cI, 40, .inl fEs))]) hP hD [2, 3, 4] [0, 1] rfl rfl (by decide +kernel) (by decide +kernel) hk1 hFc hP1 hD1
              clear hPc hDc hFc hP1 hD1 hk1 hz1 hkc hks
              generalize H1 = H at hP hS ⊢
              have hP : va_P D CL [((ma 12), .inl (cB, 320, .inl fBa)), ((ma 13), .inl (cI, 40, .inl fBs)), (h0, .inr (11, MO ma sv_thrown sv_length sv_nodes sv_many sv_directories sv_runsFrom sv_runs sv_read sv_wrong sv_isNamed sv_goes sv_goesSize sv_goesAt sv_targetParts sv_isRoot)), ((ma 14), .inl (cB, 120, .inl fEx)), ((ma 15), .inl (cI, 40, .inl fEs))] H := hP
              have hD : va_D A [((ma 12), .inl (cB, 320, .inl fBa)), ((ma 13), .inl (cI, 40, .inl fBs)), (h0, .inr (11, MO ma sv_thrown sv_length sv_nodes sv_many sv_directories sv_runsFrom sv_runs sv_read sv_wrong sv_isNamed sv_goes sv_goesSize sv_goesAt sv_targetParts sv_isRoot)), ((ma 14), .inl (cB, 120, .inl fEx)), ((ma 15), .inl (cI, 40, .inl fEs))] := hD
              try dsimp only at hp_r12
              obtain ⟨hr_13, hv_14⟩ := hp_r12
              refine lv_isub hx hb d_DiscMakerModel_identifiers_65 ?_
              refine lv_topi (fun v15 e_v15 => ?_)
              have t_v15 : v15.toInt = r9.toInt - r12.toInt := by rw [e_v15]; exact i_sub rfl rfl (by omega) (by omega)
              refine lv_istore_n hx hb d_DiscMakerModel_identifiers_66 rfl hl (by decide) rfl (fun ls hl => ?_)
              have hl : lv_has ls 5 [(3, .int v15), (0, .ref h0), (1, .int x), (2, .int y), (4, .int kb)] := hl
              obtain ⟨v16, e_v16⟩ : ∃ z : Int32, z = kb + 1 := ⟨_, rfl⟩
              refine lv_iinc (v := v16) hx hb d_DiscMakerModel_identifiers_67 hl (k := 4) rfl e_v16.symm (by decide +kernel) rfl (fun ls hl => ?_)
              have t_v16 : v16.toInt = kb.toInt + 1 := by rw [e_v16]; exact i_add rfl (by decide) (by omega) (by omega)
              have hl : lv_has ls 5 [(4, .int v16), (3, .int v15), (0, .ref h0), (1, .int x), (2, .int y)] := hl
              refine lv_goto (tgt := 41) hx hb d_DiscMakerModel_identifiers_70 (by decide) ?_
              have hP := hP.sub (ws' := [(h0, .inr (11, MO ma sv_thrown sv_length sv_nodes sv_many sv_directories sv_runsFrom sv_runs sv_read sv_wrong sv_isNamed sv_goes sv_goesSize sv_goesAt sv_targetParts sv_isRoot)), ((ma 12), .inl (cB, 320, .inl fBa)), ((ma 13), .inl (cI, 40, .inl fBs)), ((ma 14), .inl (cB, 120, .inl fEx)), ((ma 15), .inl (cI, 40, .inl fEs))]) [2, 0, 1, 3, 4] rfl
              have hD := hD.sub (ws' := [(h0, .inr (11, MO ma sv_thrown sv_length sv_nodes sv_many sv_directories sv_runsFrom sv_runs sv_read sv_wrong sv_isNamed sv_goes sv_goesSize sv_goesAt sv_targetParts sv_isRoot)), ((ma 12), .inl (cB, 320, .inl fBa)), ((ma 13), .inl (cI, 40, .inl fBs)), ((ma 14), .inl (cB, 120, .inl fEx)), ((ma 15), .inl (cI, 40, .inl fEs))]) [2, 0, 1, 3, 4] (by decide +kernel) rfl
              have hl := lv_sub hl [2, 3, 4, 1, 0] rfl
              exact ih41 _ (by first | omega | (dsimp only; omega)) v15 v16 _ _ _ rfl ((by (try dsimp only); first | assumption | omega | trivial)) ((by have h1 := i_cl (a := kb) (by omega); have h2 := i_cl (a := v16) (by omega); rw [show 8 + v16.toNatClampNeg = 8 + kb.toNatClampNeg + 1 by omega]; exact DX_step fb (by omega) (by omega) (by rw [kyF_ex, kyF_ex]; omega))) hP hD hS hl
        · skip
          intro kk41
          have hP := hP.sub (ws' := [(h0, .inr (11, MO ma sv_thrown sv_length sv_nodes sv_many sv_directories sv_runsFrom sv_runs sv_read sv_wrong sv_isNamed sv_goes sv_goesSize sv_goesAt sv_targetParts sv_isRoot)), ((ma 12), .inl (cB, 320, .inl fBa)), ((ma 13), .inl (cI, 40, .inl fBs)), ((ma 14), .inl (cB, 120, .inl fEx)), ((ma 15), .inl (cI, 40, .inl fEs))]) [0, 1, 2, 3, 4] rfl
          have hD := hD.sub (ws' := [(h0, .inr (11, MO ma sv_thrown sv_length sv_nodes sv_many sv_directories sv_runsFrom sv_runs sv_read sv_wrong sv_isNamed sv_goes sv_goesSize sv_goesAt sv_targetParts sv_isRoot)), ((ma 12), .inl (cB, 320, .inl fBa)), ((ma 13), .inl (cI, 40, .inl fBs)), ((ma 14), .inl (cB, 120, .inl fEx)), ((ma 15), .inl (cI, 40, .inl fEs))]) [0, 1, 2, 3, 4] (by decide +kernel) rfl
          have hl := lv_sub hl [1, 2, 3, 4, 0] rfl
          exact kk41 _ da 0 _ _ _ rfl ((by (try dsimp only); first | assumption | omega | trivial)) ((DX_exit fa (by rw [show (0 : Int32).toNatClampNeg = 0 by decide]; omega))) hP hD hS hl
      · skip
        have g13_33 : da.toInt = 0 := (i_eq rfl (by decide)).mp h_9
        refine lv_aload_n hx hb d_DiscMakerModel_identifiers_16 rfl (lv_at hl 0 rfl) ?_
        refine lv_iload_n hx hb d_DiscMakerModel_identifiers_17 rfl (lv_at hl 1 rfl) ?_
        refine lv_iload hx hb d_DiscMakerModel_identifiers_18 (lv_at hl 4 rfl) ?_
        have hPc := hP.sub (ws' := [(h0, .inr (11, MO ma sv_thrown sv_length sv_nodes sv_many sv_directories sv_runsFrom sv_runs sv_read sv_wrong sv_isNamed sv_goes sv_goesSize sv_goesAt sv_targetParts sv_isRoot)), ((ma 12), .inl (cB, 320, .inl fBa)), ((ma 13), .inl (cI, 40, .inl fBs))]) [0, 1, 2] rfl
        have hDc := hD.sub (ws' := [(h0, .inr (11, MO ma sv_thrown sv_length sv_nodes sv_many sv_directories sv_runsFrom sv_runs sv_read sv_wrong sv_isNamed sv_goes sv_goesSize sv_goesAt sv_targetParts sv_isRoot)), ((ma 12), .inl (cB, 320, .inl fBa)), ((ma 13), .inl (cI, 40, .inl fBs))]) [0, 1, 2] (by decide +kernel) rfl
        have hFc := va_free (wc := [(h0, .inr (11, MO ma sv_thrown sv_length sv_nodes sv_many sv_directories sv_runsFrom sv_runs sv_read sv_wrong sv_isNamed sv_goes sv_goesSize sv_goesAt sv_targetParts sv_isRoot)), ((ma 12), .inl (cB, 320, .inl fBa)), ((ma 13), .inl (cI, 40, .inl fBs))]) hD hS hA [0, 1, 2] rfl
        have hkc : 0 ≤ 0 := by decide
        have hks : 0 ≤ 0 := by decide
        refine va_calli (va_runV (C := "DiscMakerModel") (As := [.int x, .int ka]) (rest := []) ⟨hx, hb, hml, hown, hts⟩ (m_letter l D cB cI cJ cZ cN cF H.size h0 ma sv_thrown sv_length sv_nodes sv_many sv_directories sv_runsFrom sv_runs sv_read sv_wrong sv_isNamed sv_goes sv_goesSize sv_goesAt sv_targetParts sv_isRoot fBa fBs x ka (by (try dsimp only); first | assumption | omega | trivial) (by (try dsimp only); first | assumption | omega | trivial) (by (try dsimp only); first | assumption | omega | trivial) (by (try dsimp only); first | assumption | omega | trivial)) (cwV 2 hts (lg_goodV k1663 k1665 k63 k125 kc_DiscMakerModel_letter) rfl rfl rfl (by decide +kernel) ⟨Nat.le_of_ble_eq_true rfl, Nat.le_of_ble_eq_true rfl⟩) ⟨fun a U g mk q => by obtain ⟨q0, q1, qP, qK, qN, qD⟩ := q; exact ⟨q0, q1, qP, va_K.moved (u := U) (U := U.calling g mk a) (Vm.Alike.refl U.vm) qK, qN.calling, qD⟩, va_recv hK hP (ci := 11) (q0 := 0) rfl rfl, fun U hU hW => ⟨rfl, by rw [hU], by rw [hU]; exact hPc, va_K.moved hW.alike hK, NN.warm hW hN, hDc.weaken (fun _ _ _ _ => trivial)⟩⟩ rfl rfl hl.1 rfl (lv_room (Nat.le_of_ble_eq_true rfl)) d_DiscMakerModel_identifiers_20 ⟨hkc, hks⟩) hS (fun q _ h => hFc q h) hFc (fun r17 u t H1 locs ht hvm hp_r17 hB hz1 hk1 hS => ?_)
        obtain ⟨hP1, hD1⟩ := hB
        rw [ht] at hP1
        obtain ⟨hP, hD⟩ := va_join (wr := [((ma 14), .inl (cB, 120, .inl fEx)), ((ma 15), .inl (cI, 40, .inl fEs))]) (w1 := [(h0, .inr (11, MO ma sv_thrown sv_length sv_nodes sv_many sv_directories sv_runsFrom sv_runs sv_read sv_wrong sv_isNamed sv_goes sv_goesSize sv_goesAt sv_targetParts sv_isRoot)), ((ma 12), .inl (cB, 320, .inl fBa)), ((ma 13), .inl (cI, 40, .inl fBs))]) hP hD [0, 1, 2] [3, 4] rfl rfl (by decide +kernel) (by decide +kernel) hk1 hFc hP1 hD1
        clear hPc hDc hFc hP1 hD1 hk1 hz1 hkc hks
        generalize H1 = H at hP hS ⊢
        have hP : va_P D CL [((ma 14), .inl (cB, 120, .inl fEx)), ((ma 15), .inl (cI, 40, .inl fEs)), (h0, .inr (11, MO ma sv_thrown sv_length sv_nodes sv_many sv_directories sv_runsFrom sv_runs sv_read sv_wrong sv_isNamed sv_goes sv_goesSize sv_goesAt sv_targetParts sv_isRoot)), ((ma 12), .inl (cB, 320, .inl fBa)), ((ma 13), .inl (cI, 40, .inl fBs))] H := hP
        have hD : va_D A [((ma 14), .inl (cB, 120, .inl fEx)), ((ma 15), .inl (cI, 40, .inl fEs)), (h0, .inr (11, MO ma sv_thrown sv_length sv_nodes sv_many sv_directories sv_runsFrom sv_runs sv_read sv_wrong sv_isNamed sv_goes sv_goesSize sv_goesAt sv_targetParts sv_isRoot)), ((ma 12), .inl (cB, 320, .inl fBa)), ((ma 13), .inl (cI, 40, .inl fBs))] := hD
        try dsimp only at hp_r17
        obtain ⟨hr_18, hv_19⟩ := hp_r17
        refine lv_aload_n hx hb d_DiscMakerModel_identifiers_23 rfl (lv_at hl 0 rfl) ?_
        refine lv_iload_n hx hb d_DiscMakerModel_identifiers_24 rfl (lv_at hl 2 rfl) ?_
        refine lv_iload hx hb d_DiscMakerModel_identifiers_25 (lv_at hl 4 rfl) ?_
        have hPc := hP.sub (ws' := [(h0, .inr (11, MO ma sv_thrown sv_length sv_nodes sv_many sv_directories sv_runsFrom sv_runs sv_read sv_wrong sv_isNamed sv_goes sv_goesSize sv_goesAt sv_targetParts sv_isRoot)), ((ma 12), .inl (cB, 320, .inl fBa)), ((ma 13), .inl (cI, 40, .inl fBs))]) [2, 3, 4] rfl
        have hDc := hD.sub (ws' := [(h0, .inr (11, MO ma sv_thrown sv_length sv_nodes sv_many sv_directories sv_runsFrom sv_runs sv_read sv_wrong sv_isNamed sv_goes sv_goesSize sv_goesAt sv_targetParts sv_isRoot)), ((ma 12), .inl (cB, 320, .inl fBa)), ((ma 13), .inl (cI, 40, .inl fBs))]) [2, 3, 4] (by decide +kernel) rfl
        have hFc := va_free (wc := [(h0, .inr (11, MO ma sv_thrown sv_length sv_nodes sv_many sv_directories sv_runsFrom sv_runs sv_read sv_wrong sv_isNamed sv_goes sv_goesSize sv_goesAt sv_targetParts sv_isRoot)), ((ma 12), .inl (cB, 320, .inl fBa)), ((ma 13), .inl (cI, 40, .inl fBs))]) hD hS hA [2, 3, 4] rfl
        have hkc : 0 ≤ 0 := by decide
        have hks : 0 ≤ 0 := by decide
        refine va_calli (va_runV (C := "DiscMakerModel") (As := [.int y, .int ka]) (rest := [.int r17]) ⟨hx, hb, hml, hown, hts⟩ (m_letter l D cB cI cJ cZ cN cF H.size h0 ma sv_thrown sv_length sv_nodes sv_many sv_directories sv_runsFrom sv_runs sv_read sv_wrong sv_isNamed sv_goes sv_goesSize sv_goesAt sv_targetParts sv_isRoot fBa fBs y ka (by (try dsimp only); first | assumption | omega | trivial) (by (try dsimp only); first | assumption | omega | trivial) (by (try dsimp only); first | assumption | omega | trivial) (by (try dsimp only); first | assumption | omega | trivial)) (cwV 2 hts (lg_goodV k1663 k1665 k63 k125 kc_DiscMakerModel_letter) rfl rfl rfl (by decide +kernel) ⟨Nat.le_of_ble_eq_true rfl, Nat.le_of_ble_eq_true rfl⟩) ⟨fun a U g mk q => by obtain ⟨q0, q1, qP, qK, qN, qD⟩ := q; exact ⟨q0, q1, qP, va_K.moved (u := U) (U := U.calling g mk a) (Vm.Alike.refl U.vm) qK, qN.calling, qD⟩, va_recv hK hP (ci := 11) (q0 := 2) rfl rfl, fun U hU hW => ⟨rfl, by rw [hU], by rw [hU]; exact hPc, va_K.moved hW.alike hK, NN.warm hW hN, hDc.weaken (fun _ _ _ _ => trivial)⟩⟩ rfl rfl hl.1 rfl (lv_room (Nat.le_of_ble_eq_true rfl)) d_DiscMakerModel_identifiers_27 ⟨hkc, hks⟩) hS (fun q _ h => hFc q h) hFc (fun r20 u t H1 locs ht hvm hp_r20 hB hz1 hk1 hS => ?_)
        obtain ⟨hP1, hD1⟩ := hB
        rw [ht] at hP1
        obtain ⟨hP, hD⟩ := va_join (wr := [((ma 14), .inl (cB, 120, .inl fEx)), ((ma 15), .inl (cI, 40, .inl fEs))]) (w1 := [(h0, .inr (11, MO ma sv_thrown sv_length sv_nodes sv_many sv_directories sv_runsFrom sv_runs sv_read sv_wrong sv_isNamed sv_goes sv_goesSize sv_goesAt sv_targetParts sv_isRoot)), ((ma 12), .inl (cB, 320, .inl fBa)), ((ma 13), .inl (cI, 40, .inl fBs))]) hP hD [2, 3, 4] [0, 1] rfl rfl (by decide +kernel) (by decide +kernel) hk1 hFc hP1 hD1
        clear hPc hDc hFc hP1 hD1 hk1 hz1 hkc hks
        generalize H1 = H at hP hS ⊢
        have hP : va_P D CL [((ma 14), .inl (cB, 120, .inl fEx)), ((ma 15), .inl (cI, 40, .inl fEs)), (h0, .inr (11, MO ma sv_thrown sv_length sv_nodes sv_many sv_directories sv_runsFrom sv_runs sv_read sv_wrong sv_isNamed sv_goes sv_goesSize sv_goesAt sv_targetParts sv_isRoot)), ((ma 12), .inl (cB, 320, .inl fBa)), ((ma 13), .inl (cI, 40, .inl fBs))] H := hP
        have hD : va_D A [((ma 14), .inl (cB, 120, .inl fEx)), ((ma 15), .inl (cI, 40, .inl fEs)), (h0, .inr (11, MO ma sv_thrown sv_length sv_nodes sv_many sv_directories sv_runsFrom sv_runs sv_read sv_wrong sv_isNamed sv_goes sv_goesSize sv_goesAt sv_targetParts sv_isRoot)), ((ma 12), .inl (cB, 320, .inl fBa)), ((ma 13), .inl (cI, 40, .inl fBs))] := hD
        try dsimp only at hp_r20
        obtain ⟨hr_21, hv_22⟩ := hp_r20
        refine lv_isub hx hb d_DiscMakerModel_identifiers_30 ?_
        refine lv_topi (fun v23 e_v23 => ?_)
        have t_v23 : v23.toInt = r17.toInt - r20.toInt := by rw [e_v23]; exact i_sub rfl rfl (by omega) (by omega)
        refine lv_istore_n hx hb d_DiscMakerModel_identifiers_31 rfl hl (by decide) rfl (fun ls hl => ?_)
        have hl : lv_has ls 5 [(3, .int v23), (0, .ref h0), (1, .int x), (2, .int y), (4, .int ka)] := hl
        obtain ⟨v24, e_v24⟩ : ∃ z : Int32, z = ka + 1 := ⟨_, rfl⟩
        refine lv_iinc (v := v24) hx hb d_DiscMakerModel_identifiers_32 hl (k := 4) rfl e_v24.symm (by decide +kernel) rfl (fun ls hl => ?_)
        have t_v24 : v24.toInt = ka.toInt + 1 := by rw [e_v24]; exact i_add rfl (by decide) (by omega) (by omega)
        have hl : lv_has ls 5 [(4, .int v24), (3, .int v23), (0, .ref h0), (1, .int x), (2, .int y)] := hl
        refine lv_goto (tgt := 5) hx hb d_DiscMakerModel_identifiers_35 (by decide) ?_
        have hP := hP.sub (ws' := [(h0, .inr (11, MO ma sv_thrown sv_length sv_nodes sv_many sv_directories sv_runsFrom sv_runs sv_read sv_wrong sv_isNamed sv_goes sv_goesSize sv_goesAt sv_targetParts sv_isRoot)), ((ma 12), .inl (cB, 320, .inl fBa)), ((ma 13), .inl (cI, 40, .inl fBs)), ((ma 14), .inl (cB, 120, .inl fEx)), ((ma 15), .inl (cI, 40, .inl fEs))]) [2, 3, 4, 0, 1] rfl
        have hD := hD.sub (ws' := [(h0, .inr (11, MO ma sv_thrown sv_length sv_nodes sv_many sv_directories sv_runsFrom sv_runs sv_read sv_wrong sv_isNamed sv_goes sv_goesSize sv_goesAt sv_targetParts sv_isRoot)), ((ma 12), .inl (cB, 320, .inl fBa)), ((ma 13), .inl (cI, 40, .inl fBs)), ((ma 14), .inl (cB, 120, .inl fEx)), ((ma 15), .inl (cI, 40, .inl fEs))]) [2, 3, 4, 0, 1] (by decide +kernel) rfl
        have hl := lv_sub hl [2, 3, 4, 1, 0] rfl
        exact ih5 _ (by first | omega | (dsimp only; omega)) v23 v24 _ _ _ rfl ((by (try dsimp only); first | assumption | omega | trivial)) ((by have h1 := i_cl (a := ka) (by omega); have h2 := i_cl (a := v24) (by omega); rw [show v24.toNatClampNeg = ka.toNatClampNeg + 1 by omega]; exact DX_step fa (by omega) (by omega) (by rw [kyF_le (by omega), kyF_le (by omega)]; omega))) hP hD hS hl
  · skip
    intro kk5
    have hP := hP.sub (ws' := [(h0, .inr (11, MO ma sv_thrown sv_length sv_nodes sv_many sv_directories sv_runsFrom sv_runs sv_read sv_wrong sv_isNamed sv_goes sv_goesSize sv_goesAt sv_targetParts sv_isRoot)), ((ma 12), .inl (cB, 320, .inl fBa)), ((ma 13), .inl (cI, 40, .inl fBs)), ((ma 14), .inl (cB, 120, .inl fEx)), ((ma 15), .inl (cI, 40, .inl fEs))]) [0, 1, 2, 3, 4] rfl
    have hD := hD.sub (ws' := [(h0, .inr (11, MO ma sv_thrown sv_length sv_nodes sv_many sv_directories sv_runsFrom sv_runs sv_read sv_wrong sv_isNamed sv_goes sv_goesSize sv_goesAt sv_targetParts sv_isRoot)), ((ma 12), .inl (cB, 320, .inl fBa)), ((ma 13), .inl (cI, 40, .inl fBs)), ((ma 14), .inl (cB, 120, .inl fEx)), ((ma 15), .inl (cI, 40, .inl fEs))]) [0, 1, 2, 3, 4] (by decide +kernel) rfl
    have hl := lv_sub hl [2, 3, 4, 1, 0] rfl
    exact kk5 _ 0 0 _ _ _ rfl ((by (try dsimp only); first | assumption | omega | trivial)) ((DX_0 (by omega) (by decide))) hP hD hS hl

theorem d_DiscMakerModel_isTaken_0 : decode b_DiscMakerModel_isTaken 0 = .ok (.iconst 0, 1) := by decide +kernel
theorem d_DiscMakerModel_isTaken_1 : decode b_DiscMakerModel_isTaken 1 = .ok (.istore_n 2, 1) := by decide +kernel
theorem d_DiscMakerModel_isTaken_2 : decode b_DiscMakerModel_isTaken 2 = .ok (.iconst 1, 1) := by decide +kernel
theorem d_DiscMakerModel_isTaken_3 : decode b_DiscMakerModel_isTaken 3 = .ok (.istore_n 3, 1) := by decide +kernel
theorem d_DiscMakerModel_isTaken_4 : decode b_DiscMakerModel_isTaken 4 = .ok (.iload_n 3, 1) := by decide +kernel
theorem d_DiscMakerModel_isTaken_5 : decode b_DiscMakerModel_isTaken 5 = .ok (.iload_n 1, 1) := by decide +kernel
theorem d_DiscMakerModel_isTaken_6 : decode b_DiscMakerModel_isTaken 6 = .ok (.if_icmp .ge 43, 3) := by decide +kernel
theorem d_DiscMakerModel_isTaken_9 : decode b_DiscMakerModel_isTaken 9 = .ok (.iload_n 2, 1) := by decide +kernel
theorem d_DiscMakerModel_isTaken_10 : decode b_DiscMakerModel_isTaken 10 = .ok (.ifCond .ne 27, 3) := by decide +kernel
theorem d_DiscMakerModel_isTaken_13 : decode b_DiscMakerModel_isTaken 13 = .ok (.aload_n 0, 1) := by decide +kernel
theorem d_DiscMakerModel_isTaken_14 : decode b_DiscMakerModel_isTaken 14 = .ok (.getfield 17, 3) := by decide +kernel
theorem d_DiscMakerModel_isTaken_17 : decode b_DiscMakerModel_isTaken 17 = .ok (.iload_n 3, 1) := by decide +kernel
theorem d_DiscMakerModel_isTaken_18 : decode b_DiscMakerModel_isTaken 18 = .ok (.iaload, 1) := by decide +kernel
theorem d_DiscMakerModel_isTaken_19 : decode b_DiscMakerModel_isTaken 19 = .ok (.aload_n 0, 1) := by decide +kernel
theorem d_DiscMakerModel_isTaken_20 : decode b_DiscMakerModel_isTaken 20 = .ok (.getfield 17, 3) := by decide +kernel
theorem d_DiscMakerModel_isTaken_23 : decode b_DiscMakerModel_isTaken 23 = .ok (.iload_n 1, 1) := by decide +kernel
theorem d_DiscMakerModel_isTaken_24 : decode b_DiscMakerModel_isTaken 24 = .ok (.iaload, 1) := by decide +kernel
theorem d_DiscMakerModel_isTaken_25 : decode b_DiscMakerModel_isTaken 25 = .ok (.if_icmp .ne 16, 3) := by decide +kernel
theorem d_DiscMakerModel_isTaken_28 : decode b_DiscMakerModel_isTaken 28 = .ok (.aload_n 0, 1) := by decide +kernel
theorem d_DiscMakerModel_isTaken_29 : decode b_DiscMakerModel_isTaken 29 = .ok (.iload_n 3, 1) := by decide +kernel
theorem d_DiscMakerModel_isTaken_30 : decode b_DiscMakerModel_isTaken 30 = .ok (.iload_n 1, 1) := by decide +kernel
theorem d_DiscMakerModel_isTaken_31 : decode b_DiscMakerModel_isTaken 31 = .ok (.invokevirtual 169, 3) := by decide +kernel
theorem d_DiscMakerModel_isTaken_34 : decode b_DiscMakerModel_isTaken 34 = .ok (.ifCond .ne 7, 3) := by decide +kernel
theorem d_DiscMakerModel_isTaken_37 : decode b_DiscMakerModel_isTaken 37 = .ok (.iconst 1, 1) := by decide +kernel
theorem d_DiscMakerModel_isTaken_38 : decode b_DiscMakerModel_isTaken 38 = .ok (.goto 4, 3) := by decide +kernel
theorem d_DiscMakerModel_isTaken_41 : decode b_DiscMakerModel_isTaken 41 = .ok (.iconst 0, 1) := by decide +kernel
theorem d_DiscMakerModel_isTaken_42 : decode b_DiscMakerModel_isTaken 42 = .ok (.istore_n 2, 1) := by decide +kernel
theorem d_DiscMakerModel_isTaken_43 : decode b_DiscMakerModel_isTaken 43 = .ok (.iinc 3 1, 3) := by decide +kernel
theorem d_DiscMakerModel_isTaken_46 : decode b_DiscMakerModel_isTaken 46 = .ok (.goto (-42), 3) := by decide +kernel
theorem d_DiscMakerModel_isTaken_49 : decode b_DiscMakerModel_isTaken 49 = .ok (.iload_n 2, 1) := by decide +kernel
theorem d_DiscMakerModel_isTaken_50 : decode b_DiscMakerModel_isTaken 50 = .ok (.ireturn, 1) := by decide +kernel
set_option maxHeartbeats 4000000 in
set_option maxRecDepth 100000 in
theorem m_isTaken (l : Launch) (D : va_G) (cB cI cJ cZ cN cF : ClassId) (sz : Nat) (h0 : Nat) (ma : Nat → Nat) (sv_thrown sv_length sv_nodes sv_many sv_directories sv_runsFrom sv_runs sv_read sv_wrong sv_isNamed sv_goes sv_goesSize sv_goesAt sv_targetParts sv_isRoot : Int32) (fP : Nat → Int32) (fBa : Nat → Int32) (fBs : Nat → Int32) (fEx : Nat → Int32) (fEs : Nat → Int32) (x : Int32) (hx0 : 1 ≤ x.toInt ∧ x.toInt < 40) (hBa : Rg (-128) 127 320 fBa) (hBs : Rg 0 8 40 fBs) (hEx : Rg (-128) 127 120 fEx) (hEs : Rg 0 3 40 fEs) : Met l y_DiscMakerModel_isTaken w_DiscMakerModel_isTaken ({ frames := 2, cells := 0, slots := 0, locals := 46 }) (va_Pc [.ref h0, .int x] (fun U => U.heap.size = sz ∧ va_P D CL [(h0, .inr (11, MO ma sv_thrown sv_length sv_nodes sv_many sv_directories sv_runsFrom sv_runs sv_read sv_wrong sv_isNamed sv_goes sv_goesSize sv_goesAt sv_targetParts sv_isRoot)), ((ma 2), .inl (cI, 40, .inl fP)), ((ma 12), .inl (cB, 320, .inl fBa)), ((ma 13), .inl (cI, 40, .inl fBs)), ((ma 14), .inl (cB, 120, .inl fEx)), ((ma 15), .inl (cI, 40, .inl fEs))] U.heap ∧ va_K D CL (TY cB cI cJ cZ cN cF) U ∧ NN U ∧ va_D (fun _ => True) [(h0, .inr (11, MO ma sv_thrown sv_length sv_nodes sv_many sv_directories sv_runsFrom sv_runs sv_read sv_wrong sv_isNamed sv_goes sv_goesSize sv_goesAt sv_targetParts sv_isRoot)), ((ma 2), .inl (cI, 40, .inl fP)), ((ma 12), .inl (cB, 320, .inl fBa)), ((ma 13), .inl (cI, 40, .inl fBs)), ((ma 14), .inl (cB, 120, .inl fEx)), ((ma 15), .inl (cI, 40, .inl fEs))])) (va_Qi (fun (r : Int32) (u : Unit) => (0 ≤ r.toInt ∧ r.toInt ≤ 1) ∧ (r.toInt ≠ 0 → ∃ q : Nat, 1 ≤ q ∧ (q : Int) < x.toInt ∧ ∀ j, j < 11 → kyF fBa fBs fEx fEs q j = kyF fBa fBs fEx fEs x.toNatClampNeg j) ∧ (r.toInt = 0 → ∀ q : Nat, 1 ≤ q → (q : Int) < x.toInt → fP q = fP x.toNatClampNeg → ¬ ∀ j, j < 11 → kyF fBa fBs fEx fEs q j = kyF fBa fBs fEx fEs x.toNatClampNeg j)) (fun (u : Unit) (t : State) => match u with | () => va_P D CL [(h0, .inr (11, MO ma sv_thrown sv_length sv_nodes sv_many sv_directories sv_runsFrom sv_runs sv_read sv_wrong sv_isNamed sv_goes sv_goesSize sv_goesAt sv_targetParts sv_isRoot)), ((ma 2), .inl (cI, 40, .inl fP)), ((ma 12), .inl (cB, 320, .inl fBa)), ((ma 13), .inl (cI, 40, .inl fBs)), ((ma 14), .inl (cB, 120, .inl fEx)), ((ma 15), .inl (cI, 40, .inl fEs))] t.heap ∧ va_D (va_A [(h0, .inr (11, MO ma sv_thrown sv_length sv_nodes sv_many sv_directories sv_runsFrom sv_runs sv_read sv_wrong sv_isNamed sv_goes sv_goesSize sv_goesAt sv_targetParts sv_isRoot)), ((ma 2), .inl (cI, 40, .inl fP)), ((ma 12), .inl (cB, 320, .inl fBa)), ((ma 13), .inl (cI, 40, .inl fBs)), ((ma 14), .inl (cB, 120, .inl fEx)), ((ma 15), .inl (cI, 40, .inl fEs))] sz) [(h0, .inr (11, MO ma sv_thrown sv_length sv_nodes sv_many sv_directories sv_runsFrom sv_runs sv_read sv_wrong sv_isNamed sv_goes sv_goesSize sv_goesAt sv_targetParts sv_isRoot)), ((ma 2), .inl (cI, 40, .inl fP)), ((ma 12), .inl (cB, 320, .inl fBa)), ((ma 13), .inl (cI, 40, .inl fBs)), ((ma 14), .inl (cB, 120, .inl fEx)), ((ma 15), .inl (cI, 40, .inl fEs))]) (va_A [(h0, .inr (11, MO ma sv_thrown sv_length sv_nodes sv_many sv_directories sv_runsFrom sv_runs sv_read sv_wrong sv_isNamed sv_goes sv_goesSize sv_goesAt sv_targetParts sv_isRoot)), ((ma 2), .inl (cI, 40, .inl fP)), ((ma 12), .inl (cB, 320, .inl fBa)), ((ma 13), .inl (cI, 40, .inl fBs)), ((ma 14), .inl (cB, 120, .inl fEx)), ((ma 15), .inl (cI, 40, .inl fEs))] sz)) 0 0 (va_A [(h0, .inr (11, MO ma sv_thrown sv_length sv_nodes sv_many sv_directories sv_runsFrom sv_runs sv_read sv_wrong sv_isNamed sv_goes sv_goesSize sv_goesAt sv_targetParts sv_isRoot)), ((ma 2), .inl (cI, 40, .inl fP)), ((ma 12), .inl (cB, 320, .inl fBa)), ((ma 13), .inl (cI, 40, .inl fBs)), ((ma 14), .inl (cB, 120, .inl fEx)), ((ma 15), .inl (cI, 40, .inl fEs))] sz) := by
  refine Met.ofW (cc := b_DiscMakerModel_isTaken) (maxL := 4) (ret := some .boolean) (by decide) rfl ?_
  intro p e s m args below meth c s₁ B hml hv
  obtain ⟨rfl, hsz, hP, hK, hN, hD0⟩ := hv
  have hx := B.exec
  have hb := B.bytes
  have hr := B.returns
  have hts := atoms_spec (ws := w_DiscMakerModel_isTaken) B.pre
  have ht9 := fun (w : Cond) (h : w ∈ lw_g) => hts w (List.mem_cons_of_mem _ h)
  have hown : s.vm.findClass "DiscMakerModel" = some m.cls := findClass_of_methodNamed B.named
  have hlocks := B.notSynchronized
  subst hsz
  have hD := hD0.self (sz := s.heap.size)
  generalize hAe : va_A [(h0, .inr (11, MO ma sv_thrown sv_length sv_nodes sv_many sv_directories sv_runsFrom sv_runs sv_read sv_wrong sv_isNamed sv_goes sv_goesSize sv_goesAt sv_targetParts sv_isRoot)), ((ma 2), .inl (cI, 40, .inl fP)), ((ma 12), .inl (cB, 320, .inl fBa)), ((ma 13), .inl (cI, 40, .inl fBs)), ((ma 14), .inl (cB, 120, .inl fEx)), ((ma 15), .inl (cI, 40, .inl fEs))] s.heap.size = A at hD ⊢
  have hA : ∀ q : Nat, s.heap.size ≤ q → A q := fun q h => by rw [← hAe]; exact Or.inr h
  have hS : va_S A s.heap s.heap [] := va_S.rf
  have hP : va_P D CL [(h0, .inr (11, MO ma sv_thrown sv_length sv_nodes sv_many sv_directories sv_runsFrom sv_runs sv_read sv_wrong sv_isNamed sv_goes sv_goesSize sv_goesAt sv_targetParts sv_isRoot)), ((ma 2), .inl (cI, 40, .inl fP)), ((ma 12), .inl (cB, 320, .inl fBa)), ((ma 13), .inl (cI, 40, .inl fBs)), ((ma 14), .inl (cB, 120, .inl fEx)), ((ma 15), .inl (cI, 40, .inl fEs))] s.heap := hP
  have hl := lv_entry [.ref h0, .int x] (n := 4) (Nat.le_of_ble_eq_true rfl)
  rw [lg_entry_eq]
  generalize (lg_sl [.ref h0, .int x] ++ List.replicate (4 - (lg_sl [.ref h0, .int x]).length) Slot.unset).toArray = ls at hl ⊢
  have hl : lv_has ls 4 [(0, .ref h0), (1, .int x)] := hl
  have L_m1 : ((-1) : Int32).toInt = (-1) := by decide
  have L_0 : (0 : Int32).toInt = 0 := by decide
  have L_1 : (1 : Int32).toInt = 1 := by decide
  refine lv_iconst (v := 0) hx hb d_DiscMakerModel_isTaken_0 (by decide) ?_
  refine lv_istore_n hx hb d_DiscMakerModel_isTaken_1 rfl hl (by decide) rfl (fun ls hl => ?_)
  have hl : lv_has ls 4 [(2, .int 0), (0, .ref h0), (1, .int x)] := hl
  refine lv_iconst (v := 1) hx hb d_DiscMakerModel_isTaken_2 (by decide) ?_
  refine lv_istore_n hx hb d_DiscMakerModel_isTaken_3 rfl hl (by decide) rfl (fun ls hl => ?_)
  have hl : lv_has ls 4 [(3, .int 1), (2, .int 0), (0, .ref h0), (1, .int x)] := hl
  refine zz_labM (B := fun (lk : Nat) (K : Heap → List Loc → Array Slot → List Value → Prop) => ∀ (is : Int32) (lq : Int32) (H : Heap) (locs : List Loc) (ls : Array Slot), lk = (40 - lq.toInt).toNat → (0 ≤ is.toInt ∧ is.toInt ≤ 1) → (1 ≤ lq.toInt ∧ lq.toInt ≤ 40) → (is.toInt ≠ 0 → ∃ q : Nat, 1 ≤ q ∧ (q : Int) < x.toInt ∧ ∀ j, j < 11 → kyF fBa fBs fEx fEs q j = kyF fBa fBs fEx fEs x.toNatClampNeg j) → (is.toInt = 0 → ∀ q : Nat, 1 ≤ q → (q : Int) < lq.toInt → fP q = fP x.toNatClampNeg → ¬ ∀ j, j < 11 → kyF fBa fBs fEx fEs q j = kyF fBa fBs fEx fEs x.toNatClampNeg j) → (lq.toInt ≤ x.toInt) → va_P D CL [(h0, .inr (11, MO ma sv_thrown sv_length sv_nodes sv_many sv_directories sv_runsFrom sv_runs sv_read sv_wrong sv_isNamed sv_goes sv_goesSize sv_goesAt sv_targetParts sv_isRoot)), ((ma 2), .inl (cI, 40, .inl fP)), ((ma 12), .inl (cB, 320, .inl fBa)), ((ma 13), .inl (cI, 40, .inl fBs)), ((ma 14), .inl (cB, 120, .inl fEx)), ((ma 15), .inl (cI, 40, .inl fEs))] H → va_D A [(h0, .inr (11, MO ma sv_thrown sv_length sv_nodes sv_many sv_directories sv_runsFrom sv_runs sv_read sv_wrong sv_isNamed sv_goes sv_goesSize sv_goesAt sv_targetParts sv_isRoot)), ((ma 2), .inl (cI, 40, .inl fP)), ((ma 12), .inl (cB, 320, .inl fBa)), ((ma 13), .inl (cI, 40, .inl fBs)), ((ma 14), .inl (cB, 120, .inl fEx)), ((ma 15), .inl (cI, 40, .inl fEs))] → va_S A s.heap H locs → lv_has ls 4 [(0, .ref h0), (1, .int x), (2, .int is), (3, .int lq)] → K H locs ls []) 4 ?_ ?_
  · skip
    intro lk ih4 is lq H locs ls hm4 f1 f2 f3 f4 f5 hP hD hS hl
    refine lv_iload_n hx hb d_DiscMakerModel_isTaken_4 rfl (lv_at hl 3 rfl) ?_
    refine lv_iload_n hx hb d_DiscMakerModel_isTaken_5 rfl (lv_at hl 1 rfl) ?_
    refine lv_icmp_ge (tgt := 49) hx hb d_DiscMakerModel_isTaken_6 (by decide) (fun h_9 => ?_) (fun h_9 => ?_)
    · skip
      have g6_7 : x.toInt ≤ lq.toInt := (i_le rfl rfl).mp h_9
      refine lv_iload_n hx hb d_DiscMakerModel_isTaken_49 rfl (lv_at hl 2 rfl) ?_
      have hP9 := hP.sub (ws' := [(h0, .inr (11, MO ma sv_thrown sv_length sv_nodes sv_many sv_directories sv_runsFrom sv_runs sv_read sv_wrong sv_isNamed sv_goes sv_goesSize sv_goesAt sv_targetParts sv_isRoot)), ((ma 2), .inl (cI, 40, .inl fP)), ((ma 12), .inl (cB, 320, .inl fBa)), ((ma 13), .inl (cI, 40, .inl fBs)), ((ma 14), .inl (cB, 120, .inl fEx)), ((ma 15), .inl (cI, 40, .inl fEs))]) [0, 1, 2, 3, 4, 5] rfl
      have hD9 := hD.sub (ws' := [(h0, .inr (11, MO ma sv_thrown sv_length sv_nodes sv_many sv_directories sv_runsFrom sv_runs sv_read sv_wrong sv_isNamed sv_goes sv_goesSize sv_goesAt sv_targetParts sv_isRoot)), ((ma 2), .inl (cI, 40, .inl fP)), ((ma 12), .inl (cB, 320, .inl fBa)), ((ma 13), .inl (cI, 40, .inl fBs)), ((ma 14), .inl (cB, 120, .inl fEx)), ((ma 15), .inl (cI, 40, .inl fEs))]) [0, 1, 2, 3, 4, 5] (by decide +kernel) rfl
      exact W.zret (v := is) hx hb hr (by first | rfl | decide | exact i_narZ (by omega)) (fun t ht hW => ⟨⟨is, (), rfl, ⟨(by (try dsimp only); first | assumption | omega | trivial), f3, (by (try dsimp only); intro h7 q h8 h9; exact f4 h7 q h8 (by omega))⟩, by rw [ht]; exact hP9, hD9⟩, hS.F ht⟩) hS.2.2 d_DiscMakerModel_isTaken_50
    · skip
      have g6_7 : ¬ x.toInt ≤ lq.toInt := fun h8 => h_9 ((i_le rfl rfl).mpr h8)
      refine lv_iload_n hx hb d_DiscMakerModel_isTaken_9 rfl (lv_at hl 2 rfl) ?_
      refine lv_if_ne (tgt := 37) hx hb d_DiscMakerModel_isTaken_10 (by decide) (fun h_9 => ?_) (fun h_9 => ?_)
      · skip
        have g10_11 : ¬ is.toInt = 0 := fun h8 => h_9 ((i_eq rfl (by decide)).mpr h8)
        refine lv_iconst (v := 1) hx hb d_DiscMakerModel_isTaken_37 (by decide) ?_
        refine lv_goto (tgt := 42) hx hb d_DiscMakerModel_isTaken_38 (by decide) ?_
        refine lv_istore_n hx hb d_DiscMakerModel_isTaken_42 rfl hl (by decide) rfl (fun ls hl => ?_)
        have hl : lv_has ls 4 [(2, .int 1), (0, .ref h0), (1, .int x), (3, .int lq)] := hl
        obtain ⟨v1, e_v1⟩ : ∃ z : Int32, z = lq + 1 := ⟨_, rfl⟩
        refine lv_iinc (v := v1) hx hb d_DiscMakerModel_isTaken_43 hl (k := 3) rfl e_v1.symm (by decide +kernel) rfl (fun ls hl => ?_)
        have t_v1 : v1.toInt = lq.toInt + 1 := by rw [e_v1]; exact i_add rfl (by decide) (by omega) (by omega)
        have hl : lv_has ls 4 [(3, .int v1), (2, .int 1), (0, .ref h0), (1, .int x)] := hl
        refine lv_goto (tgt := 4) hx hb d_DiscMakerModel_isTaken_46 (by decide) ?_
        have hP := hP.sub (ws' := [(h0, .inr (11, MO ma sv_thrown sv_length sv_nodes sv_many sv_directories sv_runsFrom sv_runs sv_read sv_wrong sv_isNamed sv_goes sv_goesSize sv_goesAt sv_targetParts sv_isRoot)), ((ma 2), .inl (cI, 40, .inl fP)), ((ma 12), .inl (cB, 320, .inl fBa)), ((ma 13), .inl (cI, 40, .inl fBs)), ((ma 14), .inl (cB, 120, .inl fEx)), ((ma 15), .inl (cI, 40, .inl fEs))]) [0, 1, 2, 3, 4, 5] rfl
        have hD := hD.sub (ws' := [(h0, .inr (11, MO ma sv_thrown sv_length sv_nodes sv_many sv_directories sv_runsFrom sv_runs sv_read sv_wrong sv_isNamed sv_goes sv_goesSize sv_goesAt sv_targetParts sv_isRoot)), ((ma 2), .inl (cI, 40, .inl fP)), ((ma 12), .inl (cB, 320, .inl fBa)), ((ma 13), .inl (cI, 40, .inl fBs)), ((ma 14), .inl (cB, 120, .inl fEx)), ((ma 15), .inl (cI, 40, .inl fEs))]) [0, 1, 2, 3, 4, 5] (by decide +kernel) rfl
        have hl := lv_sub hl [2, 3, 1, 0] rfl
        exact ih4 _ (by clear f3 f4; omega) 1 v1 _ _ _ rfl ((by (try dsimp only); first | assumption | omega | trivial)) ((by (try dsimp only); first | assumption | omega | trivial)) ((by intro h7; first | (exfalso; omega) | exact f3 (by omega) | exact ⟨_, by have := i_cl (a := lq) (by omega); omega, by have := i_cl (a := lq) (by omega); omega, rfl.mp (by omega)⟩)) ((by intro h7; exfalso; omega)) ((by (try dsimp only); first | assumption | omega | trivial)) hP hD hS hl
      · skip
        have g10_11 : is.toInt = 0 := (i_eq rfl (by decide)).mp h_9
        refine lv_aload_n hx hb d_DiscMakerModel_isTaken_13 rfl (lv_at hl 0 rfl) ?_
        refine va_get (D := D) (ci := 11) (v := .ref (ma 2)) (C := "DiscMakerModel") (T := F_DiscMakerModel) (N := 48) hx hb ht9 in_DiscMakerModel hown hK hP 0 rfl rfl 5 (by decide) (ht9 _ k1436) (fun _ h9 => h9) rfl d_DiscMakerModel_isTaken_14 ?_
        refine lv_iload_n hx hb d_DiscMakerModel_isTaken_17 rfl (lv_at hl 3 rfl) ?_
        refine va_iald hx hb hK hP 1 1 rfl rfl (vp_in_iff.mpr ⟨by omega, by omega⟩) d_DiscMakerModel_isTaken_18 ?_
        refine lv_topi (fun v2 e_v2 => ?_)
        refine lv_aload_n hx hb d_DiscMakerModel_isTaken_19 rfl (lv_at hl 0 rfl) ?_
        refine va_get (D := D) (ci := 11) (v := .ref (ma 2)) (C := "DiscMakerModel") (T := F_DiscMakerModel) (N := 48) hx hb ht9 in_DiscMakerModel hown hK hP 0 rfl rfl 5 (by decide) (ht9 _ k1436) (fun _ h9 => h9) rfl d_DiscMakerModel_isTaken_20 ?_
        refine lv_iload_n hx hb d_DiscMakerModel_isTaken_23 rfl (lv_at hl 1 rfl) ?_
        refine va_iald hx hb hK hP 1 1 rfl rfl (vp_in_iff.mpr ⟨by omega, by omega⟩) d_DiscMakerModel_isTaken_24 ?_
        refine lv_topi (fun v3 e_v3 => ?_)
        refine lv_icmp_ne (tgt := 41) hx hb d_DiscMakerModel_isTaken_25 (by decide) (fun h_9 => ?_) (fun h_9 => ?_)
        · skip
          have g25_26 : ¬ v2.toInt = v3.toInt := fun h8 => h_9 ((i_eq rfl rfl).mpr h8)
          refine lv_iconst (v := 0) hx hb d_DiscMakerModel_isTaken_41 (by decide) ?_
          refine lv_istore_n hx hb d_DiscMakerModel_isTaken_42 rfl hl (by decide) rfl (fun ls hl => ?_)
          have hl : lv_has ls 4 [(2, .int 0), (0, .ref h0), (1, .int x), (3, .int lq)] := hl
          obtain ⟨v4, e_v4⟩ : ∃ z : Int32, z = lq + 1 := ⟨_, rfl⟩
          refine lv_iinc (v := v4) hx hb d_DiscMakerModel_isTaken_43 hl (k := 3) rfl e_v4.symm (by decide +kernel) rfl (fun ls hl => ?_)
          have t_v4 : v4.toInt = lq.toInt + 1 := by rw [e_v4]; exact i_add rfl (by decide) (by omega) (by omega)
          have hl : lv_has ls 4 [(3, .int v4), (2, .int 0), (0, .ref h0), (1, .int x)] := hl
          refine lv_goto (tgt := 4) hx hb d_DiscMakerModel_isTaken_46 (by decide) ?_
          have hP := hP.sub (ws' := [(h0, .inr (11, MO ma sv_thrown sv_length sv_nodes sv_many sv_directories sv_runsFrom sv_runs sv_read sv_wrong sv_isNamed sv_goes sv_goesSize sv_goesAt sv_targetParts sv_isRoot)), ((ma 2), .inl (cI, 40, .inl fP)), ((ma 12), .inl (cB, 320, .inl fBa)), ((ma 13), .inl (cI, 40, .inl fBs)), ((ma 14), .inl (cB, 120, .inl fEx)), ((ma 15), .inl (cI, 40, .inl fEs))]) [0, 1, 2, 3, 4, 5] rfl
          have hD := hD.sub (ws' := [(h0, .inr (11, MO ma sv_thrown sv_length sv_nodes sv_many sv_directories sv_runsFrom sv_runs sv_read sv_wrong sv_isNamed sv_goes sv_goesSize sv_goesAt sv_targetParts sv_isRoot)), ((ma 2), .inl (cI, 40, .inl fP)), ((ma 12), .inl (cB, 320, .inl fBa)), ((ma 13), .inl (cI, 40, .inl fBs)), ((ma 14), .inl (cB, 120, .inl fEx)), ((ma 15), .inl (cI, 40, .inl fEs))]) [0, 1, 2, 3, 4, 5] (by decide +kernel) rfl
          have hl := lv_sub hl [2, 3, 1, 0] rfl
          exact ih4 _ (by clear f3 f4; omega) 0 v4 _ _ _ rfl ((by (try dsimp only); first | assumption | omega | trivial)) ((by (try dsimp only); first | assumption | omega | trivial)) ((by intro h7; first | (exfalso; omega) | exact f3 (by omega) | exact ⟨_, by have := i_cl (a := lq) (by omega); omega, by have := i_cl (a := lq) (by omega); omega, rfl.mp (by omega)⟩)) ((fun h7 q h8 h9 h10 h11 => (Decidable.em (q = lq.toNatClampNeg)).elim (fun hq => by have hc := i_cl (a := lq) (by omega); subst hq; first | (exfalso; have h12 : v2.toInt = v3.toInt := (by rw [e_v2, e_v3, h10]); omega) | (have := rfl.mpr h11; omega)) (fun hq => f4 (by omega) q h8 (by have hc := i_cl (a := lq) (by omega); omega) h10 h11))) ((by (try dsimp only); first | assumption | omega | trivial)) hP hD hS hl
        · skip
          have g25_26 : v2.toInt = v3.toInt := (i_eq rfl rfl).mp h_9
          refine lv_aload_n hx hb d_DiscMakerModel_isTaken_28 rfl (lv_at hl 0 rfl) ?_
          refine lv_iload_n hx hb d_DiscMakerModel_isTaken_29 rfl (lv_at hl 3 rfl) ?_
          refine lv_iload_n hx hb d_DiscMakerModel_isTaken_30 rfl (lv_at hl 1 rfl) ?_
          have hPc := hP.sub (ws' := [(h0, .inr (11, MO ma sv_thrown sv_length sv_nodes sv_many sv_directories sv_runsFrom sv_runs sv_read sv_wrong sv_isNamed sv_goes sv_goesSize sv_goesAt sv_targetParts sv_isRoot)), ((ma 12), .inl (cB, 320, .inl fBa)), ((ma 13), .inl (cI, 40, .inl fBs)), ((ma 14), .inl (cB, 120, .inl fEx)), ((ma 15), .inl (cI, 40, .inl fEs))]) [0, 2, 3, 4, 5] rfl
          have hDc := hD.sub (ws' := [(h0, .inr (11, MO ma sv_thrown sv_length sv_nodes sv_many sv_directories sv_runsFrom sv_runs sv_read sv_wrong sv_isNamed sv_goes sv_goesSize sv_goesAt sv_targetParts sv_isRoot)), ((ma 12), .inl (cB, 320, .inl fBa)), ((ma 13), .inl (cI, 40, .inl fBs)), ((ma 14), .inl (cB, 120, .inl fEx)), ((ma 15), .inl (cI, 40, .inl fEs))]) [0, 2, 3, 4, 5] (by decide +kernel) rfl
          have hFc := va_free (wc := [(h0, .inr (11, MO ma sv_thrown sv_length sv_nodes sv_many sv_directories sv_runsFrom sv_runs sv_read sv_wrong sv_isNamed sv_goes sv_goesSize sv_goesAt sv_targetParts sv_isRoot)), ((ma 12), .inl (cB, 320, .inl fBa)), ((ma 13), .inl (cI, 40, .inl fBs)), ((ma 14), .inl (cB, 120, .inl fEx)), ((ma 15), .inl (cI, 40, .inl fEs))]) hD hS hA [0, 2, 3, 4, 5] rfl
          have hkc : 0 ≤ 0 := by decide
          have hks : 0 ≤ 0 := by decide
          refine va_calli (va_runV (C := "DiscMakerModel") (As := [.int lq, .int x]) (rest := []) ⟨hx, hb, hml, hown, hts⟩ (m_identifiers l D cB cI cJ cZ cN cF H.size h0 ma sv_thrown sv_length sv_nodes sv_many sv_directories sv_runsFrom sv_runs sv_read sv_wrong sv_isNamed sv_goes sv_goesSize sv_goesAt sv_targetParts sv_isRoot fBa fBs fEx fEs lq x (by (try dsimp only); first | assumption | omega | trivial) (by (try dsimp only); first | assumption | omega | trivial) (by (try dsimp only); first | assumption | omega | trivial) (by (try dsimp only); first | assumption | omega | trivial) (by (try dsimp only); first | assumption | omega | trivial) (by (try dsimp only); first | assumption | omega | trivial)) (cwV 2 hts (lg_goodV k1659 k1661 k62 k125 kc_DiscMakerModel_identifiers) rfl rfl rfl (by decide +kernel) ⟨Nat.le_of_ble_eq_true rfl, Nat.le_of_ble_eq_true rfl⟩) ⟨fun a U g mk q => by obtain ⟨q0, q1, qP, qK, qN, qD⟩ := q; exact ⟨q0, q1, qP, va_K.moved (u := U) (U := U.calling g mk a) (Vm.Alike.refl U.vm) qK, qN.calling, qD⟩, va_recv hK hP (ci := 11) (q0 := 0) rfl rfl, fun U hU hW => ⟨rfl, by rw [hU], by rw [hU]; exact hPc, va_K.moved hW.alike hK, NN.warm hW hN, hDc.weaken (fun _ _ _ _ => trivial)⟩⟩ rfl rfl hl.1 rfl (lv_room (Nat.le_of_ble_eq_true rfl)) d_DiscMakerModel_isTaken_31 ⟨hkc, hks⟩) hS (fun q _ h => hFc q h) hFc (fun r5 u t H1 locs ht hvm hp_r5 hB hz1 hk1 hS => ?_)
          obtain ⟨hP1, hD1⟩ := hB
          rw [ht] at hP1
          obtain ⟨hP, hD⟩ := va_join (wr := [((ma 2), .inl (cI, 40, .inl fP))]) (w1 := [(h0, .inr (11, MO ma sv_thrown sv_length sv_nodes sv_many sv_directories sv_runsFrom sv_runs sv_read sv_wrong sv_isNamed sv_goes sv_goesSize sv_goesAt sv_targetParts sv_isRoot)), ((ma 12), .inl (cB, 320, .inl fBa)), ((ma 13), .inl (cI, 40, .inl fBs)), ((ma 14), .inl (cB, 120, .inl fEx)), ((ma 15), .inl (cI, 40, .inl fEs))]) hP hD [0, 2, 3, 4, 5] [1] rfl rfl (by decide +kernel) (by decide +kernel) hk1 hFc hP1 hD1
          clear hPc hDc hFc hP1 hD1 hk1 hz1 hkc hks
          generalize H1 = H at hP hS ⊢
          have hP : va_P D CL [((ma 2), .inl (cI, 40, .inl fP)), (h0, .inr (11, MO ma sv_thrown sv_length sv_nodes sv_many sv_directories sv_runsFrom sv_runs sv_read sv_wrong sv_isNamed sv_goes sv_goesSize sv_goesAt sv_targetParts sv_isRoot)), ((ma 12), .inl (cB, 320, .inl fBa)), ((ma 13), .inl (cI, 40, .inl fBs)), ((ma 14), .inl (cB, 120, .inl fEx)), ((ma 15), .inl (cI, 40, .inl fEs))] H := hP
          have hD : va_D A [((ma 2), .inl (cI, 40, .inl fP)), (h0, .inr (11, MO ma sv_thrown sv_length sv_nodes sv_many sv_directories sv_runsFrom sv_runs sv_read sv_wrong sv_isNamed sv_goes sv_goesSize sv_goesAt sv_targetParts sv_isRoot)), ((ma 12), .inl (cB, 320, .inl fBa)), ((ma 13), .inl (cI, 40, .inl fBs)), ((ma 14), .inl (cB, 120, .inl fEx)), ((ma 15), .inl (cI, 40, .inl fEs))] := hD
          try dsimp only at hp_r5
          obtain ⟨hlt_6, heq_7⟩ := hp_r5
          refine lv_if_ne (tgt := 41) hx hb d_DiscMakerModel_isTaken_34 (by decide) (fun h_9 => ?_) (fun h_9 => ?_)
          · skip
            have g34_36 : ¬ r5.toInt = 0 := fun h8 => h_9 ((i_eq rfl (by decide)).mpr h8)
            refine lv_iconst (v := 0) hx hb d_DiscMakerModel_isTaken_41 (by decide) ?_
            refine lv_istore_n hx hb d_DiscMakerModel_isTaken_42 rfl hl (by decide) rfl (fun ls hl => ?_)
            have hl : lv_has ls 4 [(2, .int 0), (0, .ref h0), (1, .int x), (3, .int lq)] := hl
            obtain ⟨v8, e_v8⟩ : ∃ z : Int32, z = lq + 1 := ⟨_, rfl⟩
            refine lv_iinc (v := v8) hx hb d_DiscMakerModel_isTaken_43 hl (k := 3) rfl e_v8.symm (by decide +kernel) rfl (fun ls hl => ?_)
            have t_v8 : v8.toInt = lq.toInt + 1 := by rw [e_v8]; exact i_add rfl (by decide) (by omega) (by omega)
            have hl : lv_has ls 4 [(3, .int v8), (2, .int 0), (0, .ref h0), (1, .int x)] := hl
            refine lv_goto (tgt := 4) hx hb d_DiscMakerModel_isTaken_46 (by decide) ?_
            have hP := hP.sub (ws' := [(h0, .inr (11, MO ma sv_thrown sv_length sv_nodes sv_many sv_directories sv_runsFrom sv_runs sv_read sv_wrong sv_isNamed sv_goes sv_goesSize sv_goesAt sv_targetParts sv_isRoot)), ((ma 2), .inl (cI, 40, .inl fP)), ((ma 12), .inl (cB, 320, .inl fBa)), ((ma 13), .inl (cI, 40, .inl fBs)), ((ma 14), .inl (cB, 120, .inl fEx)), ((ma 15), .inl (cI, 40, .inl fEs))]) [1, 0, 2, 3, 4, 5] rfl
            have hD := hD.sub (ws' := [(h0, .inr (11, MO ma sv_thrown sv_length sv_nodes sv_many sv_directories sv_runsFrom sv_runs sv_read sv_wrong sv_isNamed sv_goes sv_goesSize sv_goesAt sv_targetParts sv_isRoot)), ((ma 2), .inl (cI, 40, .inl fP)), ((ma 12), .inl (cB, 320, .inl fBa)), ((ma 13), .inl (cI, 40, .inl fBs)), ((ma 14), .inl (cB, 120, .inl fEx)), ((ma 15), .inl (cI, 40, .inl fEs))]) [1, 0, 2, 3, 4, 5] (by decide +kernel) rfl
            have hl := lv_sub hl [2, 3, 1, 0] rfl
            exact ih4 _ (by clear f3 f4; omega) 0 v8 _ _ _ rfl ((by (try dsimp only); first | assumption | omega | trivial)) ((by (try dsimp only); first | assumption | omega | trivial)) ((by intro h7; first | (exfalso; omega) | exact f3 (by omega) | exact ⟨_, by have := i_cl (a := lq) (by omega); omega, by have := i_cl (a := lq) (by omega); omega, heq_7.mp (by omega)⟩)) ((fun h7 q h8 h9 h10 h11 => (Decidable.em (q = lq.toNatClampNeg)).elim (fun hq => by have hc := i_cl (a := lq) (by omega); subst hq; first | (exfalso; have h12 : v2.toInt = v3.toInt := (by rw [e_v2, e_v3, h10]); omega) | (have := heq_7.mpr h11; omega)) (fun hq => f4 (by omega) q h8 (by have hc := i_cl (a := lq) (by omega); omega) h10 h11))) ((by (try dsimp only); first | assumption | omega | trivial)) hP hD hS hl
          · skip
            have g34_36 : r5.toInt = 0 := (i_eq rfl (by decide)).mp h_9
            refine lv_iconst (v := 1) hx hb d_DiscMakerModel_isTaken_37 (by decide) ?_
            refine lv_goto (tgt := 42) hx hb d_DiscMakerModel_isTaken_38 (by decide) ?_
            refine lv_istore_n hx hb d_DiscMakerModel_isTaken_42 rfl hl (by decide) rfl (fun ls hl => ?_)
            have hl : lv_has ls 4 [(2, .int 1), (0, .ref h0), (1, .int x), (3, .int lq)] := hl
            obtain ⟨v9, e_v9⟩ : ∃ z : Int32, z = lq + 1 := ⟨_, rfl⟩
            refine lv_iinc (v := v9) hx hb d_DiscMakerModel_isTaken_43 hl (k := 3) rfl e_v9.symm (by decide +kernel) rfl (fun ls hl => ?_)
            have t_v9 : v9.toInt = lq.toInt + 1 := by rw [e_v9]; exact i_add rfl (by decide) (by omega) (by omega)
            have hl : lv_has ls 4 [(3, .int v9), (2, .int 1), (0, .ref h0), (1, .int x)] := hl
            refine lv_goto (tgt := 4) hx hb d_DiscMakerModel_isTaken_46 (by decide) ?_
            have hP := hP.sub (ws' := [(h0, .inr (11, MO ma sv_thrown sv_length sv_nodes sv_many sv_directories sv_runsFrom sv_runs sv_read sv_wrong sv_isNamed sv_goes sv_goesSize sv_goesAt sv_targetParts sv_isRoot)), ((ma 2), .inl (cI, 40, .inl fP)), ((ma 12), .inl (cB, 320, .inl fBa)), ((ma 13), .inl (cI, 40, .inl fBs)), ((ma 14), .inl (cB, 120, .inl fEx)), ((ma 15), .inl (cI, 40, .inl fEs))]) [1, 0, 2, 3, 4, 5] rfl
            have hD := hD.sub (ws' := [(h0, .inr (11, MO ma sv_thrown sv_length sv_nodes sv_many sv_directories sv_runsFrom sv_runs sv_read sv_wrong sv_isNamed sv_goes sv_goesSize sv_goesAt sv_targetParts sv_isRoot)), ((ma 2), .inl (cI, 40, .inl fP)), ((ma 12), .inl (cB, 320, .inl fBa)), ((ma 13), .inl (cI, 40, .inl fBs)), ((ma 14), .inl (cB, 120, .inl fEx)), ((ma 15), .inl (cI, 40, .inl fEs))]) [1, 0, 2, 3, 4, 5] (by decide +kernel) rfl
            have hl := lv_sub hl [2, 3, 1, 0] rfl
            exact ih4 _ (by clear f3 f4; omega) 1 v9 _ _ _ rfl ((by (try dsimp only); first | assumption | omega | trivial)) ((by (try dsimp only); first | assumption | omega | trivial)) ((by intro h7; first | (exfalso; omega) | exact f3 (by omega) | exact ⟨_, by have := i_cl (a := lq) (by omega); omega, by have := i_cl (a := lq) (by omega); omega, heq_7.mp (by omega)⟩)) ((by intro h7; exfalso; omega)) ((by (try dsimp only); first | assumption | omega | trivial)) hP hD hS hl
  · skip
    intro kk4
    have hP := hP.sub (ws' := [(h0, .inr (11, MO ma sv_thrown sv_length sv_nodes sv_many sv_directories sv_runsFrom sv_runs sv_read sv_wrong sv_isNamed sv_goes sv_goesSize sv_goesAt sv_targetParts sv_isRoot)), ((ma 2), .inl (cI, 40, .inl fP)), ((ma 12), .inl (cB, 320, .inl fBa)), ((ma 13), .inl (cI, 40, .inl fBs)), ((ma 14), .inl (cB, 120, .inl fEx)), ((ma 15), .inl (cI, 40, .inl fEs))]) [0, 1, 2, 3, 4, 5] rfl
    have hD := hD.sub (ws' := [(h0, .inr (11, MO ma sv_thrown sv_length sv_nodes sv_many sv_directories sv_runsFrom sv_runs sv_read sv_wrong sv_isNamed sv_goes sv_goesSize sv_goesAt sv_targetParts sv_isRoot)), ((ma 2), .inl (cI, 40, .inl fP)), ((ma 12), .inl (cB, 320, .inl fBa)), ((ma 13), .inl (cI, 40, .inl fBs)), ((ma 14), .inl (cB, 120, .inl fEx)), ((ma 15), .inl (cI, 40, .inl fEs))]) [0, 1, 2, 3, 4, 5] (by decide +kernel) rfl
    have hl := lv_sub hl [2, 3, 1, 0] rfl
    exact kk4 _ 0 1 _ _ _ rfl ((by (try dsimp only); first | assumption | omega | trivial)) ((by (try dsimp only); first | assumption | omega | trivial)) ((by intro h7; exfalso; omega)) ((by intro h7 q h8 h9; exfalso; omega)) ((by (try dsimp only); first | assumption | omega | trivial)) hP hD hS hl

theorem d_DiscMakerModel_order_0 : decode b_DiscMakerModel_order 0 = .ok (.iload_n 1, 1) := by decide +kernel
theorem d_DiscMakerModel_order_1 : decode b_DiscMakerModel_order 1 = .ok (.ifCond .ne 10, 3) := by decide +kernel
theorem d_DiscMakerModel_order_4 : decode b_DiscMakerModel_order 4 = .ok (.aload_n 0, 1) := by decide +kernel
theorem d_DiscMakerModel_order_5 : decode b_DiscMakerModel_order 5 = .ok (.iload_n 2, 1) := by decide +kernel
theorem d_DiscMakerModel_order_6 : decode b_DiscMakerModel_order 6 = .ok (.iload_n 3, 1) := by decide +kernel
theorem d_DiscMakerModel_order_7 : decode b_DiscMakerModel_order 7 = .ok (.invokevirtual 169, 3) := by decide +kernel
theorem d_DiscMakerModel_order_10 : decode b_DiscMakerModel_order 10 = .ok (.ireturn, 1) := by decide +kernel
theorem d_DiscMakerModel_order_11 : decode b_DiscMakerModel_order 11 = .ok (.iconst 0, 1) := by decide +kernel
theorem d_DiscMakerModel_order_12 : decode b_DiscMakerModel_order 12 = .ok (.istore 4, 2) := by decide +kernel
theorem d_DiscMakerModel_order_14 : decode b_DiscMakerModel_order 14 = .ok (.iconst 0, 1) := by decide +kernel
theorem d_DiscMakerModel_order_15 : decode b_DiscMakerModel_order 15 = .ok (.istore 5, 2) := by decide +kernel
theorem d_DiscMakerModel_order_17 : decode b_DiscMakerModel_order 17 = .ok (.iload 5, 2) := by decide +kernel
theorem d_DiscMakerModel_order_19 : decode b_DiscMakerModel_order 19 = .ok (.bipush 30, 2) := by decide +kernel
theorem d_DiscMakerModel_order_21 : decode b_DiscMakerModel_order 21 = .ok (.if_icmp .ge 31, 3) := by decide +kernel
theorem d_DiscMakerModel_order_24 : decode b_DiscMakerModel_order 24 = .ok (.iload 4, 2) := by decide +kernel
theorem d_DiscMakerModel_order_26 : decode b_DiscMakerModel_order 26 = .ok (.ifCond .ne 26, 3) := by decide +kernel
theorem d_DiscMakerModel_order_29 : decode b_DiscMakerModel_order 29 = .ok (.aload_n 0, 1) := by decide +kernel
theorem d_DiscMakerModel_order_30 : decode b_DiscMakerModel_order 30 = .ok (.iload_n 2, 1) := by decide +kernel
theorem d_DiscMakerModel_order_31 : decode b_DiscMakerModel_order 31 = .ok (.iload 5, 2) := by decide +kernel
theorem d_DiscMakerModel_order_33 : decode b_DiscMakerModel_order 33 = .ok (.invokevirtual 131, 3) := by decide +kernel
theorem d_DiscMakerModel_order_36 : decode b_DiscMakerModel_order 36 = .ok (.aload_n 0, 1) := by decide +kernel
theorem d_DiscMakerModel_order_37 : decode b_DiscMakerModel_order 37 = .ok (.iload_n 3, 1) := by decide +kernel
theorem d_DiscMakerModel_order_38 : decode b_DiscMakerModel_order 38 = .ok (.iload 5, 2) := by decide +kernel
theorem d_DiscMakerModel_order_40 : decode b_DiscMakerModel_order 40 = .ok (.invokevirtual 131, 3) := by decide +kernel
theorem d_DiscMakerModel_order_43 : decode b_DiscMakerModel_order 43 = .ok (.isub, 1) := by decide +kernel
theorem d_DiscMakerModel_order_44 : decode b_DiscMakerModel_order 44 = .ok (.istore 4, 2) := by decide +kernel
theorem d_DiscMakerModel_order_46 : decode b_DiscMakerModel_order 46 = .ok (.iinc 5 1, 3) := by decide +kernel
theorem d_DiscMakerModel_order_49 : decode b_DiscMakerModel_order 49 = .ok (.goto (-32), 3) := by decide +kernel
theorem d_DiscMakerModel_order_52 : decode b_DiscMakerModel_order 52 = .ok (.iload 4, 2) := by decide +kernel
theorem d_DiscMakerModel_order_54 : decode b_DiscMakerModel_order 54 = .ok (.ireturn, 1) := by decide +kernel
set_option maxHeartbeats 4000000 in
set_option maxRecDepth 100000 in
theorem m_order (l : Launch) (D : va_G) (cB cI cJ cZ cN cF : ClassId) (sz : Nat) (h0 : Nat) (ma : Nat → Nat) (sv_thrown sv_length sv_nodes sv_many sv_directories sv_runsFrom sv_runs sv_read sv_wrong sv_isNamed sv_goes sv_goesSize sv_goesAt sv_targetParts sv_isRoot : Int32) (fN : Nat → Int32) (fNS : Nat → Int32) (fBa : Nat → Int32) (fBs : Nat → Int32) (fEx : Nat → Int32) (fEs : Nat → Int32) (x : Int32) (y : Int32) (z : Int32) (hx0 : 0 ≤ x.toInt ∧ x.toInt ≤ 1) (hy0 : 0 ≤ y.toInt ∧ y.toInt < 40) (hz0 : 0 ≤ z.toInt ∧ z.toInt < 40) (hNS : Rg 0 30 40 fNS) (hBa : Rg (-128) 127 320 fBa) (hBs : Rg 0 8 40 fBs) (hEx : Rg (-128) 127 120 fEx) (hEs : Rg 0 3 40 fEs) : Met l y_DiscMakerModel_order w_DiscMakerModel_order ({ frames := 2, cells := 0, slots := 0, locals := 46 }) (va_Pc [.ref h0, .int x, .int y, .int z] (fun U => U.heap.size = sz ∧ va_P D CL [(h0, .inr (11, MO ma sv_thrown sv_length sv_nodes sv_many sv_directories sv_runsFrom sv_runs sv_read sv_wrong sv_isNamed sv_goes sv_goesSize sv_goesAt sv_targetParts sv_isRoot)), ((ma 8), .inl (cB, 1200, .inl fN)), ((ma 9), .inl (cI, 40, .inl fNS)), ((ma 12), .inl (cB, 320, .inl fBa)), ((ma 13), .inl (cI, 40, .inl fBs)), ((ma 14), .inl (cB, 120, .inl fEx)), ((ma 15), .inl (cI, 40, .inl fEs))] U.heap ∧ va_K D CL (TY cB cI cJ cZ cN cF) U ∧ NN U ∧ va_D (fun _ => True) [(h0, .inr (11, MO ma sv_thrown sv_length sv_nodes sv_many sv_directories sv_runsFrom sv_runs sv_read sv_wrong sv_isNamed sv_goes sv_goesSize sv_goesAt sv_targetParts sv_isRoot)), ((ma 8), .inl (cB, 1200, .inl fN)), ((ma 9), .inl (cI, 40, .inl fNS)), ((ma 12), .inl (cB, 320, .inl fBa)), ((ma 13), .inl (cI, 40, .inl fBs)), ((ma 14), .inl (cB, 120, .inl fEx)), ((ma 15), .inl (cI, 40, .inl fEs))])) (va_Qi (fun (r : Int32) (u : Unit) => (r.toInt < 0 ↔ LX (KF x.toInt fN fNS fBa fBs fEx fEs) (NL x.toInt) y.toNatClampNeg z.toNatClampNeg)) (fun (u : Unit) (t : State) => match u with | () => va_P D CL [(h0, .inr (11, MO ma sv_thrown sv_length sv_nodes sv_many sv_directories sv_runsFrom sv_runs sv_read sv_wrong sv_isNamed sv_goes sv_goesSize sv_goesAt sv_targetParts sv_isRoot)), ((ma 8), .inl (cB, 1200, .inl fN)), ((ma 9), .inl (cI, 40, .inl fNS)), ((ma 12), .inl (cB, 320, .inl fBa)), ((ma 13), .inl (cI, 40, .inl fBs)), ((ma 14), .inl (cB, 120, .inl fEx)), ((ma 15), .inl (cI, 40, .inl fEs))] t.heap ∧ va_D (va_A [(h0, .inr (11, MO ma sv_thrown sv_length sv_nodes sv_many sv_directories sv_runsFrom sv_runs sv_read sv_wrong sv_isNamed sv_goes sv_goesSize sv_goesAt sv_targetParts sv_isRoot)), ((ma 8), .inl (cB, 1200, .inl fN)), ((ma 9), .inl (cI, 40, .inl fNS)), ((ma 12), .inl (cB, 320, .inl fBa)), ((ma 13), .inl (cI, 40, .inl fBs)), ((ma 14), .inl (cB, 120, .inl fEx)), ((ma 15), .inl (cI, 40, .inl fEs))] sz) [(h0, .inr (11, MO ma sv_thrown sv_length sv_nodes sv_many sv_directories sv_runsFrom sv_runs sv_read sv_wrong sv_isNamed sv_goes sv_goesSize sv_goesAt sv_targetParts sv_isRoot)), ((ma 8), .inl (cB, 1200, .inl fN)), ((ma 9), .inl (cI, 40, .inl fNS)), ((ma 12), .inl (cB, 320, .inl fBa)), ((ma 13), .inl (cI, 40, .inl fBs)), ((ma 14), .inl (cB, 120, .inl fEx)), ((ma 15), .inl (cI, 40, .inl fEs))]) (va_A [(h0, .inr (11, MO ma sv_thrown sv_length sv_nodes sv_many sv_directories sv_runsFrom sv_runs sv_read sv_wrong sv_isNamed sv_goes sv_goesSize sv_goesAt sv_targetParts sv_isRoot)), ((ma 8), .inl (cB, 1200, .inl fN)), ((ma 9), .inl (cI, 40, .inl fNS)), ((ma 12), .inl (cB, 320, .inl fBa)), ((ma 13), .inl (cI, 40, .inl fBs)), ((ma 14), .inl (cB, 120, .inl fEx)), ((ma 15), .inl (cI, 40, .inl fEs))] sz)) 0 0 (va_A [(h0, .inr (11, MO ma sv_thrown sv_length sv_nodes sv_many sv_directories sv_runsFrom sv_runs sv_read sv_wrong sv_isNamed sv_goes sv_goesSize sv_goesAt sv_targetParts sv_isRoot)), ((ma 8), .inl (cB, 1200, .inl fN)), ((ma 9), .inl (cI, 40, .inl fNS)), ((ma 12), .inl (cB, 320, .inl fBa)), ((ma 13), .inl (cI, 40, .inl fBs)), ((ma 14), .inl (cB, 120, .inl fEx)), ((ma 15), .inl (cI, 40, .inl fEs))] sz) := by
  refine Met.ofW (cc := b_DiscMakerModel_order) (maxL := 6) (ret := some .int) (by decide) rfl ?_
  intro p e s m args below meth c s₁ B hml hv
  obtain ⟨rfl, hsz, hP, hK, hN, hD0⟩ := hv
  have hx := B.exec
  have hb := B.bytes
  have hr := B.returns
  have hts := atoms_spec (ws := w_DiscMakerModel_order) B.pre
  have ht9 := fun (w : Cond) (h : w ∈ lw_g) => hts w (List.mem_cons_of_mem _ h)
  have hown : s.vm.findClass "DiscMakerModel" = some m.cls := findClass_of_methodNamed B.named
  have hlocks := B.notSynchronized
  subst hsz
  have hD := hD0.self (sz := s.heap.size)
  generalize hAe : va_A [(h0, .inr (11, MO ma sv_thrown sv_length sv_nodes sv_many sv_directories sv_runsFrom sv_runs sv_read sv_wrong sv_isNamed sv_goes sv_goesSize sv_goesAt sv_targetParts sv_isRoot)), ((ma 8), .inl (cB, 1200, .inl fN)), ((ma 9), .inl (cI, 40, .inl fNS)), ((ma 12), .inl (cB, 320, .inl fBa)), ((ma 13), .inl (cI, 40, .inl fBs)), ((ma 14), .inl (cB, 120, .inl fEx)), ((ma 15), .inl (cI, 40, .inl fEs))] s.heap.size = A at hD ⊢
  have hA : ∀ q : Nat, s.heap.size ≤ q → A q := fun q h => by rw [← hAe]; exact Or.inr h
  have hS : va_S A s.heap s.heap [] := va_S.rf
  have hP : va_P D CL [(h0, .inr (11, MO ma sv_thrown sv_length sv_nodes sv_many sv_directories sv_runsFrom sv_runs sv_read sv_wrong sv_isNamed sv_goes sv_goesSize sv_goesAt sv_targetParts sv_isRoot)), ((ma 8), .inl (cB, 1200, .inl fN)), ((ma 9), .inl (cI, 40, .inl fNS)), ((ma 12), .inl (cB, 320, .inl fBa)), ((ma 13), .inl (cI, 40, .inl fBs)), ((ma 14), .inl (cB, 120, .inl fEx)), ((ma 15), .inl (cI, 40, .inl fEs))] s.heap := hP
  have hl := lv_entry [.ref h0, .int x, .int y, .int z] (n := 6) (Nat.le_of_ble_eq_true rfl)
  rw [lg_entry_eq]
  generalize (lg_sl [.ref h0, .int x, .int y, .int z] ++ List.replicate (6 - (lg_sl [.ref h0, .int x, .int y, .int z]).length) Slot.unset).toArray = ls at hl ⊢
  have hl : lv_has ls 6 [(0, .ref h0), (1, .int x), (2, .int y), (3, .int z)] := hl
  have L_m1 : ((-1) : Int32).toInt = (-1) := by decide
  have L_0 : (0 : Int32).toInt = 0 := by decide
  have L_1 : (1 : Int32).toInt = 1 := by decide
  have L_30 : (30 : Int32).toInt = 30 := by decide
  refine lv_iload_n hx hb d_DiscMakerModel_order_0 rfl (lv_at hl 1 rfl) ?_
  refine lv_if_ne (tgt := 11) hx hb d_DiscMakerModel_order_1 (by decide) (fun h_9 => ?_) (fun h_9 => ?_)
  · skip
    have g1_2 : ¬ x.toInt = 0 := fun h8 => h_9 ((i_eq rfl (by decide)).mpr h8)
    refine lv_iconst (v := 0) hx hb d_DiscMakerModel_order_11 (by decide) ?_
    refine lv_istore hx hb d_DiscMakerModel_order_12 hl (by decide) rfl (fun ls hl => ?_)
    have hl : lv_has ls 6 [(4, .int 0), (0, .ref h0), (1, .int x), (2, .int y), (3, .int z)] := hl
    refine lv_iconst (v := 0) hx hb d_DiscMakerModel_order_14 (by decide) ?_
    refine lv_istore hx hb d_DiscMakerModel_order_15 hl (by decide) rfl (fun ls hl => ?_)
    have hl : lv_has ls 6 [(5, .int 0), (4, .int 0), (0, .ref h0), (1, .int x), (2, .int y), (3, .int z)] := hl
    refine zz_labM (B := fun (lk : Nat) (K : Heap → List Loc → Array Slot → List Value → Prop) => ∀ (dc : Int32) (kc : Int32) (H : Heap) (locs : List Loc) (ls : Array Slot), lk = (30 - kc.toInt).toNat → (0 ≤ kc.toInt ∧ kc.toInt ≤ 30) → (DX (nmF fN fNS) 30 y.toNatClampNeg z.toNatClampNeg kc.toNatClampNeg dc.toInt) → va_P D CL [(h0, .inr (11, MO ma sv_thrown sv_length sv_nodes sv_many sv_directories sv_runsFrom sv_runs sv_read sv_wrong sv_isNamed sv_goes sv_goesSize sv_goesAt sv_targetParts sv_isRoot)), ((ma 8), .inl (cB, 1200, .inl fN)), ((ma 9), .inl (cI, 40, .inl fNS)), ((ma 12), .inl (cB, 320, .inl fBa)), ((ma 13), .inl (cI, 40, .inl fBs)), ((ma 14), .inl (cB, 120, .inl fEx)), ((ma 15), .inl (cI, 40, .inl fEs))] H → va_D A [(h0, .inr (11, MO ma sv_thrown sv_length sv_nodes sv_many sv_directories sv_runsFrom sv_runs sv_read sv_wrong sv_isNamed sv_goes sv_goesSize sv_goesAt sv_targetParts sv_isRoot)), ((ma 8), .inl (cB, 1200, .inl fN)), ((ma 9), .inl (cI, 40, .inl fNS)), ((ma 12), .inl (cB, 320, .inl fBa)), ((ma 13), .inl (cI, 40, .inl fBs)), ((ma 14), .inl (cB, 120, .inl fEx)), ((ma 15), .inl (cI, 40, .inl fEs))] → va_S A s.heap H locs → lv_has ls 6 [(0, .ref h0), (1, .int x), (2, .int y), (3, .int z), (4, .int dc), (5, .int kc)] → K H locs ls []) 17 ?_ ?_
    · skip
      intro lk ih17 dc kc H locs ls hm17 f1 fc hP hD hS hl
      refine lv_iload hx hb d_DiscMakerModel_order_17 (lv_at hl 5 rfl) ?_
      refine lv_bipush (v := 30) hx hb d_DiscMakerModel_order_19 (by decide) ?_
      refine lv_icmp_ge (tgt := 52) hx hb d_DiscMakerModel_order_21 (by decide) (fun h_9 => ?_) (fun h_9 => ?_)
      · skip
        have g21_9 : 30 ≤ kc.toInt := (i_le (by decide) rfl).mp h_9
        refine lv_iload hx hb d_DiscMakerModel_order_52 (lv_at hl 4 rfl) ?_
        have hP9 := hP.sub (ws' := [(h0, .inr (11, MO ma sv_thrown sv_length sv_nodes sv_many sv_directories sv_runsFrom sv_runs sv_read sv_wrong sv_isNamed sv_goes sv_goesSize sv_goesAt sv_targetParts sv_isRoot)), ((ma 8), .inl (cB, 1200, .inl fN)), ((ma 9), .inl (cI, 40, .inl fNS)), ((ma 12), .inl (cB, 320, .inl fBa)), ((ma 13), .inl (cI, 40, .inl fBs)), ((ma 14), .inl (cB, 120, .inl fEx)), ((ma 15), .inl (cI, 40, .inl fEs))]) [0, 1, 2, 3, 4, 5, 6] rfl
        have hD9 := hD.sub (ws' := [(h0, .inr (11, MO ma sv_thrown sv_length sv_nodes sv_many sv_directories sv_runsFrom sv_runs sv_read sv_wrong sv_isNamed sv_goes sv_goesSize sv_goesAt sv_targetParts sv_isRoot)), ((ma 8), .inl (cB, 1200, .inl fN)), ((ma 9), .inl (cI, 40, .inl fNS)), ((ma 12), .inl (cB, 320, .inl fBa)), ((ma 13), .inl (cI, 40, .inl fBs)), ((ma 14), .inl (cB, 120, .inl fEx)), ((ma 15), .inl (cI, 40, .inl fEs))]) [0, 1, 2, 3, 4, 5, 6] (by decide +kernel) rfl
        exact W.iret (v := dc) hx hb hr (fun t ht hW => ⟨⟨dc, (), rfl, (by (try dsimp only); rw [KF_1 (by omega), NL_1 (by omega)]; exact DX_ltI fc (by have := i_cl (a := kc) (by omega); omega)), by rw [ht]; exact hP9, hD9⟩, hS.F ht⟩) hS.2.2 d_DiscMakerModel_order_54
      · skip
        have g21_9 : ¬ 30 ≤ kc.toInt := fun h8 => h_9 ((i_le (by decide) rfl).mpr h8)
        refine lv_iload hx hb d_DiscMakerModel_order_24 (lv_at hl 4 rfl) ?_
        refine lv_if_ne (tgt := 52) hx hb d_DiscMakerModel_order_26 (by decide) (fun h_9 => ?_) (fun h_9 => ?_)
        · skip
          have g26_13 : ¬ dc.toInt = 0 := fun h8 => h_9 ((i_eq rfl (by decide)).mpr h8)
          refine lv_iload hx hb d_DiscMakerModel_order_52 (lv_at hl 4 rfl) ?_
          have hP9 := hP.sub (ws' := [(h0, .inr (11, MO ma sv_thrown sv_length sv_nodes sv_many sv_directories sv_runsFrom sv_runs sv_read sv_wrong sv_isNamed sv_goes sv_goesSize sv_goesAt sv_targetParts sv_isRoot)), ((ma 8), .inl (cB, 1200, .inl fN)), ((ma 9), .inl (cI, 40, .inl fNS)), ((ma 12), .inl (cB, 320, .inl fBa)), ((ma 13), .inl (cI, 40, .inl fBs)), ((ma 14), .inl (cB, 120, .inl fEx)), ((ma 15), .inl (cI, 40, .inl fEs))]) [0, 1, 2, 3, 4, 5, 6] rfl
          have hD9 := hD.sub (ws' := [(h0, .inr (11, MO ma sv_thrown sv_length sv_nodes sv_many sv_directories sv_runsFrom sv_runs sv_read sv_wrong sv_isNamed sv_goes sv_goesSize sv_goesAt sv_targetParts sv_isRoot)), ((ma 8), .inl (cB, 1200, .inl fN)), ((ma 9), .inl (cI, 40, .inl fNS)), ((ma 12), .inl (cB, 320, .inl fBa)), ((ma 13), .inl (cI, 40, .inl fBs)), ((ma 14), .inl (cB, 120, .inl fEx)), ((ma 15), .inl (cI, 40, .inl fEs))]) [0, 1, 2, 3, 4, 5, 6] (by decide +kernel) rfl
          exact W.iret (v := dc) hx hb hr (fun t ht hW => ⟨⟨dc, (), rfl, (by (try dsimp only); rw [KF_1 (by omega), NL_1 (by omega)]; exact DX_ltI fc (by have := i_cl (a := kc) (by omega); omega)), by rw [ht]; exact hP9, hD9⟩, hS.F ht⟩) hS.2.2 d_DiscMakerModel_order_54
        · skip
          have g26_13 : dc.toInt = 0 := (i_eq rfl (by decide)).mp h_9
          refine lv_aload_n hx hb d_DiscMakerModel_order_29 rfl (lv_at hl 0 rfl) ?_
          refine lv_iload_n hx hb d_DiscMakerModel_order_30 rfl (lv_at hl 2 rfl) ?_
          refine lv_iload hx hb d_DiscMakerModel_order_31 (lv_at hl 5 rfl) ?_
          have hPc := hP.sub (ws' := [(h0, .inr (11, MO ma sv_thrown sv_length sv_nodes sv_many sv_directories sv_runsFrom sv_runs sv_read sv_wrong sv_isNamed sv_goes sv_goesSize sv_goesAt sv_targetParts sv_isRoot)), ((ma 8), .inl (cB, 1200, .inl fN)), ((ma 9), .inl (cI, 40, .inl fNS))]) [0, 1, 2] rfl
          have hDc := hD.sub (ws' := [(h0, .inr (11, MO ma sv_thrown sv_length sv_nodes sv_many sv_directories sv_runsFrom sv_runs sv_read sv_wrong sv_isNamed sv_goes sv_goesSize sv_goesAt sv_targetParts sv_isRoot)), ((ma 8), .inl (cB, 1200, .inl fN)), ((ma 9), .inl (cI, 40, .inl fNS))]) [0, 1, 2] (by decide +kernel) rfl
          have hFc := va_free (wc := [(h0, .inr (11, MO ma sv_thrown sv_length sv_nodes sv_many sv_directories sv_runsFrom sv_runs sv_read sv_wrong sv_isNamed sv_goes sv_goesSize sv_goesAt sv_targetParts sv_isRoot)), ((ma 8), .inl (cB, 1200, .inl fN)), ((ma 9), .inl (cI, 40, .inl fNS))]) hD hS hA [0, 1, 2] rfl
          have hkc : 0 ≤ 0 := by decide
          have hks : 0 ≤ 0 := by decide
          refine va_calli (va_runV (C := "DiscMakerModel") (As := [.int y, .int kc]) (rest := []) ⟨hx, hb, hml, hown, hts⟩ (m_nameOf l D cB cI cJ cZ cN cF H.size h0 ma sv_thrown sv_length sv_nodes sv_many sv_directories sv_runsFrom sv_runs sv_read sv_wrong sv_isNamed sv_goes sv_goesSize sv_goesAt sv_targetParts sv_isRoot fN fNS y kc (by (try dsimp only); first | assumption | omega | trivial) (by (try dsimp only); first | assumption | omega | trivial) (by (try dsimp only); first | assumption | omega | trivial)) (cwV 2 hts (lg_goodV k1616 k1618 k56 k125 kc_DiscMakerModel_nameOf) rfl rfl rfl (by decide +kernel) ⟨Nat.le_of_ble_eq_true rfl, Nat.le_of_ble_eq_true rfl⟩) ⟨fun a U g mk q => by obtain ⟨q0, q1, qP, qK, qN, qD⟩ := q; exact ⟨q0, q1, qP, va_K.moved (u := U) (U := U.calling g mk a) (Vm.Alike.refl U.vm) qK, qN.calling, qD⟩, va_recv hK hP (ci := 11) (q0 := 0) rfl rfl, fun U hU hW => ⟨rfl, by rw [hU], by rw [hU]; exact hPc, va_K.moved hW.alike hK, NN.warm hW hN, hDc.weaken (fun _ _ _ _ => trivial)⟩⟩ rfl rfl hl.1 rfl (lv_room (Nat.le_of_ble_eq_true rfl)) d_DiscMakerModel_order_33 ⟨hkc, hks⟩) hS (fun q _ h => hFc q h) hFc (fun r1 u t H1 locs ht hvm hp_r1 hB hz1 hk1 hS => ?_)
          obtain ⟨hP1, hD1⟩ := hB
          rw [ht] at hP1
          obtain ⟨hP, hD⟩ := va_join (wr := [((ma 12), .inl (cB, 320, .inl fBa)), ((ma 13), .inl (cI, 40, .inl fBs)), ((ma 14), .inl (cB, 120, .inl fEx)), ((ma 15), .inl (cI, 40, .inl fEs))]) (w1 := [(h0, .inr (11, MO ma sv_thrown sv_length sv_nodes sv_many sv_directories sv_runsFrom sv_runs sv_read sv_wrong sv_isNamed sv_goes sv_goesSize sv_goesAt sv_targetParts sv_isRoot)), ((ma 8), .inl (cB, 1200, .inl fN)), ((ma 9), .inl (cI, 40, .inl fNS))]) hP hD [0, 1, 2] [3, 4, 5, 6] rfl rfl (by decide +kernel) (by decide +kernel) hk1 hFc hP1 hD1
          clear hPc hDc hFc hP1 hD1 hk1 hz1 hkc hks
          generalize H1 = H at hP hS ⊢
          have hP : va_P D CL [((ma 12), .inl (cB, 320, .inl fBa)), ((ma 13), .inl (cI, 40, .inl fBs)), ((ma 14), .inl (cB, 120, .inl fEx)), ((ma 15), .inl (cI, 40, .inl fEs)), (h0, .inr (11, MO ma sv_thrown sv_length sv_nodes sv_many sv_directories sv_runsFrom sv_runs sv_read sv_wrong sv_isNamed sv_goes sv_goesSize sv_goesAt sv_targetParts sv_isRoot)), ((ma 8), .inl (cB, 1200, .inl fN)), ((ma 9), .inl (cI, 40, .inl fNS))] H := hP
          have hD : va_D A [((ma 12), .inl (cB, 320, .inl fBa)), ((ma 13), .inl (cI, 40, .inl fBs)), ((ma 14), .inl (cB, 120, .inl fEx)), ((ma 15), .inl (cI, 40, .inl fEs)), (h0, .inr (11, MO ma sv_thrown sv_length sv_nodes sv_many sv_directories sv_runsFrom sv_runs sv_read sv_wrong sv_isNamed sv_goes sv_goesSize sv_goesAt sv_targetParts sv_isRoot)), ((ma 8), .inl (cB, 1200, .inl fN)), ((ma 9), .inl (cI, 40, .inl fNS))] := hD
          try dsimp only at hp_r1
          obtain ⟨hr_2, hv_3⟩ := hp_r1
          refine lv_aload_n hx hb d_DiscMakerModel_order_36 rfl (lv_at hl 0 rfl) ?_
          refine lv_iload_n hx hb d_DiscMakerModel_order_37 rfl (lv_at hl 3 rfl) ?_
          refine lv_iload hx hb d_DiscMakerModel_order_38 (lv_at hl 5 rfl) ?_
          have hPc := hP.sub (ws' := [(h0, .inr (11, MO ma sv_thrown sv_length sv_nodes sv_many sv_directories sv_runsFrom sv_runs sv_read sv_wrong sv_isNamed sv_goes sv_goesSize sv_goesAt sv_targetParts sv_isRoot)), ((ma 8), .inl (cB, 1200, .inl fN)), ((ma 9), .inl (cI, 40, .inl fNS))]) [4, 5, 6] rfl
          have hDc := hD.sub (ws' := [(h0, .inr (11, MO ma sv_thrown sv_length sv_nodes sv_many sv_directories sv_runsFrom sv_runs sv_read sv_wrong sv_isNamed sv_goes sv_goesSize sv_goesAt sv_targetParts sv_isRoot)), ((ma 8), .inl (cB, 1200, .inl fN)), ((ma 9), .inl (cI, 40, .inl fNS))]) [4, 5, 6] (by decide +kernel) rfl
          have hFc := va_free (wc := [(h0, .inr (11, MO ma sv_thrown sv_length sv_nodes sv_many sv_directories sv_runsFrom sv_runs sv_read sv_wrong sv_isNamed sv_goes sv_goesSize sv_goesAt sv_targetParts sv_isRoot)), ((ma 8), .inl (cB, 1200, .inl fN)), ((ma 9), .inl (cI, 40, .inl fNS))]) hD hS hA [4, 5, 6] rfl
          have hkc : 0 ≤ 0 := by decide
          have hks : 0 ≤ 0 := by decide
          refine va_calli (va_runV (C := "DiscMakerModel") (As := [.int z, .int kc]) (rest := [.int r1]) ⟨hx, hb, hml, hown, hts⟩ (m_nameOf l D cB cI cJ cZ cN cF H.size h0 ma sv_thrown sv_length sv_nodes sv_many sv_directories sv_runsFrom sv_runs sv_read sv_wrong sv_isNamed sv_goes sv_goesSize sv_goesAt sv_targetParts sv_isRoot fN fNS z kc (by (try dsimp only); first | assumption | omega | trivial) (by (try dsimp only); first | assumption | omega | trivial) (by (try dsimp only); first | assumption | omega | trivial)) (cwV 2 hts (lg_goodV k1616 k1618 k56 k125 kc_DiscMakerModel_nameOf) rfl rfl rfl (by decide +kernel) ⟨Nat.le_of_ble_eq_true rfl, Nat.le_of_ble_eq_true rfl⟩) ⟨fun a U g mk q => by obtain ⟨q0, q1, qP, qK, qN, qD⟩ := q; exact ⟨q0, q1, qP, va_K.moved (u := U) (U := U.calling g mk a) (Vm.Alike.refl U.vm) qK, qN.calling, qD⟩, va_recv hK hP (ci := 11) (q0 := 4) rfl rfl, fun U hU hW => ⟨rfl, by rw [hU], by rw [hU]; exact hPc, va_K.moved hW.alike hK, NN.warm hW hN, hDc.weaken (fun _ _ _ _ => trivial)⟩⟩ rfl rfl hl.1 rfl (lv_room (Nat.le_of_ble_eq_true rfl)) d_DiscMakerModel_order_40 ⟨hkc, hks⟩) hS (fun q _ h => hFc q h) hFc (fun r4 u t H1 locs ht hvm hp_r4 hB hz1 hk1 hS => ?_)
          obtain ⟨hP1, hD1⟩ := hB
          rw [ht] at hP1
          obtain ⟨hP, hD⟩ := va_join (wr := [((ma 12), .inl (cB, 320, .inl fBa)), ((ma 13), .inl (cI, 40, .inl fBs)), ((ma 14), .inl (cB, 120, .inl fEx)), ((ma 15), .inl (cI, 40, .inl fEs))]) (w1 := [(h0, .inr (11, MO ma sv_thrown sv_length sv_nodes sv_many sv_directories sv_runsFrom sv_runs sv_read sv_wrong sv_isNamed sv_goes sv_goesSize sv_goesAt sv_targetParts sv_isRoot)), ((ma 8), .inl (cB, 1200, .inl fN)), ((ma 9), .inl (cI, 40, .inl fNS))]) hP hD [4, 5, 6] [0, 1, 2, 3] rfl rfl (by decide +kernel) (by decide +kernel) hk1 hFc hP1 hD1
          clear hPc hDc hFc hP1 hD1 hk1 hz1 hkc hks
          generalize H1 = H at hP hS ⊢
          have hP : va_P D CL [((ma 12), .inl (cB, 320, .inl fBa)), ((ma 13), .inl (cI, 40, .inl fBs)), ((ma 14), .inl (cB, 120, .inl fEx)), ((ma 15), .inl (cI, 40, .inl fEs)), (h0, .inr (11, MO ma sv_thrown sv_length sv_nodes sv_many sv_directories sv_runsFrom sv_runs sv_read sv_wrong sv_isNamed sv_goes sv_goesSize sv_goesAt sv_targetParts sv_isRoot)), ((ma 8), .inl (cB, 1200, .inl fN)), ((ma 9), .inl (cI, 40, .inl fNS))] H := hP
          have hD : va_D A [((ma 12), .inl (cB, 320, .inl fBa)), ((ma 13), .inl (cI, 40, .inl fBs)), ((ma 14), .inl (cB, 120, .inl fEx)), ((ma 15), .inl (cI, 40, .inl fEs)), (h0, .inr (11, MO ma sv_thrown sv_length sv_nodes sv_many sv_directories sv_runsFrom sv_runs sv_read sv_wrong sv_isNamed sv_goes sv_goesSize sv_goesAt sv_targetParts sv_isRoot)), ((ma 8), .inl (cB, 1200, .inl fN)), ((ma 9), .inl (cI, 40, .inl fNS))] := hD
          try dsimp only at hp_r4
          obtain ⟨hr_5, hv_6⟩ := hp_r4
          refine lv_isub hx hb d_DiscMakerModel_order_43 ?_
          refine lv_topi (fun v7 e_v7 => ?_)
          have t_v7 : v7.toInt = r1.toInt - r4.toInt := by rw [e_v7]; exact i_sub rfl rfl (by omega) (by omega)
          refine lv_istore hx hb d_DiscMakerModel_order_44 hl (by decide) rfl (fun ls hl => ?_)
          have hl : lv_has ls 6 [(4, .int v7), (0, .ref h0), (1, .int x), (2, .int y), (3, .int z), (5, .int kc)] := hl
          obtain ⟨v8, e_v8⟩ : ∃ z : Int32, z = kc + 1 := ⟨_, rfl⟩
          refine lv_iinc (v := v8) hx hb d_DiscMakerModel_order_46 hl (k := 5) rfl e_v8.symm (by decide +kernel) rfl (fun ls hl => ?_)
          have t_v8 : v8.toInt = kc.toInt + 1 := by rw [e_v8]; exact i_add rfl (by decide) (by omega) (by omega)
          have hl : lv_has ls 6 [(5, .int v8), (4, .int v7), (0, .ref h0), (1, .int x), (2, .int y), (3, .int z)] := hl
          refine lv_goto (tgt := 17) hx hb d_DiscMakerModel_order_49 (by decide) ?_
          have hP := hP.sub (ws' := [(h0, .inr (11, MO ma sv_thrown sv_length sv_nodes sv_many sv_directories sv_runsFrom sv_runs sv_read sv_wrong sv_isNamed sv_goes sv_goesSize sv_goesAt sv_targetParts sv_isRoot)), ((ma 8), .inl (cB, 1200, .inl fN)), ((ma 9), .inl (cI, 40, .inl fNS)), ((ma 12), .inl (cB, 320, .inl fBa)), ((ma 13), .inl (cI, 40, .inl fBs)), ((ma 14), .inl (cB, 120, .inl fEx)), ((ma 15), .inl (cI, 40, .inl fEs))]) [4, 5, 6, 0, 1, 2, 3] rfl
          have hD := hD.sub (ws' := [(h0, .inr (11, MO ma sv_thrown sv_length sv_nodes sv_many sv_directories sv_runsFrom sv_runs sv_read sv_wrong sv_isNamed sv_goes sv_goesSize sv_goesAt sv_targetParts sv_isRoot)), ((ma 8), .inl (cB, 1200, .inl fN)), ((ma 9), .inl (cI, 40, .inl fNS)), ((ma 12), .inl (cB, 320, .inl fBa)), ((ma 13), .inl (cI, 40, .inl fBs)), ((ma 14), .inl (cB, 120, .inl fEx)), ((ma 15), .inl (cI, 40, .inl fEs))]) [4, 5, 6, 0, 1, 2, 3] (by decide +kernel) rfl
          have hl := lv_sub hl [2, 3, 4, 5, 1, 0] rfl
          exact ih17 _ (by first | omega | (dsimp only; omega)) v7 v8 _ _ _ rfl ((by (try dsimp only); first | assumption | omega | trivial)) ((by have h1 := i_cl (a := kc) (by omega); have h2 := i_cl (a := v8) (by omega); rw [show v8.toNatClampNeg = kc.toNatClampNeg + 1 by omega]; exact DX_step fc (by omega) (by omega) (by omega))) hP hD hS hl
    · skip
      intro kk17
      have hP := hP.sub (ws' := [(h0, .inr (11, MO ma sv_thrown sv_length sv_nodes sv_many sv_directories sv_runsFrom sv_runs sv_read sv_wrong sv_isNamed sv_goes sv_goesSize sv_goesAt sv_targetParts sv_isRoot)), ((ma 8), .inl (cB, 1200, .inl fN)), ((ma 9), .inl (cI, 40, .inl fNS)), ((ma 12), .inl (cB, 320, .inl fBa)), ((ma 13), .inl (cI, 40, .inl fBs)), ((ma 14), .inl (cB, 120, .inl fEx)), ((ma 15), .inl (cI, 40, .inl fEs))]) [0, 1, 2, 3, 4, 5, 6] rfl
      have hD := hD.sub (ws' := [(h0, .inr (11, MO ma sv_thrown sv_length sv_nodes sv_many sv_directories sv_runsFrom sv_runs sv_read sv_wrong sv_isNamed sv_goes sv_goesSize sv_goesAt sv_targetParts sv_isRoot)), ((ma 8), .inl (cB, 1200, .inl fN)), ((ma 9), .inl (cI, 40, .inl fNS)), ((ma 12), .inl (cB, 320, .inl fBa)), ((ma 13), .inl (cI, 40, .inl fBs)), ((ma 14), .inl (cB, 120, .inl fEx)), ((ma 15), .inl (cI, 40, .inl fEs))]) [0, 1, 2, 3, 4, 5, 6] (by decide +kernel) rfl
      have hl := lv_sub hl [2, 3, 4, 5, 1, 0] rfl
      exact kk17 _ 0 0 _ _ _ rfl ((by (try dsimp only); first | assumption | omega | trivial)) ((DX_0 (by omega) (by decide))) hP hD hS hl
  · skip
    have g1_2 : x.toInt = 0 := (i_eq rfl (by decide)).mp h_9
    refine lv_aload_n hx hb d_DiscMakerModel_order_4 rfl (lv_at hl 0 rfl) ?_
    refine lv_iload_n hx hb d_DiscMakerModel_order_5 rfl (lv_at hl 2 rfl) ?_
    refine lv_iload_n hx hb d_DiscMakerModel_order_6 rfl (lv_at hl 3 rfl) ?_
    have hPc := hP.sub (ws' := [(h0, .inr (11, MO ma sv_thrown sv_length sv_nodes sv_many sv_directories sv_runsFrom sv_runs sv_read sv_wrong sv_isNamed sv_goes sv_goesSize sv_goesAt sv_targetParts sv_isRoot)), ((ma 12), .inl (cB, 320, .inl fBa)), ((ma 13), .inl (cI, 40, .inl fBs)), ((ma 14), .inl (cB, 120, .inl fEx)), ((ma 15), .inl (cI, 40, .inl fEs))]) [0, 3, 4, 5, 6] rfl
    have hDc := hD.sub (ws' := [(h0, .inr (11, MO ma sv_thrown sv_length sv_nodes sv_many sv_directories sv_runsFrom sv_runs sv_read sv_wrong sv_isNamed sv_goes sv_goesSize sv_goesAt sv_targetParts sv_isRoot)), ((ma 12), .inl (cB, 320, .inl fBa)), ((ma 13), .inl (cI, 40, .inl fBs)), ((ma 14), .inl (cB, 120, .inl fEx)), ((ma 15), .inl (cI, 40, .inl fEs))]) [0, 3, 4, 5, 6] (by decide +kernel) rfl
    have hFc := va_free (wc := [(h0, .inr (11, MO ma sv_thrown sv_length sv_nodes sv_many sv_directories sv_runsFrom sv_runs sv_read sv_wrong sv_isNamed sv_goes sv_goesSize sv_goesAt sv_targetParts sv_isRoot)), ((ma 12), .inl (cB, 320, .inl fBa)), ((ma 13), .inl (cI, 40, .inl fBs)), ((ma 14), .inl (cB, 120, .inl fEx)), ((ma 15), .inl (cI, 40, .inl fEs))]) hD hS hA [0, 3, 4, 5, 6] rfl
    have hkc : 0 ≤ 0 := by decide
    have hks : 0 ≤ 0 := by decide
    refine va_calli (va_runV (C := "DiscMakerModel") (As := [.int y, .int z]) (rest := []) ⟨hx, hb, hml, hown, hts⟩ (m_identifiers l D cB cI cJ cZ cN cF s.heap.size h0 ma sv_thrown sv_length sv_nodes sv_many sv_directories sv_runsFrom sv_runs sv_read sv_wrong sv_isNamed sv_goes sv_goesSize sv_goesAt sv_targetParts sv_isRoot fBa fBs fEx fEs y z (by (try dsimp only); first | assumption | omega | trivial) (by (try dsimp only); first | assumption | omega | trivial) (by (try dsimp only); first | assumption | omega | trivial) (by (try dsimp only); first | assumption | omega | trivial) (by (try dsimp only); first | assumption | omega | trivial) (by (try dsimp only); first | assumption | omega | trivial)) (cwV 2 hts (lg_goodV k1659 k1661 k62 k125 kc_DiscMakerModel_identifiers) rfl rfl rfl (by decide +kernel) ⟨Nat.le_of_ble_eq_true rfl, Nat.le_of_ble_eq_true rfl⟩) ⟨fun a U g mk q => by obtain ⟨q0, q1, qP, qK, qN, qD⟩ := q; exact ⟨q0, q1, qP, va_K.moved (u := U) (U := U.calling g mk a) (Vm.Alike.refl U.vm) qK, qN.calling, qD⟩, va_recv hK hP (ci := 11) (q0 := 0) rfl rfl, fun U hU hW => ⟨rfl, by rw [hU], by rw [hU]; exact hPc, va_K.moved hW.alike hK, NN.warm hW hN, hDc.weaken (fun _ _ _ _ => trivial)⟩⟩ rfl rfl hl.1 rfl (lv_room (Nat.le_of_ble_eq_true rfl)) d_DiscMakerModel_order_7 ⟨hkc, hks⟩) hS (fun q _ h => hFc q h) hFc (fun r9 u t H1 locs ht hvm hp_r9 hB hz1 hk1 hS => ?_)
    obtain ⟨hP1, hD1⟩ := hB
    rw [ht] at hP1
    obtain ⟨hP, hD⟩ := va_join (wr := [((ma 8), .inl (cB, 1200, .inl fN)), ((ma 9), .inl (cI, 40, .inl fNS))]) (w1 := [(h0, .inr (11, MO ma sv_thrown sv_length sv_nodes sv_many sv_directories sv_runsFrom sv_runs sv_read sv_wrong sv_isNamed sv_goes sv_goesSize sv_goesAt sv_targetParts sv_isRoot)), ((ma 12), .inl (cB, 320, .inl fBa)), ((ma 13), .inl (cI, 40, .inl fBs)), ((ma 14), .inl (cB, 120, .inl fEx)), ((ma 15), .inl (cI, 40, .inl fEs))]) hP hD [0, 3, 4, 5, 6] [1, 2] rfl rfl (by decide +kernel) (by decide +kernel) hk1 hFc hP1 hD1
    clear hPc hDc hFc hP1 hD1 hk1 hz1 hkc hks
    generalize H1 = H at hP hS ⊢
    have hP : va_P D CL [((ma 8), .inl (cB, 1200, .inl fN)), ((ma 9), .inl (cI, 40, .inl fNS)), (h0, .inr (11, MO ma sv_thrown sv_length sv_nodes sv_many sv_directories sv_runsFrom sv_runs sv_read sv_wrong sv_isNamed sv_goes sv_goesSize sv_goesAt sv_targetParts sv_isRoot)), ((ma 12), .inl (cB, 320, .inl fBa)), ((ma 13), .inl (cI, 40, .inl fBs)), ((ma 14), .inl (cB, 120, .inl fEx)), ((ma 15), .inl (cI, 40, .inl fEs))] H := hP
    have hD : va_D A [((ma 8), .inl (cB, 1200, .inl fN)), ((ma 9), .inl (cI, 40, .inl fNS)), (h0, .inr (11, MO ma sv_thrown sv_length sv_nodes sv_many sv_directories sv_runsFrom sv_runs sv_read sv_wrong sv_isNamed sv_goes sv_goesSize sv_goesAt sv_targetParts sv_isRoot)), ((ma 12), .inl (cB, 320, .inl fBa)), ((ma 13), .inl (cI, 40, .inl fBs)), ((ma 14), .inl (cB, 120, .inl fEx)), ((ma 15), .inl (cI, 40, .inl fEs))] := hD
    try dsimp only at hp_r9
    obtain ⟨hlt_10, heq_11⟩ := hp_r9
    have hP9 := hP.sub (ws' := [(h0, .inr (11, MO ma sv_thrown sv_length sv_nodes sv_many sv_directories sv_runsFrom sv_runs sv_read sv_wrong sv_isNamed sv_goes sv_goesSize sv_goesAt sv_targetParts sv_isRoot)), ((ma 8), .inl (cB, 1200, .inl fN)), ((ma 9), .inl (cI, 40, .inl fNS)), ((ma 12), .inl (cB, 320, .inl fBa)), ((ma 13), .inl (cI, 40, .inl fBs)), ((ma 14), .inl (cB, 120, .inl fEx)), ((ma 15), .inl (cI, 40, .inl fEs))]) [2, 0, 1, 3, 4, 5, 6] rfl
    have hD9 := hD.sub (ws' := [(h0, .inr (11, MO ma sv_thrown sv_length sv_nodes sv_many sv_directories sv_runsFrom sv_runs sv_read sv_wrong sv_isNamed sv_goes sv_goesSize sv_goesAt sv_targetParts sv_isRoot)), ((ma 8), .inl (cB, 1200, .inl fN)), ((ma 9), .inl (cI, 40, .inl fNS)), ((ma 12), .inl (cB, 320, .inl fBa)), ((ma 13), .inl (cI, 40, .inl fBs)), ((ma 14), .inl (cB, 120, .inl fEx)), ((ma 15), .inl (cI, 40, .inl fEs))]) [2, 0, 1, 3, 4, 5, 6] (by decide +kernel) rfl
    exact W.iret (v := r9) hx hb hr (fun t ht hW => ⟨⟨r9, (), rfl, (by (try dsimp only); rw [KF_0 (by omega), NL_0 (by omega)]; exact hlt_10), by rw [ht]; exact hP9, hD9⟩, hS.F ht⟩) hS.2.2 d_DiscMakerModel_order_10

theorem d_DiscMakerModel_next_0 : decode b_DiscMakerModel_next 0 = .ok (.iconst (-1), 1) := by decide +kernel
theorem d_DiscMakerModel_next_1 : decode b_DiscMakerModel_next 1 = .ok (.istore 4, 2) := by decide +kernel
theorem d_DiscMakerModel_next_3 : decode b_DiscMakerModel_next 3 = .ok (.iconst 1, 1) := by decide +kernel
theorem d_DiscMakerModel_next_4 : decode b_DiscMakerModel_next 4 = .ok (.istore 5, 2) := by decide +kernel
theorem d_DiscMakerModel_next_6 : decode b_DiscMakerModel_next 6 = .ok (.iload 5, 2) := by decide +kernel
theorem d_DiscMakerModel_next_8 : decode b_DiscMakerModel_next 8 = .ok (.aload_n 0, 1) := by decide +kernel
theorem d_DiscMakerModel_next_9 : decode b_DiscMakerModel_next 9 = .ok (.getfield 114, 3) := by decide +kernel
theorem d_DiscMakerModel_next_12 : decode b_DiscMakerModel_next 12 = .ok (.if_icmp .ge 87, 3) := by decide +kernel
theorem d_DiscMakerModel_next_15 : decode b_DiscMakerModel_next 15 = .ok (.aload_n 0, 1) := by decide +kernel
theorem d_DiscMakerModel_next_16 : decode b_DiscMakerModel_next 16 = .ok (.getfield 17, 3) := by decide +kernel
theorem d_DiscMakerModel_next_19 : decode b_DiscMakerModel_next 19 = .ok (.iload 5, 2) := by decide +kernel
theorem d_DiscMakerModel_next_21 : decode b_DiscMakerModel_next 21 = .ok (.iaload, 1) := by decide +kernel
theorem d_DiscMakerModel_next_22 : decode b_DiscMakerModel_next 22 = .ok (.iload_n 2, 1) := by decide +kernel
theorem d_DiscMakerModel_next_23 : decode b_DiscMakerModel_next 23 = .ok (.if_icmp .ne 70, 3) := by decide +kernel
theorem d_DiscMakerModel_next_26 : decode b_DiscMakerModel_next 26 = .ok (.iload_n 1, 1) := by decide +kernel
theorem d_DiscMakerModel_next_27 : decode b_DiscMakerModel_next 27 = .ok (.iconst 1, 1) := by decide +kernel
theorem d_DiscMakerModel_next_28 : decode b_DiscMakerModel_next 28 = .ok (.if_icmp .ne 17, 3) := by decide +kernel
theorem d_DiscMakerModel_next_31 : decode b_DiscMakerModel_next 31 = .ok (.aload_n 0, 1) := by decide +kernel
theorem d_DiscMakerModel_next_32 : decode b_DiscMakerModel_next 32 = .ok (.getfield 13, 3) := by decide +kernel
theorem d_DiscMakerModel_next_35 : decode b_DiscMakerModel_next 35 = .ok (.iload 5, 2) := by decide +kernel
theorem d_DiscMakerModel_next_37 : decode b_DiscMakerModel_next 37 = .ok (.iaload, 1) := by decide +kernel
theorem d_DiscMakerModel_next_38 : decode b_DiscMakerModel_next 38 = .ok (.iconst 2, 1) := by decide +kernel
theorem d_DiscMakerModel_next_39 : decode b_DiscMakerModel_next 39 = .ok (.if_icmp .ne 6, 3) := by decide +kernel
theorem d_DiscMakerModel_next_42 : decode b_DiscMakerModel_next 42 = .ok (.goto 51, 3) := by decide +kernel
theorem d_DiscMakerModel_next_45 : decode b_DiscMakerModel_next 45 = .ok (.iload_n 3, 1) := by decide +kernel
theorem d_DiscMakerModel_next_46 : decode b_DiscMakerModel_next 46 = .ok (.ifCond .lt 14, 3) := by decide +kernel
theorem d_DiscMakerModel_next_49 : decode b_DiscMakerModel_next 49 = .ok (.aload_n 0, 1) := by decide +kernel
theorem d_DiscMakerModel_next_50 : decode b_DiscMakerModel_next 50 = .ok (.iload_n 1, 1) := by decide +kernel
theorem d_DiscMakerModel_next_51 : decode b_DiscMakerModel_next 51 = .ok (.iload_n 3, 1) := by decide +kernel
theorem d_DiscMakerModel_next_52 : decode b_DiscMakerModel_next 52 = .ok (.iload 5, 2) := by decide +kernel
theorem d_DiscMakerModel_next_54 : decode b_DiscMakerModel_next 54 = .ok (.invokevirtual 178, 3) := by decide +kernel
theorem d_DiscMakerModel_next_57 : decode b_DiscMakerModel_next 57 = .ok (.ifCond .ge 7, 3) := by decide +kernel
theorem d_DiscMakerModel_next_60 : decode b_DiscMakerModel_next 60 = .ok (.iconst 1, 1) := by decide +kernel
theorem d_DiscMakerModel_next_61 : decode b_DiscMakerModel_next 61 = .ok (.goto 4, 3) := by decide +kernel
theorem d_DiscMakerModel_next_64 : decode b_DiscMakerModel_next 64 = .ok (.iconst 0, 1) := by decide +kernel
theorem d_DiscMakerModel_next_65 : decode b_DiscMakerModel_next 65 = .ok (.istore 6, 2) := by decide +kernel
theorem d_DiscMakerModel_next_67 : decode b_DiscMakerModel_next 67 = .ok (.iload 6, 2) := by decide +kernel
theorem d_DiscMakerModel_next_69 : decode b_DiscMakerModel_next 69 = .ok (.ifCond .eq 24, 3) := by decide +kernel
theorem d_DiscMakerModel_next_72 : decode b_DiscMakerModel_next 72 = .ok (.iload 4, 2) := by decide +kernel
theorem d_DiscMakerModel_next_74 : decode b_DiscMakerModel_next 74 = .ok (.ifCond .lt 15, 3) := by decide +kernel
theorem d_DiscMakerModel_next_77 : decode b_DiscMakerModel_next 77 = .ok (.aload_n 0, 1) := by decide +kernel
theorem d_DiscMakerModel_next_78 : decode b_DiscMakerModel_next 78 = .ok (.iload_n 1, 1) := by decide +kernel
theorem d_DiscMakerModel_next_79 : decode b_DiscMakerModel_next 79 = .ok (.iload 5, 2) := by decide +kernel
theorem d_DiscMakerModel_next_81 : decode b_DiscMakerModel_next 81 = .ok (.iload 4, 2) := by decide +kernel
theorem d_DiscMakerModel_next_83 : decode b_DiscMakerModel_next 83 = .ok (.invokevirtual 178, 3) := by decide +kernel
theorem d_DiscMakerModel_next_86 : decode b_DiscMakerModel_next 86 = .ok (.ifCond .ge 7, 3) := by decide +kernel
theorem d_DiscMakerModel_next_89 : decode b_DiscMakerModel_next 89 = .ok (.iload 5, 2) := by decide +kernel
theorem d_DiscMakerModel_next_91 : decode b_DiscMakerModel_next 91 = .ok (.istore 4, 2) := by decide +kernel
theorem d_DiscMakerModel_next_93 : decode b_DiscMakerModel_next 93 = .ok (.iinc 5 1, 3) := by decide +kernel
theorem d_DiscMakerModel_next_96 : decode b_DiscMakerModel_next 96 = .ok (.goto (-90), 3) := by decide +kernel
theorem d_DiscMakerModel_next_99 : decode b_DiscMakerModel_next 99 = .ok (.iload 4, 2) := by decide +kernel
theorem d_DiscMakerModel_next_101 : decode b_DiscMakerModel_next 101 = .ok (.ireturn, 1) := by decide +kernel
set_option maxHeartbeats 4000000 in
set_option maxRecDepth 100000 in
theorem m_next (l : Launch) (D : va_G) (cB cI cJ cZ cN cF : ClassId) (sz : Nat) (h0 : Nat) (ma : Nat → Nat) (sv_thrown sv_length sv_nodes sv_many sv_directories sv_runsFrom sv_runs sv_read sv_wrong sv_isNamed sv_goes sv_goesSize sv_goesAt sv_targetParts sv_isRoot : Int32) (fK : Nat → Int32) (fP : Nat → Int32) (fN : Nat → Int32) (fNS : Nat → Int32) (fBa : Nat → Int32) (fBs : Nat → Int32) (fEx : Nat → Int32) (fEs : Nat → Int32) (x : Int32) (y : Int32) (z : Int32) (hx0 : 0 ≤ x.toInt ∧ x.toInt ≤ 1) (hn : 1 ≤ sv_nodes.toInt ∧ sv_nodes.toInt ≤ 40) (hz0 : z.toInt < 0 ∨ (0 ≤ z.toInt ∧ z.toInt < 40)) (hNS : Rg 0 30 40 fNS) (hBa : Rg (-128) 127 320 fBa) (hBs : Rg 0 8 40 fBs) (hEx : Rg (-128) 127 120 fEx) (hEs : Rg 0 3 40 fEs) : Met l y_DiscMakerModel_next w_DiscMakerModel_next ({ frames := 3, cells := 0, slots := 0, locals := 71 }) (va_Pc [.ref h0, .int x, .int y, .int z] (fun U => U.heap.size = sz ∧ va_P D CL [(h0, .inr (11, MO ma sv_thrown sv_length sv_nodes sv_many sv_directories sv_runsFrom sv_runs sv_read sv_wrong sv_isNamed sv_goes sv_goesSize sv_goesAt sv_targetParts sv_isRoot)), ((ma 1), .inl (cI, 40, .inl fK)), ((ma 2), .inl (cI, 40, .inl fP)), ((ma 8), .inl (cB, 1200, .inl fN)), ((ma 9), .inl (cI, 40, .inl fNS)), ((ma 12), .inl (cB, 320, .inl fBa)), ((ma 13), .inl (cI, 40, .inl fBs)), ((ma 14), .inl (cB, 120, .inl fEx)), ((ma 15), .inl (cI, 40, .inl fEs))] U.heap ∧ va_K D CL (TY cB cI cJ cZ cN cF) U ∧ NN U ∧ va_D (fun _ => True) [(h0, .inr (11, MO ma sv_thrown sv_length sv_nodes sv_many sv_directories sv_runsFrom sv_runs sv_read sv_wrong sv_isNamed sv_goes sv_goesSize sv_goesAt sv_targetParts sv_isRoot)), ((ma 1), .inl (cI, 40, .inl fK)), ((ma 2), .inl (cI, 40, .inl fP)), ((ma 8), .inl (cB, 1200, .inl fN)), ((ma 9), .inl (cI, 40, .inl fNS)), ((ma 12), .inl (cB, 320, .inl fBa)), ((ma 13), .inl (cI, 40, .inl fBs)), ((ma 14), .inl (cB, 120, .inl fEx)), ((ma 15), .inl (cI, 40, .inl fEs))])) (va_Qi (fun (r : Int32) (u : Unit) => (NextP (KF x.toInt fN fNS fBa fBs fEx fEs) (NL x.toInt) fK fP x.toInt y.toInt z.toInt sv_nodes.toInt r.toInt)) (fun (u : Unit) (t : State) => match u with | () => va_P D CL [(h0, .inr (11, MO ma sv_thrown sv_length sv_nodes sv_many sv_directories sv_runsFrom sv_runs sv_read sv_wrong sv_isNamed sv_goes sv_goesSize sv_goesAt sv_targetParts sv_isRoot)), ((ma 1), .inl (cI, 40, .inl fK)), ((ma 2), .inl (cI, 40, .inl fP)), ((ma 8), .inl (cB, 1200, .inl fN)), ((ma 9), .inl (cI, 40, .inl fNS)), ((ma 12), .inl (cB, 320, .inl fBa)), ((ma 13), .inl (cI, 40, .inl fBs)), ((ma 14), .inl (cB, 120, .inl fEx)), ((ma 15), .inl (cI, 40, .inl fEs))] t.heap ∧ va_D (va_A [(h0, .inr (11, MO ma sv_thrown sv_length sv_nodes sv_many sv_directories sv_runsFrom sv_runs sv_read sv_wrong sv_isNamed sv_goes sv_goesSize sv_goesAt sv_targetParts sv_isRoot)), ((ma 1), .inl (cI, 40, .inl fK)), ((ma 2), .inl (cI, 40, .inl fP)), ((ma 8), .inl (cB, 1200, .inl fN)), ((ma 9), .inl (cI, 40, .inl fNS)), ((ma 12), .inl (cB, 320, .inl fBa)), ((ma 13), .inl (cI, 40, .inl fBs)), ((ma 14), .inl (cB, 120, .inl fEx)), ((ma 15), .inl (cI, 40, .inl fEs))] sz) [(h0, .inr (11, MO ma sv_thrown sv_length sv_nodes sv_many sv_directories sv_runsFrom sv_runs sv_read sv_wrong sv_isNamed sv_goes sv_goesSize sv_goesAt sv_targetParts sv_isRoot)), ((ma 1), .inl (cI, 40, .inl fK)), ((ma 2), .inl (cI, 40, .inl fP)), ((ma 8), .inl (cB, 1200, .inl fN)), ((ma 9), .inl (cI, 40, .inl fNS)), ((ma 12), .inl (cB, 320, .inl fBa)), ((ma 13), .inl (cI, 40, .inl fBs)), ((ma 14), .inl (cB, 120, .inl fEx)), ((ma 15), .inl (cI, 40, .inl fEs))]) (va_A [(h0, .inr (11, MO ma sv_thrown sv_length sv_nodes sv_many sv_directories sv_runsFrom sv_runs sv_read sv_wrong sv_isNamed sv_goes sv_goesSize sv_goesAt sv_targetParts sv_isRoot)), ((ma 1), .inl (cI, 40, .inl fK)), ((ma 2), .inl (cI, 40, .inl fP)), ((ma 8), .inl (cB, 1200, .inl fN)), ((ma 9), .inl (cI, 40, .inl fNS)), ((ma 12), .inl (cB, 320, .inl fBa)), ((ma 13), .inl (cI, 40, .inl fBs)), ((ma 14), .inl (cB, 120, .inl fEx)), ((ma 15), .inl (cI, 40, .inl fEs))] sz)) 0 0 (va_A [(h0, .inr (11, MO ma sv_thrown sv_length sv_nodes sv_many sv_directories sv_runsFrom sv_runs sv_read sv_wrong sv_isNamed sv_goes sv_goesSize sv_goesAt sv_targetParts sv_isRoot)), ((ma 1), .inl (cI, 40, .inl fK)), ((ma 2), .inl (cI, 40, .inl fP)), ((ma 8), .inl (cB, 1200, .inl fN)), ((ma 9), .inl (cI, 40, .inl fNS)), ((ma 12), .inl (cB, 320, .inl fBa)), ((ma 13), .inl (cI, 40, .inl fBs)), ((ma 14), .inl (cB, 120, .inl fEx)), ((ma 15), .inl (cI, 40, .inl fEs))] sz) := by
  refine Met.ofW (cc := b_DiscMakerModel_next) (maxL := 7) (ret := some .int) (by decide) rfl ?_
  intro p e s m args below meth c s₁ B hml hv
  obtain ⟨rfl, hsz, hP, hK, hN, hD0⟩ := hv
  have hx := B.exec
  have hb := B.bytes
  have hr := B.returns
  have hts := atoms_spec (ws := w_DiscMakerModel_next) B.pre
  have ht9 := fun (w : Cond) (h : w ∈ lw_g) => hts w (List.mem_cons_of_mem _ h)
  have hown : s.vm.findClass "DiscMakerModel" = some m.cls := findClass_of_methodNamed B.named
  have hlocks := B.notSynchronized
  subst hsz
  have hD := hD0.self (sz := s.heap.size)
  generalize hAe : va_A [(h0, .inr (11, MO ma sv_thrown sv_length sv_nodes sv_many sv_directories sv_runsFrom sv_runs sv_read sv_wrong sv_isNamed sv_goes sv_goesSize sv_goesAt sv_targetParts sv_isRoot)), ((ma 1), .inl (cI, 40, .inl fK)), ((ma 2), .inl (cI, 40, .inl fP)), ((ma 8), .inl (cB, 1200, .inl fN)), ((ma 9), .inl (cI, 40, .inl fNS)), ((ma 12), .inl (cB, 320, .inl fBa)), ((ma 13), .inl (cI, 40, .inl fBs)), ((ma 14), .inl (cB, 120, .inl fEx)), ((ma 15), .inl (cI, 40, .inl fEs))] s.heap.size = A at hD ⊢
  have hA : ∀ q : Nat, s.heap.size ≤ q → A q := fun q h => by rw [← hAe]; exact Or.inr h
  have hS : va_S A s.heap s.heap [] := va_S.rf
  have hP : va_P D CL [(h0, .inr (11, MO ma sv_thrown sv_length sv_nodes sv_many sv_directories sv_runsFrom sv_runs sv_read sv_wrong sv_isNamed sv_goes sv_goesSize sv_goesAt sv_targetParts sv_isRoot)), ((ma 1), .inl (cI, 40, .inl fK)), ((ma 2), .inl (cI, 40, .inl fP)), ((ma 8), .inl (cB, 1200, .inl fN)), ((ma 9), .inl (cI, 40, .inl fNS)), ((ma 12), .inl (cB, 320, .inl fBa)), ((ma 13), .inl (cI, 40, .inl fBs)), ((ma 14), .inl (cB, 120, .inl fEx)), ((ma 15), .inl (cI, 40, .inl fEs))] s.heap := hP
  have hl := lv_entry [.ref h0, .int x, .int y, .int z] (n := 7) (Nat.le_of_ble_eq_true rfl)
  rw [lg_entry_eq]
  generalize (lg_sl [.ref h0, .int x, .int y, .int z] ++ List.replicate (7 - (lg_sl [.ref h0, .int x, .int y, .int z]).length) Slot.unset).toArray = ls at hl ⊢
  have hl : lv_has ls 7 [(0, .ref h0), (1, .int x), (2, .int y), (3, .int z)] := hl
  have L_m1 : ((-1) : Int32).toInt = (-1) := by decide
  have L_0 : (0 : Int32).toInt = 0 := by decide
  have L_1 : (1 : Int32).toInt = 1 := by decide
  have L_2 : (2 : Int32).toInt = 2 := by decide
  refine lv_iconst (v := (-1)) hx hb d_DiscMakerModel_next_0 (by decide) ?_
  refine lv_istore hx hb d_DiscMakerModel_next_1 hl (by decide) rfl (fun ls hl => ?_)
  have hl : lv_has ls 7 [(4, .int (-1)), (0, .ref h0), (1, .int x), (2, .int y), (3, .int z)] := hl
  refine lv_iconst (v := 1) hx hb d_DiscMakerModel_next_3 (by decide) ?_
  refine lv_istore hx hb d_DiscMakerModel_next_4 hl (by decide) rfl (fun ls hl => ?_)
  have hl : lv_has ls 7 [(5, .int 1), (4, .int (-1)), (0, .ref h0), (1, .int x), (2, .int y), (3, .int z)] := hl
  refine zz_labM (B := fun (lk : Nat) (K : Heap → List Loc → Array Slot → List Value → Prop) => ∀ (be : Int32) (kx : Int32) (H : Heap) (locs : List Loc) (ls : Array Slot), lk = (40 - kx.toInt).toNat → (1 ≤ kx.toInt ∧ kx.toInt ≤ sv_nodes.toInt) → ((-1) ≤ be.toInt ∧ be.toInt < 40) → (NextP (KF x.toInt fN fNS fBa fBs fEx fEs) (NL x.toInt) fK fP x.toInt y.toInt z.toInt kx.toInt be.toInt) → va_P D CL [(h0, .inr (11, MO ma sv_thrown sv_length sv_nodes sv_many sv_directories sv_runsFrom sv_runs sv_read sv_wrong sv_isNamed sv_goes sv_goesSize sv_goesAt sv_targetParts sv_isRoot)), ((ma 1), .inl (cI, 40, .inl fK)), ((ma 2), .inl (cI, 40, .inl fP)), ((ma 8), .inl (cB, 1200, .inl fN)), ((ma 9), .inl (cI, 40, .inl fNS)), ((ma 12), .inl (cB, 320, .inl fBa)), ((ma 13), .inl (cI, 40, .inl fBs)), ((ma 14), .inl (cB, 120, .inl fEx)), ((ma 15), .inl (cI, 40, .inl fEs))] H → va_D A [(h0, .inr (11, MO ma sv_thrown sv_length sv_nodes sv_many sv_directories sv_runsFrom sv_runs sv_read sv_wrong sv_isNamed sv_goes sv_goesSize sv_goesAt sv_targetParts sv_isRoot)), ((ma 1), .inl (cI, 40, .inl fK)), ((ma 2), .inl (cI, 40, .inl fP)), ((ma 8), .inl (cB, 1200, .inl fN)), ((ma 9), .inl (cI, 40, .inl fNS)), ((ma 12), .inl (cB, 320, .inl fBa)), ((ma 13), .inl (cI, 40, .inl fBs)), ((ma 14), .inl (cB, 120, .inl fEx)), ((ma 15), .inl (cI, 40, .inl fEs))] → va_S A s.heap H locs → lv_has ls 7 [(0, .ref h0), (1, .int x), (2, .int y), (3, .int z), (4, .int be), (5, .int kx)] → K H locs ls []) 6 ?_ ?_
  · skip
    intro lk ih6 be kx H locs ls hm6 f1 f3 f2 hP hD hS hl
    refine lv_iload hx hb d_DiscMakerModel_next_6 (lv_at hl 5 rfl) ?_
    refine lv_aload_n hx hb d_DiscMakerModel_next_8 rfl (lv_at hl 0 rfl) ?_
    refine va_get (D := D) (ci := 11) (v := .int sv_nodes) (C := "DiscMakerModel") (T := F_DiscMakerModel) (N := 48) hx hb ht9 in_DiscMakerModel hown hK hP 0 rfl rfl 3 (by decide) (ht9 _ k1434) (fun _ h9 => h9) rfl d_DiscMakerModel_next_9 ?_
    refine lv_icmp_ge (tgt := 99) hx hb d_DiscMakerModel_next_12 (by decide) (fun h_9 => ?_) (fun h_9 => ?_)
    · skip
      have g12_8 : sv_nodes.toInt ≤ kx.toInt := (i_le rfl rfl).mp h_9
      refine lv_iload hx hb d_DiscMakerModel_next_99 (lv_at hl 4 rfl) ?_
      have hP9 := hP.sub (ws' := [(h0, .inr (11, MO ma sv_thrown sv_length sv_nodes sv_many sv_directories sv_runsFrom sv_runs sv_read sv_wrong sv_isNamed sv_goes sv_goesSize sv_goesAt sv_targetParts sv_isRoot)), ((ma 1), .inl (cI, 40, .inl fK)), ((ma 2), .inl (cI, 40, .inl fP)), ((ma 8), .inl (cB, 1200, .inl fN)), ((ma 9), .inl (cI, 40, .inl fNS)), ((ma 12), .inl (cB, 320, .inl fBa)), ((ma 13), .inl (cI, 40, .inl fBs)), ((ma 14), .inl (cB, 120, .inl fEx)), ((ma 15), .inl (cI, 40, .inl fEs))]) [0, 1, 2, 3, 4, 5, 6, 7, 8] rfl
      have hD9 := hD.sub (ws' := [(h0, .inr (11, MO ma sv_thrown sv_length sv_nodes sv_many sv_directories sv_runsFrom sv_runs sv_read sv_wrong sv_isNamed sv_goes sv_goesSize sv_goesAt sv_targetParts sv_isRoot)), ((ma 1), .inl (cI, 40, .inl fK)), ((ma 2), .inl (cI, 40, .inl fP)), ((ma 8), .inl (cB, 1200, .inl fN)), ((ma 9), .inl (cI, 40, .inl fNS)), ((ma 12), .inl (cB, 320, .inl fBa)), ((ma 13), .inl (cI, 40, .inl fBs)), ((ma 14), .inl (cB, 120, .inl fEx)), ((ma 15), .inl (cI, 40, .inl fEs))]) [0, 1, 2, 3, 4, 5, 6, 7, 8] (by decide +kernel) rfl
      exact W.iret (v := be) hx hb hr (fun t ht hW => ⟨⟨be, (), rfl, (by (try dsimp only); rw [show sv_nodes.toInt = kx.toInt by omega]; exact f2), by rw [ht]; exact hP9, hD9⟩, hS.F ht⟩) hS.2.2 d_DiscMakerModel_next_101
    · skip
      have g12_8 : ¬ sv_nodes.toInt ≤ kx.toInt := fun h8 => h_9 ((i_le rfl rfl).mpr h8)
      refine lv_aload_n hx hb d_DiscMakerModel_next_15 rfl (lv_at hl 0 rfl) ?_
      refine va_get (D := D) (ci := 11) (v := .ref (ma 2)) (C := "DiscMakerModel") (T := F_DiscMakerModel) (N := 48) hx hb ht9 in_DiscMakerModel hown hK hP 0 rfl rfl 5 (by decide) (ht9 _ k1436) (fun _ h9 => h9) rfl d_DiscMakerModel_next_16 ?_
      refine lv_iload hx hb d_DiscMakerModel_next_19 (lv_at hl 5 rfl) ?_
      refine va_iald hx hb hK hP 2 1 rfl rfl (vp_in_iff.mpr ⟨by omega, by omega⟩) d_DiscMakerModel_next_21 ?_
      refine lv_topi (fun v1 e_v1 => ?_)
      refine lv_iload_n hx hb d_DiscMakerModel_next_22 rfl (lv_at hl 2 rfl) ?_
      refine lv_icmp_ne (tgt := 93) hx hb d_DiscMakerModel_next_23 (by decide) (fun h_9 => ?_) (fun h_9 => ?_)
      · skip
        have g23_16 : ¬ v1.toInt = y.toInt := fun h8 => h_9 ((i_eq rfl rfl).mpr h8)
        obtain ⟨v2, e_v2⟩ : ∃ z : Int32, z = kx + 1 := ⟨_, rfl⟩
        refine lv_iinc (v := v2) hx hb d_DiscMakerModel_next_93 hl (k := 5) rfl e_v2.symm (by decide +kernel) rfl (fun ls hl => ?_)
        have t_v2 : v2.toInt = kx.toInt + 1 := by rw [e_v2]; exact i_add rfl (by decide) (by omega) (by omega)
        have hl : lv_has ls 7 [(5, .int v2), (0, .ref h0), (1, .int x), (2, .int y), (3, .int z), (4, .int be)] := hl
        refine lv_goto (tgt := 6) hx hb d_DiscMakerModel_next_96 (by decide) ?_
        have hP := hP.sub (ws' := [(h0, .inr (11, MO ma sv_thrown sv_length sv_nodes sv_many sv_directories sv_runsFrom sv_runs sv_read sv_wrong sv_isNamed sv_goes sv_goesSize sv_goesAt sv_targetParts sv_isRoot)), ((ma 1), .inl (cI, 40, .inl fK)), ((ma 2), .inl (cI, 40, .inl fP)), ((ma 8), .inl (cB, 1200, .inl fN)), ((ma 9), .inl (cI, 40, .inl fNS)), ((ma 12), .inl (cB, 320, .inl fBa)), ((ma 13), .inl (cI, 40, .inl fBs)), ((ma 14), .inl (cB, 120, .inl fEx)), ((ma 15), .inl (cI, 40, .inl fEs))]) [0, 1, 2, 3, 4, 5, 6, 7, 8] rfl
        have hD := hD.sub (ws' := [(h0, .inr (11, MO ma sv_thrown sv_length sv_nodes sv_many sv_directories sv_runsFrom sv_runs sv_read sv_wrong sv_isNamed sv_goes sv_goesSize sv_goesAt sv_targetParts sv_isRoot)), ((ma 1), .inl (cI, 40, .inl fK)), ((ma 2), .inl (cI, 40, .inl fP)), ((ma 8), .inl (cB, 1200, .inl fN)), ((ma 9), .inl (cI, 40, .inl fNS)), ((ma 12), .inl (cB, 320, .inl fBa)), ((ma 13), .inl (cI, 40, .inl fBs)), ((ma 14), .inl (cB, 120, .inl fEx)), ((ma 15), .inl (cI, 40, .inl fEs))]) [0, 1, 2, 3, 4, 5, 6, 7, 8] (by decide +kernel) rfl
        have hl := lv_sub hl [1, 2, 3, 4, 5, 0] rfl
        exact ih6 _ (by first | omega | (dsimp only; omega)) be v2 _ _ _ rfl ((by (try dsimp only); first | assumption | omega | trivial)) ((by (try dsimp only); first | assumption | omega | trivial)) ((by have hkc := i_cl (a := kx) (by omega); rw [show v2.toInt = kx.toInt + 1 by omega]; exact NextP_no f2 hkc (fun h => by have h1 := h.1.1; rw [← e_v1] at h1; omega))) hP hD hS hl
      · skip
        have g23_16 : v1.toInt = y.toInt := (i_eq rfl rfl).mp h_9
        refine lv_iload_n hx hb d_DiscMakerModel_next_26 rfl (lv_at hl 1 rfl) ?_
        refine lv_iconst (v := 1) hx hb d_DiscMakerModel_next_27 (by decide) ?_
        refine lv_icmp_ne (tgt := 45) hx hb d_DiscMakerModel_next_28 (by decide) (fun h_9 => ?_) (fun h_9 => ?_)
        · skip
          have g28_22 : ¬ x.toInt = 1 := fun h8 => h_9 ((i_eq rfl (by decide)).mpr h8)
          refine lv_iload_n hx hb d_DiscMakerModel_next_45 rfl (lv_at hl 3 rfl) ?_
          refine lv_if_lt (tgt := 60) hx hb d_DiscMakerModel_next_46 (by decide) (fun h_9 => ?_) (fun h_9 => ?_)
          · skip
            have g46_24 : z.toInt < 0 := (i_lt rfl (by decide)).mp h_9
            refine lv_iconst (v := 1) hx hb d_DiscMakerModel_next_60 (by decide) ?_
            refine lv_goto (tgt := 65) hx hb d_DiscMakerModel_next_61 (by decide) ?_
            refine lv_istore hx hb d_DiscMakerModel_next_65 hl (by decide) rfl (fun ls hl => ?_)
            have hl : lv_has ls 7 [(6, .int 1), (0, .ref h0), (1, .int x), (2, .int y), (3, .int z), (4, .int be), (5, .int kx)] := hl
            refine lv_iload hx hb d_DiscMakerModel_next_67 (lv_at hl 0 rfl) ?_
            refine lv_if_eq (tgt := 93) hx hb d_DiscMakerModel_next_69 (by decide) (fun h_9 => absurd h_9 (by decide)) (fun _ => ?_)
            refine lv_iload hx hb d_DiscMakerModel_next_72 (lv_at hl 5 rfl) ?_
            refine lv_if_lt (tgt := 89) hx hb d_DiscMakerModel_next_74 (by decide) (fun h_9 => ?_) (fun h_9 => ?_)
            · skip
              have g74_31 : be.toInt < 0 := (i_lt rfl (by decide)).mp h_9
              refine lv_iload hx hb d_DiscMakerModel_next_89 (lv_at hl 6 rfl) ?_
              refine lv_istore hx hb d_DiscMakerModel_next_91 hl (by decide) rfl (fun ls hl => ?_)
              have hl : lv_has ls 7 [(4, .int kx), (6, .int 1), (0, .ref h0), (1, .int x), (2, .int y), (3, .int z), (5, .int kx)] := hl
              obtain ⟨v3, e_v3⟩ : ∃ z : Int32, z = kx + 1 := ⟨_, rfl⟩
              refine lv_iinc (v := v3) hx hb d_DiscMakerModel_next_93 hl (k := 6) rfl e_v3.symm (by decide +kernel) rfl (fun ls hl => ?_)
              have t_v3 : v3.toInt = kx.toInt + 1 := by rw [e_v3]; exact i_add rfl (by decide) (by omega) (by omega)
              have hl : lv_has ls 7 [(5, .int v3), (4, .int kx), (6, .int 1), (0, .ref h0), (1, .int x), (2, .int y), (3, .int z)] := hl
              refine lv_goto (tgt := 6) hx hb d_DiscMakerModel_next_96 (by decide) ?_
              have hP := hP.sub (ws' := [(h0, .inr (11, MO ma sv_thrown sv_length sv_nodes sv_many sv_directories sv_runsFrom sv_runs sv_read sv_wrong sv_isNamed sv_goes sv_goesSize sv_goesAt sv_targetParts sv_isRoot)), ((ma 1), .inl (cI, 40, .inl fK)), ((ma 2), .inl (cI, 40, .inl fP)), ((ma 8), .inl (cB, 1200, .inl fN)), ((ma 9), .inl (cI, 40, .inl fNS)), ((ma 12), .inl (cB, 320, .inl fBa)), ((ma 13), .inl (cI, 40, .inl fBs)), ((ma 14), .inl (cB, 120, .inl fEx)), ((ma 15), .inl (cI, 40, .inl fEs))]) [0, 1, 2, 3, 4, 5, 6, 7, 8] rfl
              have hD := hD.sub (ws' := [(h0, .inr (11, MO ma sv_thrown sv_length sv_nodes sv_many sv_directories sv_runsFrom sv_runs sv_read sv_wrong sv_isNamed sv_goes sv_goesSize sv_goesAt sv_targetParts sv_isRoot)), ((ma 1), .inl (cI, 40, .inl fK)), ((ma 2), .inl (cI, 40, .inl fP)), ((ma 8), .inl (cB, 1200, .inl fN)), ((ma 9), .inl (cI, 40, .inl fNS)), ((ma 12), .inl (cB, 320, .inl fBa)), ((ma 13), .inl (cI, 40, .inl fBs)), ((ma 14), .inl (cB, 120, .inl fEx)), ((ma 15), .inl (cI, 40, .inl fEs))]) [0, 1, 2, 3, 4, 5, 6, 7, 8] (by decide +kernel) rfl
              have hl := lv_sub hl [3, 4, 5, 6, 1, 0] rfl
              exact ih6 _ (by first | omega | (dsimp only; omega)) kx v3 _ _ _ rfl ((by (try dsimp only); first | assumption | omega | trivial)) ((by (try dsimp only); first | assumption | omega | trivial)) ((by have hkc := i_cl (a := kx) (by omega); rw [show v3.toInt = kx.toInt + 1 by omega]; have h9 := NextP_take f2 hkc (by omega) ⟨by rw [← e_v1]; omega, Or.inl (by omega)⟩ (Or.inl (by omega)) (Or.inl (by omega)); rw [hkc] at h9; exact h9)) hP hD hS hl
            · skip
              have g74_31 : ¬ be.toInt < 0 := fun h8 => h_9 ((i_lt rfl (by decide)).mpr h8)
              refine lv_aload_n hx hb d_DiscMakerModel_next_77 rfl (lv_at hl 1 rfl) ?_
              refine lv_iload_n hx hb d_DiscMakerModel_next_78 rfl (lv_at hl 2 rfl) ?_
              refine lv_iload hx hb d_DiscMakerModel_next_79 (lv_at hl 6 rfl) ?_
              refine lv_iload hx hb d_DiscMakerModel_next_81 (lv_at hl 5 rfl) ?_
              have hPc := hP.sub (ws' := [(h0, .inr (11, MO ma sv_thrown sv_length sv_nodes sv_many sv_directories sv_runsFrom sv_runs sv_read sv_wrong sv_isNamed sv_goes sv_goesSize sv_goesAt sv_targetParts sv_isRoot)), ((ma 8), .inl (cB, 1200, .inl fN)), ((ma 9), .inl (cI, 40, .inl fNS)), ((ma 12), .inl (cB, 320, .inl fBa)), ((ma 13), .inl (cI, 40, .inl fBs)), ((ma 14), .inl (cB, 120, .inl fEx)), ((ma 15), .inl (cI, 40, .inl fEs))]) [0, 3, 4, 5, 6, 7, 8] rfl
              have hDc := hD.sub (ws' := [(h0, .inr (11, MO ma sv_thrown sv_length sv_nodes sv_many sv_directories sv_runsFrom sv_runs sv_read sv_wrong sv_isNamed sv_goes sv_goesSize sv_goesAt sv_targetParts sv_isRoot)), ((ma 8), .inl (cB, 1200, .inl fN)), ((ma 9), .inl (cI, 40, .inl fNS)), ((ma 12), .inl (cB, 320, .inl fBa)), ((ma 13), .inl (cI, 40, .inl fBs)), ((ma 14), .inl (cB, 120, .inl fEx)), ((ma 15), .inl (cI, 40, .inl fEs))]) [0, 3, 4, 5, 6, 7, 8] (by decide +kernel) rfl
              have hFc := va_free (wc := [(h0, .inr (11, MO ma sv_thrown sv_length sv_nodes sv_many sv_directories sv_runsFrom sv_runs sv_read sv_wrong sv_isNamed sv_goes sv_goesSize sv_goesAt sv_targetParts sv_isRoot)), ((ma 8), .inl (cB, 1200, .inl fN)), ((ma 9), .inl (cI, 40, .inl fNS)), ((ma 12), .inl (cB, 320, .inl fBa)), ((ma 13), .inl (cI, 40, .inl fBs)), ((ma 14), .inl (cB, 120, .inl fEx)), ((ma 15), .inl (cI, 40, .inl fEs))]) hD hS hA [0, 3, 4, 5, 6, 7, 8] rfl
              have hkc : 0 ≤ 0 := by decide
              have hks : 0 ≤ 0 := by decide
              refine va_calli (va_runV (C := "DiscMakerModel") (As := [.int x, .int kx, .int be]) (rest := []) ⟨hx, hb, hml, hown, hts⟩ (m_order l D cB cI cJ cZ cN cF H.size h0 ma sv_thrown sv_length sv_nodes sv_many sv_directories sv_runsFrom sv_runs sv_read sv_wrong sv_isNamed sv_goes sv_goesSize sv_goesAt sv_targetParts sv_isRoot fN fNS fBa fBs fEx fEs x kx be (by (try dsimp only); first | assumption | omega | trivial) (by (try dsimp only); first | assumption | omega | trivial) (by (try dsimp only); first | assumption | omega | trivial) (by (try dsimp only); first | assumption | omega | trivial) (by (try dsimp only); first | assumption | omega | trivial) (by (try dsimp only); first | assumption | omega | trivial) (by (try dsimp only); first | assumption | omega | trivial) (by (try dsimp only); first | assumption | omega | trivial)) (cwV 3 hts (lg_goodV k1679 k1681 k67 k125 kc_DiscMakerModel_order) rfl rfl rfl (by decide +kernel) ⟨Nat.le_of_ble_eq_true rfl, Nat.le_of_ble_eq_true rfl⟩) ⟨fun a U g mk q => by obtain ⟨q0, q1, qP, qK, qN, qD⟩ := q; exact ⟨q0, q1, qP, va_K.moved (u := U) (U := U.calling g mk a) (Vm.Alike.refl U.vm) qK, qN.calling, qD⟩, va_recv hK hP (ci := 11) (q0 := 0) rfl rfl, fun U hU hW => ⟨rfl, by rw [hU], by rw [hU]; exact hPc, va_K.moved hW.alike hK, NN.warm hW hN, hDc.weaken (fun _ _ _ _ => trivial)⟩⟩ rfl rfl hl.1 rfl (lv_room (Nat.le_of_ble_eq_true rfl)) d_DiscMakerModel_next_83 ⟨hkc, hks⟩) hS (fun q _ h => hFc q h) hFc (fun r4 u t H1 locs ht hvm hp_r4 hB hz1 hk1 hS => ?_)
              obtain ⟨hP1, hD1⟩ := hB
              rw [ht] at hP1
              obtain ⟨hP, hD⟩ := va_join (wr := [((ma 1), .inl (cI, 40, .inl fK)), ((ma 2), .inl (cI, 40, .inl fP))]) (w1 := [(h0, .inr (11, MO ma sv_thrown sv_length sv_nodes sv_many sv_directories sv_runsFrom sv_runs sv_read sv_wrong sv_isNamed sv_goes sv_goesSize sv_goesAt sv_targetParts sv_isRoot)), ((ma 8), .inl (cB, 1200, .inl fN)), ((ma 9), .inl (cI, 40, .inl fNS)), ((ma 12), .inl (cB, 320, .inl fBa)), ((ma 13), .inl (cI, 40, .inl fBs)), ((ma 14), .inl (cB, 120, .inl fEx)), ((ma 15), .inl (cI, 40, .inl fEs))]) hP hD [0, 3, 4, 5, 6, 7, 8] [1, 2] rfl rfl (by decide +kernel) (by decide +kernel) hk1 hFc hP1 hD1
              clear hPc hDc hFc hP1 hD1 hk1 hz1 hkc hks
              generalize H1 = H at hP hS ⊢
              have hP : va_P D CL [((ma 1), .inl (cI, 40, .inl fK)), ((ma 2), .inl (cI, 40, .inl fP)), (h0, .inr (11, MO ma sv_thrown sv_length sv_nodes sv_many sv_directories sv_runsFrom sv_runs sv_read sv_wrong sv_isNamed sv_goes sv_goesSize sv_goesAt sv_targetParts sv_isRoot)), ((ma 8), .inl (cB, 1200, .inl fN)), ((ma 9), .inl (cI, 40, .inl fNS)), ((ma 12), .inl (cB, 320, .inl fBa)), ((ma 13), .inl (cI, 40, .inl fBs)), ((ma 14), .inl (cB, 120, .inl fEx)), ((ma 15), .inl (cI, 40, .inl fEs))] H := hP
              have hD : va_D A [((ma 1), .inl (cI, 40, .inl fK)), ((ma 2), .inl (cI, 40, .inl fP)), (h0, .inr (11, MO ma sv_thrown sv_length sv_nodes sv_many sv_directories sv_runsFrom sv_runs sv_read sv_wrong sv_isNamed sv_goes sv_goesSize sv_goesAt sv_targetParts sv_isRoot)), ((ma 8), .inl (cB, 1200, .inl fN)), ((ma 9), .inl (cI, 40, .inl fNS)), ((ma 12), .inl (cB, 320, .inl fBa)), ((ma 13), .inl (cI, 40, .inl fBs)), ((ma 14), .inl (cB, 120, .inl fEx)), ((ma 15), .inl (cI, 40, .inl fEs))] := hD
              try dsimp only at hp_r4
              have hlt_5 := hp_r4
              refine lv_if_ge (tgt := 93) hx hb d_DiscMakerModel_next_86 (by decide) (fun h_9 => ?_) (fun h_9 => ?_)
              · skip
                have g86_42 : 0 ≤ r4.toInt := (i_le (by decide) rfl).mp h_9
                obtain ⟨v6, e_v6⟩ : ∃ z : Int32, z = kx + 1 := ⟨_, rfl⟩
                refine lv_iinc (v := v6) hx hb d_DiscMakerModel_next_93 hl (k := 6) rfl e_v6.symm (by decide +kernel) rfl (fun ls hl => ?_)
                have t_v6 : v6.toInt = kx.toInt + 1 := by rw [e_v6]; exact i_add rfl (by decide) (by omega) (by omega)
                have hl : lv_has ls 7 [(5, .int v6), (6, .int 1), (0, .ref h0), (1, .int x), (2, .int y), (3, .int z), (4, .int be)] := hl
                refine lv_goto (tgt := 6) hx hb d_DiscMakerModel_next_96 (by decide) ?_
                have hP := hP.sub (ws' := [(h0, .inr (11, MO ma sv_thrown sv_length sv_nodes sv_many sv_directories sv_runsFrom sv_runs sv_read sv_wrong sv_isNamed sv_goes sv_goesSize sv_goesAt sv_targetParts sv_isRoot)), ((ma 1), .inl (cI, 40, .inl fK)), ((ma 2), .inl (cI, 40, .inl fP)), ((ma 8), .inl (cB, 1200, .inl fN)), ((ma 9), .inl (cI, 40, .inl fNS)), ((ma 12), .inl (cB, 320, .inl fBa)), ((ma 13), .inl (cI, 40, .inl fBs)), ((ma 14), .inl (cB, 120, .inl fEx)), ((ma 15), .inl (cI, 40, .inl fEs))]) [2, 0, 1, 3, 4, 5, 6, 7, 8] rfl
                have hD := hD.sub (ws' := [(h0, .inr (11, MO ma sv_thrown sv_length sv_nodes sv_many sv_directories sv_runsFrom sv_runs sv_read sv_wrong sv_isNamed sv_goes sv_goesSize sv_goesAt sv_targetParts sv_isRoot)), ((ma 1), .inl (cI, 40, .inl fK)), ((ma 2), .inl (cI, 40, .inl fP)), ((ma 8), .inl (cB, 1200, .inl fN)), ((ma 9), .inl (cI, 40, .inl fNS)), ((ma 12), .inl (cB, 320, .inl fBa)), ((ma 13), .inl (cI, 40, .inl fBs)), ((ma 14), .inl (cB, 120, .inl fEx)), ((ma 15), .inl (cI, 40, .inl fEs))]) [2, 0, 1, 3, 4, 5, 6, 7, 8] (by decide +kernel) rfl
                have hl := lv_sub hl [2, 3, 4, 5, 6, 0] rfl
                exact ih6 _ (by first | omega | (dsimp only; omega)) be v6 _ _ _ rfl ((by (try dsimp only); first | assumption | omega | trivial)) ((by (try dsimp only); first | assumption | omega | trivial)) ((by have hkc := i_cl (a := kx) (by omega); rw [show v6.toInt = kx.toInt + 1 by omega]; exact NextP_keep f2 hkc (by omega) (fun h => by have := hlt_5.mpr h; omega))) hP hD hS hl
              · skip
                have g86_42 : ¬ 0 ≤ r4.toInt := fun h8 => h_9 ((i_le (by decide) rfl).mpr h8)
                refine lv_iload hx hb d_DiscMakerModel_next_89 (lv_at hl 6 rfl) ?_
                refine lv_istore hx hb d_DiscMakerModel_next_91 hl (by decide) rfl (fun ls hl => ?_)
                have hl : lv_has ls 7 [(4, .int kx), (6, .int 1), (0, .ref h0), (1, .int x), (2, .int y), (3, .int z), (5, .int kx)] := hl
                obtain ⟨v7, e_v7⟩ : ∃ z : Int32, z = kx + 1 := ⟨_, rfl⟩
                refine lv_iinc (v := v7) hx hb d_DiscMakerModel_next_93 hl (k := 6) rfl e_v7.symm (by decide +kernel) rfl (fun ls hl => ?_)
                have t_v7 : v7.toInt = kx.toInt + 1 := by rw [e_v7]; exact i_add rfl (by decide) (by omega) (by omega)
                have hl : lv_has ls 7 [(5, .int v7), (4, .int kx), (6, .int 1), (0, .ref h0), (1, .int x), (2, .int y), (3, .int z)] := hl
                refine lv_goto (tgt := 6) hx hb d_DiscMakerModel_next_96 (by decide) ?_
                have hP := hP.sub (ws' := [(h0, .inr (11, MO ma sv_thrown sv_length sv_nodes sv_many sv_directories sv_runsFrom sv_runs sv_read sv_wrong sv_isNamed sv_goes sv_goesSize sv_goesAt sv_targetParts sv_isRoot)), ((ma 1), .inl (cI, 40, .inl fK)), ((ma 2), .inl (cI, 40, .inl fP)), ((ma 8), .inl (cB, 1200, .inl fN)), ((ma 9), .inl (cI, 40, .inl fNS)), ((ma 12), .inl (cB, 320, .inl fBa)), ((ma 13), .inl (cI, 40, .inl fBs)), ((ma 14), .inl (cB, 120, .inl fEx)), ((ma 15), .inl (cI, 40, .inl fEs))]) [2, 0, 1, 3, 4, 5, 6, 7, 8] rfl
                have hD := hD.sub (ws' := [(h0, .inr (11, MO ma sv_thrown sv_length sv_nodes sv_many sv_directories sv_runsFrom sv_runs sv_read sv_wrong sv_isNamed sv_goes sv_goesSize sv_goesAt sv_targetParts sv_isRoot)), ((ma 1), .inl (cI, 40, .inl fK)), ((ma 2), .inl (cI, 40, .inl fP)), ((ma 8), .inl (cB, 1200, .inl fN)), ((ma 9), .inl (cI, 40, .inl fNS)), ((ma 12), .inl (cB, 320, .inl fBa)), ((ma 13), .inl (cI, 40, .inl fBs)), ((ma 14), .inl (cB, 120, .inl fEx)), ((ma 15), .inl (cI, 40, .inl fEs))]) [2, 0, 1, 3, 4, 5, 6, 7, 8] (by decide +kernel) rfl
                have hl := lv_sub hl [3, 4, 5, 6, 1, 0] rfl
                exact ih6 _ (by first | omega | (dsimp only; omega)) kx v7 _ _ _ rfl ((by (try dsimp only); first | assumption | omega | trivial)) ((by (try dsimp only); first | assumption | omega | trivial)) ((by have hkc := i_cl (a := kx) (by omega); rw [show v7.toInt = kx.toInt + 1 by omega]; have h9 := NextP_take f2 hkc (by omega) ⟨by rw [← e_v1]; omega, Or.inl (by omega)⟩ (Or.inl (by omega)) (Or.inr (hlt_5.mp (by omega))); rw [hkc] at h9; exact h9)) hP hD hS hl
          · skip
            have g46_24 : ¬ z.toInt < 0 := fun h8 => h_9 ((i_lt rfl (by decide)).mpr h8)
            refine lv_aload_n hx hb d_DiscMakerModel_next_49 rfl (lv_at hl 0 rfl) ?_
            refine lv_iload_n hx hb d_DiscMakerModel_next_50 rfl (lv_at hl 1 rfl) ?_
            refine lv_iload_n hx hb d_DiscMakerModel_next_51 rfl (lv_at hl 3 rfl) ?_
            refine lv_iload hx hb d_DiscMakerModel_next_52 (lv_at hl 5 rfl) ?_
            have hPc := hP.sub (ws' := [(h0, .inr (11, MO ma sv_thrown sv_length sv_nodes sv_many sv_directories sv_runsFrom sv_runs sv_read sv_wrong sv_isNamed sv_goes sv_goesSize sv_goesAt sv_targetParts sv_isRoot)), ((ma 8), .inl (cB, 1200, .inl fN)), ((ma 9), .inl (cI, 40, .inl fNS)), ((ma 12), .inl (cB, 320, .inl fBa)), ((ma 13), .inl (cI, 40, .inl fBs)), ((ma 14), .inl (cB, 120, .inl fEx)), ((ma 15), .inl (cI, 40, .inl fEs))]) [0, 3, 4, 5, 6, 7, 8] rfl
            have hDc := hD.sub (ws' := [(h0, .inr (11, MO ma sv_thrown sv_length sv_nodes sv_many sv_directories sv_runsFrom sv_runs sv_read sv_wrong sv_isNamed sv_goes sv_goesSize sv_goesAt sv_targetParts sv_isRoot)), ((ma 8), .inl (cB, 1200, .inl fN)), ((ma 9), .inl (cI, 40, .inl fNS)), ((ma 12), .inl (cB, 320, .inl fBa)), ((ma 13), .inl (cI, 40, .inl fBs)), ((ma 14), .inl (cB, 120, .inl fEx)), ((ma 15), .inl (cI, 40, .inl fEs))]) [0, 3, 4, 5, 6, 7, 8] (by decide +kernel) rfl
            have hFc := va_free (wc := [(h0, .inr (11, MO ma sv_thrown sv_length sv_nodes sv_many sv_directories sv_runsFrom sv_runs sv_read sv_wrong sv_isNamed sv_goes sv_goesSize sv_goesAt sv_targetParts sv_isRoot)), ((ma 8), .inl (cB, 1200, .inl fN)), ((ma 9), .inl (cI, 40, .inl fNS)), ((ma 12), .inl (cB, 320, .inl fBa)), ((ma 13), .inl (cI, 40, .inl fBs)), ((ma 14), .inl (cB, 120, .inl fEx)), ((ma 15), .inl (cI, 40, .inl fEs))]) hD hS hA [0, 3, 4, 5, 6, 7, 8] rfl
            have hkc : 0 ≤ 0 := by decide
            have hks : 0 ≤ 0 := by decide
            refine va_calli (va_runV (C := "DiscMakerModel") (As := [.int x, .int z, .int kx]) (rest := []) ⟨hx, hb, hml, hown, hts⟩ (m_order l D cB cI cJ cZ cN cF H.size h0 ma sv_thrown sv_length sv_nodes sv_many sv_directories sv_runsFrom sv_runs sv_read sv_wrong sv_isNamed sv_goes sv_goesSize sv_goesAt sv_targetParts sv_isRoot fN fNS fBa fBs fEx fEs x z kx (by (try dsimp only); first | assumption | omega | trivial) (by (try dsimp only); first | assumption | omega | trivial) (by (try dsimp only); first | assumption | omega | trivial) (by (try dsimp only); first | assumption | omega | trivial) (by (try dsimp only); first | assumption | omega | trivial) (by (try dsimp only); first | assumption | omega | trivial) (by (try dsimp only); first | assumption | omega | trivial) (by (try dsimp only); first | assumption | omega | trivial)) (cwV 3 hts (lg_goodV k1679 k1681 k67 k125 kc_DiscMakerModel_order) rfl rfl rfl (by decide +kernel) ⟨Nat.le_of_ble_eq_true rfl, Nat.le_of_ble_eq_true rfl⟩) ⟨fun a U g mk q => by obtain ⟨q0, q1, qP, qK, qN, qD⟩ := q; exact ⟨q0, q1, qP, va_K.moved (u := U) (U := U.calling g mk a) (Vm.Alike.refl U.vm) qK, qN.calling, qD⟩, va_recv hK hP (ci := 11) (q0 := 0) rfl rfl, fun U hU hW => ⟨rfl, by rw [hU], by rw [hU]; exact hPc, va_K.moved hW.alike hK, NN.warm hW hN, hDc.weaken (fun _ _ _ _ => trivial)⟩⟩ rfl rfl hl.1 rfl (lv_room (Nat.le_of_ble_eq_true rfl)) d_DiscMakerModel_next_54 ⟨hkc, hks⟩) hS (fun q _ h => hFc q h) hFc (fun r8 u t H1 locs ht hvm hp_r8 hB hz1 hk1 hS => ?_)
            obtain ⟨hP1, hD1⟩ := hB
            rw [ht] at hP1
            obtain ⟨hP, hD⟩ := va_join (wr := [((ma 1), .inl (cI, 40, .inl fK)), ((ma 2), .inl (cI, 40, .inl fP))]) (w1 := [(h0, .inr (11, MO ma sv_thrown sv_length sv_nodes sv_many sv_directories sv_runsFrom sv_runs sv_read sv_wrong sv_isNamed sv_goes sv_goesSize sv_goesAt sv_targetParts sv_isRoot)), ((ma 8), .inl (cB, 1200, .inl fN)), ((ma 9), .inl (cI, 40, .inl fNS)), ((ma 12), .inl (cB, 320, .inl fBa)), ((ma 13), .inl (cI, 40, .inl fBs)), ((ma 14), .inl (cB, 120, .inl fEx)), ((ma 15), .inl (cI, 40, .inl fEs))]) hP hD [0, 3, 4, 5, 6, 7, 8] [1, 2] rfl rfl (by decide +kernel) (by decide +kernel) hk1 hFc hP1 hD1
            clear hPc hDc hFc hP1 hD1 hk1 hz1 hkc hks
            generalize H1 = H at hP hS ⊢
            have hP : va_P D CL [((ma 1), .inl (cI, 40, .inl fK)), ((ma 2), .inl (cI, 40, .inl fP)), (h0, .inr (11, MO ma sv_thrown sv_length sv_nodes sv_many sv_directories sv_runsFrom sv_runs sv_read sv_wrong sv_isNamed sv_goes sv_goesSize sv_goesAt sv_targetParts sv_isRoot)), ((ma 8), .inl (cB, 1200, .inl fN)), ((ma 9), .inl (cI, 40, .inl fNS)), ((ma 12), .inl (cB, 320, .inl fBa)), ((ma 13), .inl (cI, 40, .inl fBs)), ((ma 14), .inl (cB, 120, .inl fEx)), ((ma 15), .inl (cI, 40, .inl fEs))] H := hP
            have hD : va_D A [((ma 1), .inl (cI, 40, .inl fK)), ((ma 2), .inl (cI, 40, .inl fP)), (h0, .inr (11, MO ma sv_thrown sv_length sv_nodes sv_many sv_directories sv_runsFrom sv_runs sv_read sv_wrong sv_isNamed sv_goes sv_goesSize sv_goesAt sv_targetParts sv_isRoot)), ((ma 8), .inl (cB, 1200, .inl fN)), ((ma 9), .inl (cI, 40, .inl fNS)), ((ma 12), .inl (cB, 320, .inl fBa)), ((ma 13), .inl (cI, 40, .inl fBs)), ((ma 14), .inl (cB, 120, .inl fEx)), ((ma 15), .inl (cI, 40, .inl fEs))] := hD
            try dsimp only at hp_r8
            have hlt_9 := hp_r8
            refine lv_if_ge (tgt := 64) hx hb d_DiscMakerModel_next_57 (by decide) (fun h_9 => ?_) (fun h_9 => ?_)
            · skip
              have g57_56 : 0 ≤ r8.toInt := (i_le (by decide) rfl).mp h_9
              refine lv_iconst (v := 0) hx hb d_DiscMakerModel_next_64 (by decide) ?_
              refine lv_istore hx hb d_DiscMakerModel_next_65 hl (by decide) rfl (fun ls hl => ?_)
              have hl : lv_has ls 7 [(6, .int 0), (0, .ref h0), (1, .int x), (2, .int y), (3, .int z), (4, .int be), (5, .int kx)] := hl
              refine lv_iload hx hb d_DiscMakerModel_next_67 (lv_at hl 0 rfl) ?_
              refine lv_if_eq (tgt := 93) hx hb d_DiscMakerModel_next_69 (by decide) (fun _ => ?_) (fun h_9 => absurd (by decide) h_9)
              obtain ⟨v10, e_v10⟩ : ∃ z : Int32, z = kx + 1 := ⟨_, rfl⟩
              refine lv_iinc (v := v10) hx hb d_DiscMakerModel_next_93 hl (k := 6) rfl e_v10.symm (by decide +kernel) rfl (fun ls hl => ?_)
              have t_v10 : v10.toInt = kx.toInt + 1 := by rw [e_v10]; exact i_add rfl (by decide) (by omega) (by omega)
              have hl : lv_has ls 7 [(5, .int v10), (6, .int 0), (0, .ref h0), (1, .int x), (2, .int y), (3, .int z), (4, .int be)] := hl
              refine lv_goto (tgt := 6) hx hb d_DiscMakerModel_next_96 (by decide) ?_
              have hP := hP.sub (ws' := [(h0, .inr (11, MO ma sv_thrown sv_length sv_nodes sv_many sv_directories sv_runsFrom sv_runs sv_read sv_wrong sv_isNamed sv_goes sv_goesSize sv_goesAt sv_targetParts sv_isRoot)), ((ma 1), .inl (cI, 40, .inl fK)), ((ma 2), .inl (cI, 40, .inl fP)), ((ma 8), .inl (cB, 1200, .inl fN)), ((ma 9), .inl (cI, 40, .inl fNS)), ((ma 12), .inl (cB, 320, .inl fBa)), ((ma 13), .inl (cI, 40, .inl fBs)), ((ma 14), .inl (cB, 120, .inl fEx)), ((ma 15), .inl (cI, 40, .inl fEs))]) [2, 0, 1, 3, 4, 5, 6, 7, 8] rfl
              have hD := hD.sub (ws' := [(h0, .inr (11, MO ma sv_thrown sv_length sv_nodes sv_many sv_directories sv_runsFrom sv_runs sv_read sv_wrong sv_isNamed sv_goes sv_goesSize sv_goesAt sv_targetParts sv_isRoot)), ((ma 1), .inl (cI, 40, .inl fK)), ((ma 2), .inl (cI, 40, .inl fP)), ((ma 8), .inl (cB, 1200, .inl fN)), ((ma 9), .inl (cI, 40, .inl fNS)), ((ma 12), .inl (cB, 320, .inl fBa)), ((ma 13), .inl (cI, 40, .inl fBs)), ((ma 14), .inl (cB, 120, .inl fEx)), ((ma 15), .inl (cI, 40, .inl fEs))]) [2, 0, 1, 3, 4, 5, 6, 7, 8] (by decide +kernel) rfl
              have hl := lv_sub hl [2, 3, 4, 5, 6, 0] rfl
              exact ih6 _ (by first | omega | (dsimp only; omega)) be v10 _ _ _ rfl ((by (try dsimp only); first | assumption | omega | trivial)) ((by (try dsimp only); first | assumption | omega | trivial)) ((by have hkc := i_cl (a := kx) (by omega); rw [show v10.toInt = kx.toInt + 1 by omega]; exact NextP_no f2 hkc (fun h => h.2.elim (fun h2 => by omega) (fun h2 => by have := hlt_9.mpr h2; omega)))) hP hD hS hl
            · skip
              have g57_56 : ¬ 0 ≤ r8.toInt := fun h8 => h_9 ((i_le (by decide) rfl).mpr h8)
              refine lv_iconst (v := 1) hx hb d_DiscMakerModel_next_60 (by decide) ?_
              refine lv_goto (tgt := 65) hx hb d_DiscMakerModel_next_61 (by decide) ?_
              refine lv_istore hx hb d_DiscMakerModel_next_65 hl (by decide) rfl (fun ls hl => ?_)
              have hl : lv_has ls 7 [(6, .int 1), (0, .ref h0), (1, .int x), (2, .int y), (3, .int z), (4, .int be), (5, .int kx)] := hl
              refine lv_iload hx hb d_DiscMakerModel_next_67 (lv_at hl 0 rfl) ?_
              refine lv_if_eq (tgt := 93) hx hb d_DiscMakerModel_next_69 (by decide) (fun h_9 => absurd h_9 (by decide)) (fun _ => ?_)
              refine lv_iload hx hb d_DiscMakerModel_next_72 (lv_at hl 5 rfl) ?_
              refine lv_if_lt (tgt := 89) hx hb d_DiscMakerModel_next_74 (by decide) (fun h_9 => ?_) (fun h_9 => ?_)
              · skip
                have g74_70 : be.toInt < 0 := (i_lt rfl (by decide)).mp h_9
                refine lv_iload hx hb d_DiscMakerModel_next_89 (lv_at hl 6 rfl) ?_
                refine lv_istore hx hb d_DiscMakerModel_next_91 hl (by decide) rfl (fun ls hl => ?_)
                have hl : lv_has ls 7 [(4, .int kx), (6, .int 1), (0, .ref h0), (1, .int x), (2, .int y), (3, .int z), (5, .int kx)] := hl
                obtain ⟨v11, e_v11⟩ : ∃ z : Int32, z = kx + 1 := ⟨_, rfl⟩
                refine lv_iinc (v := v11) hx hb d_DiscMakerModel_next_93 hl (k := 6) rfl e_v11.symm (by decide +kernel) rfl (fun ls hl => ?_)
                have t_v11 : v11.toInt = kx.toInt + 1 := by rw [e_v11]; exact i_add rfl (by decide) (by omega) (by omega)
                have hl : lv_has ls 7 [(5, .int v11), (4, .int kx), (6, .int 1), (0, .ref h0), (1, .int x), (2, .int y), (3, .int z)] := hl
                refine lv_goto (tgt := 6) hx hb d_DiscMakerModel_next_96 (by decide) ?_
                have hP := hP.sub (ws' := [(h0, .inr (11, MO ma sv_thrown sv_length sv_nodes sv_many sv_directories sv_runsFrom sv_runs sv_read sv_wrong sv_isNamed sv_goes sv_goesSize sv_goesAt sv_targetParts sv_isRoot)), ((ma 1), .inl (cI, 40, .inl fK)), ((ma 2), .inl (cI, 40, .inl fP)), ((ma 8), .inl (cB, 1200, .inl fN)), ((ma 9), .inl (cI, 40, .inl fNS)), ((ma 12), .inl (cB, 320, .inl fBa)), ((ma 13), .inl (cI, 40, .inl fBs)), ((ma 14), .inl (cB, 120, .inl fEx)), ((ma 15), .inl (cI, 40, .inl fEs))]) [2, 0, 1, 3, 4, 5, 6, 7, 8] rfl
                have hD := hD.sub (ws' := [(h0, .inr (11, MO ma sv_thrown sv_length sv_nodes sv_many sv_directories sv_runsFrom sv_runs sv_read sv_wrong sv_isNamed sv_goes sv_goesSize sv_goesAt sv_targetParts sv_isRoot)), ((ma 1), .inl (cI, 40, .inl fK)), ((ma 2), .inl (cI, 40, .inl fP)), ((ma 8), .inl (cB, 1200, .inl fN)), ((ma 9), .inl (cI, 40, .inl fNS)), ((ma 12), .inl (cB, 320, .inl fBa)), ((ma 13), .inl (cI, 40, .inl fBs)), ((ma 14), .inl (cB, 120, .inl fEx)), ((ma 15), .inl (cI, 40, .inl fEs))]) [2, 0, 1, 3, 4, 5, 6, 7, 8] (by decide +kernel) rfl
                have hl := lv_sub hl [3, 4, 5, 6, 1, 0] rfl
                exact ih6 _ (by first | omega | (dsimp only; omega)) kx v11 _ _ _ rfl ((by (try dsimp only); first | assumption | omega | trivial)) ((by (try dsimp only); first | assumption | omega | trivial)) ((by have hkc := i_cl (a := kx) (by omega); rw [show v11.toInt = kx.toInt + 1 by omega]; have h9 := NextP_take f2 hkc (by omega) ⟨by rw [← e_v1]; omega, Or.inl (by omega)⟩ (Or.inr (hlt_9.mp (by omega))) (Or.inl (by omega)); rw [hkc] at h9; exact h9)) hP hD hS hl
              · skip
                have g74_70 : ¬ be.toInt < 0 := fun h8 => h_9 ((i_lt rfl (by decide)).mpr h8)
                refine lv_aload_n hx hb d_DiscMakerModel_next_77 rfl (lv_at hl 1 rfl) ?_
                refine lv_iload_n hx hb d_DiscMakerModel_next_78 rfl (lv_at hl 2 rfl) ?_
                refine lv_iload hx hb d_DiscMakerModel_next_79 (lv_at hl 6 rfl) ?_
                refine lv_iload hx hb d_DiscMakerModel_next_81 (lv_at hl 5 rfl) ?_
                have hPc := hP.sub (ws' := [(h0, .inr (11, MO ma sv_thrown sv_length sv_nodes sv_many sv_directories sv_runsFrom sv_runs sv_read sv_wrong sv_isNamed sv_goes sv_goesSize sv_goesAt sv_targetParts sv_isRoot)), ((ma 8), .inl (cB, 1200, .inl fN)), ((ma 9), .inl (cI, 40, .inl fNS)), ((ma 12), .inl (cB, 320, .inl fBa)), ((ma 13), .inl (cI, 40, .inl fBs)), ((ma 14), .inl (cB, 120, .inl fEx)), ((ma 15), .inl (cI, 40, .inl fEs))]) [2, 3, 4, 5, 6, 7, 8] rfl
                have hDc := hD.sub (ws' := [(h0, .inr (11, MO ma sv_thrown sv_length sv_nodes sv_many sv_directories sv_runsFrom sv_runs sv_read sv_wrong sv_isNamed sv_goes sv_goesSize sv_goesAt sv_targetParts sv_isRoot)), ((ma 8), .inl (cB, 1200, .inl fN)), ((ma 9), .inl (cI, 40, .inl fNS)), ((ma 12), .inl (cB, 320, .inl fBa)), ((ma 13), .inl (cI, 40, .inl fBs)), ((ma 14), .inl (cB, 120, .inl fEx)), ((ma 15), .inl (cI, 40, .inl fEs))]) [2, 3, 4, 5, 6, 7, 8] (by decide +kernel) rfl
                have hFc := va_free (wc := [(h0, .inr (11, MO ma sv_thrown sv_length sv_nodes sv_many sv_directories sv_runsFrom sv_runs sv_read sv_wrong sv_isNamed sv_goes sv_goesSize sv_goesAt sv_targetParts sv_isRoot)), ((ma 8), .inl (cB, 1200, .inl fN)), ((ma 9), .inl (cI, 40, .inl fNS)), ((ma 12), .inl (cB, 320, .inl fBa)), ((ma 13), .inl (cI, 40, .inl fBs)), ((ma 14), .inl (cB, 120, .inl fEx)), ((ma 15), .inl (cI, 40, .inl fEs))]) hD hS hA [2, 3, 4, 5, 6, 7, 8] rfl
                have hkc : 0 ≤ 0 := by decide
                have hks : 0 ≤ 0 := by decide
                refine va_calli (va_runV (C := "DiscMakerModel") (As := [.int x, .int kx, .int be]) (rest := []) ⟨hx, hb, hml, hown, hts⟩ (m_order l D cB cI cJ cZ cN cF H.size h0 ma sv_thrown sv_length sv_nodes sv_many sv_directories sv_runsFrom sv_runs sv_read sv_wrong sv_isNamed sv_goes sv_goesSize sv_goesAt sv_targetParts sv_isRoot fN fNS fBa fBs fEx fEs x kx be (by (try dsimp only); first | assumption | omega | trivial) (by (try dsimp only); first | assumption | omega | trivial) (by (try dsimp only); first | assumption | omega | trivial) (by (try dsimp only); first | assumption | omega | trivial) (by (try dsimp only); first | assumption | omega | trivial) (by (try dsimp only); first | assumption | omega | trivial) (by (try dsimp only); first | assumption | omega | trivial) (by (try dsimp only); first | assumption | omega | trivial)) (cwV 3 hts (lg_goodV k1679 k1681 k67 k125 kc_DiscMakerModel_order) rfl rfl rfl (by decide +kernel) ⟨Nat.le_of_ble_eq_true rfl, Nat.le_of_ble_eq_true rfl⟩) ⟨fun a U g mk q => by obtain ⟨q0, q1, qP, qK, qN, qD⟩ := q; exact ⟨q0, q1, qP, va_K.moved (u := U) (U := U.calling g mk a) (Vm.Alike.refl U.vm) qK, qN.calling, qD⟩, va_recv hK hP (ci := 11) (q0 := 2) rfl rfl, fun U hU hW => ⟨rfl, by rw [hU], by rw [hU]; exact hPc, va_K.moved hW.alike hK, NN.warm hW hN, hDc.weaken (fun _ _ _ _ => trivial)⟩⟩ rfl rfl hl.1 rfl (lv_room (Nat.le_of_ble_eq_true rfl)) d_DiscMakerModel_next_83 ⟨hkc, hks⟩) hS (fun q _ h => hFc q h) hFc (fun r12 u t H1 locs ht hvm hp_r12 hB hz1 hk1 hS => ?_)
                obtain ⟨hP1, hD1⟩ := hB
                rw [ht] at hP1
                obtain ⟨hP, hD⟩ := va_join (wr := [((ma 1), .inl (cI, 40, .inl fK)), ((ma 2), .inl (cI, 40, .inl fP))]) (w1 := [(h0, .inr (11, MO ma sv_thrown sv_length sv_nodes sv_many sv_directories sv_runsFrom sv_runs sv_read sv_wrong sv_isNamed sv_goes sv_goesSize sv_goesAt sv_targetParts sv_isRoot)), ((ma 8), .inl (cB, 1200, .inl fN)), ((ma 9), .inl (cI, 40, .inl fNS)), ((ma 12), .inl (cB, 320, .inl fBa)), ((ma 13), .inl (cI, 40, .inl fBs)), ((ma 14), .inl (cB, 120, .inl fEx)), ((ma 15), .inl (cI, 40, .inl fEs))]) hP hD [2, 3, 4, 5, 6, 7, 8] [0, 1] rfl rfl (by decide +kernel) (by decide +kernel) hk1 hFc hP1 hD1
                clear hPc hDc hFc hP1 hD1 hk1 hz1 hkc hks
                generalize H1 = H at hP hS ⊢
                have hP : va_P D CL [((ma 1), .inl (cI, 40, .inl fK)), ((ma 2), .inl (cI, 40, .inl fP)), (h0, .inr (11, MO ma sv_thrown sv_length sv_nodes sv_many sv_directories sv_runsFrom sv_runs sv_read sv_wrong sv_isNamed sv_goes sv_goesSize sv_goesAt sv_targetParts sv_isRoot)), ((ma 8), .inl (cB, 1200, .inl fN)), ((ma 9), .inl (cI, 40, .inl fNS)), ((ma 12), .inl (cB, 320, .inl fBa)), ((ma 13), .inl (cI, 40, .inl fBs)), ((ma 14), .inl (cB, 120, .inl fEx)), ((ma 15), .inl (cI, 40, .inl fEs))] H := hP
                have hD : va_D A [((ma 1), .inl (cI, 40, .inl fK)), ((ma 2), .inl (cI, 40, .inl fP)), (h0, .inr (11, MO ma sv_thrown sv_length sv_nodes sv_many sv_directories sv_runsFrom sv_runs sv_read sv_wrong sv_isNamed sv_goes sv_goesSize sv_goesAt sv_targetParts sv_isRoot)), ((ma 8), .inl (cB, 1200, .inl fN)), ((ma 9), .inl (cI, 40, .inl fNS)), ((ma 12), .inl (cB, 320, .inl fBa)), ((ma 13), .inl (cI, 40, .inl fBs)), ((ma 14), .inl (cB, 120, .inl fEx)), ((ma 15), .inl (cI, 40, .inl fEs))] := hD
                try dsimp only at hp_r12
                have hlt_13 := hp_r12
                refine lv_if_ge (tgt := 93) hx hb d_DiscMakerModel_next_86 (by decide) (fun h_9 => ?_) (fun h_9 => ?_)
                · skip
                  have g86_81 : 0 ≤ r12.toInt := (i_le (by decide) rfl).mp h_9
                  obtain ⟨v14, e_v14⟩ : ∃ z : Int32, z = kx + 1 := ⟨_, rfl⟩
                  refine lv_iinc (v := v14) hx hb d_DiscMakerModel_next_93 hl (k := 6) rfl e_v14.symm (by decide +kernel) rfl (fun ls hl => ?_)
                  have t_v14 : v14.toInt = kx.toInt + 1 := by rw [e_v14]; exact i_add rfl (by decide) (by omega) (by omega)
                  have hl : lv_has ls 7 [(5, .int v14), (6, .int 1), (0, .ref h0), (1, .int x), (2, .int y), (3, .int z), (4, .int be)] := hl
                  refine lv_goto (tgt := 6) hx hb d_DiscMakerModel_next_96 (by decide) ?_
                  have hP := hP.sub (ws' := [(h0, .inr (11, MO ma sv_thrown sv_length sv_nodes sv_many sv_directories sv_runsFrom sv_runs sv_read sv_wrong sv_isNamed sv_goes sv_goesSize sv_goesAt sv_targetParts sv_isRoot)), ((ma 1), .inl (cI, 40, .inl fK)), ((ma 2), .inl (cI, 40, .inl fP)), ((ma 8), .inl (cB, 1200, .inl fN)), ((ma 9), .inl (cI, 40, .inl fNS)), ((ma 12), .inl (cB, 320, .inl fBa)), ((ma 13), .inl (cI, 40, .inl fBs)), ((ma 14), .inl (cB, 120, .inl fEx)), ((ma 15), .inl (cI, 40, .inl fEs))]) [2, 0, 1, 3, 4, 5, 6, 7, 8] rfl
                  have hD := hD.sub (ws' := [(h0, .inr (11, MO ma sv_thrown sv_length sv_nodes sv_many sv_directories sv_runsFrom sv_runs sv_read sv_wrong sv_isNamed sv_goes sv_goesSize sv_goesAt sv_targetParts sv_isRoot)), ((ma 1), .inl (cI, 40, .inl fK)), ((ma 2), .inl (cI, 40, .inl fP)), ((ma 8), .inl (cB, 1200, .inl fN)), ((ma 9), .inl (cI, 40, .inl fNS)), ((ma 12), .inl (cB, 320, .inl fBa)), ((ma 13), .inl (cI, 40, .inl fBs)), ((ma 14), .inl (cB, 120, .inl fEx)), ((ma 15), .inl (cI, 40, .inl fEs))]) [2, 0, 1, 3, 4, 5, 6, 7, 8] (by decide +kernel) rfl
                  have hl := lv_sub hl [2, 3, 4, 5, 6, 0] rfl
                  exact ih6 _ (by first | omega | (dsimp only; omega)) be v14 _ _ _ rfl ((by (try dsimp only); first | assumption | omega | trivial)) ((by (try dsimp only); first | assumption | omega | trivial)) ((by have hkc := i_cl (a := kx) (by omega); rw [show v14.toInt = kx.toInt + 1 by omega]; exact NextP_keep f2 hkc (by omega) (fun h => by have := hlt_13.mpr h; omega))) hP hD hS hl
                · skip
                  have g86_81 : ¬ 0 ≤ r12.toInt := fun h8 => h_9 ((i_le (by decide) rfl).mpr h8)
                  refine lv_iload hx hb d_DiscMakerModel_next_89 (lv_at hl 6 rfl) ?_
                  refine lv_istore hx hb d_DiscMakerModel_next_91 hl (by decide) rfl (fun ls hl => ?_)
                  have hl : lv_has ls 7 [(4, .int kx), (6, .int 1), (0, .ref h0), (1, .int x), (2, .int y), (3, .int z), (5, .int kx)] := hl
                  obtain ⟨v15, e_v15⟩ : ∃ z : Int32, z = kx + 1 := ⟨_, rfl⟩
                  refine lv_iinc (v := v15) hx hb d_DiscMakerModel_next_93 hl (k := 6) rfl e_v15.symm (by decide +kernel) rfl (fun ls hl => ?_)
                  have t_v15 : v15.toInt = kx.toInt + 1 := by rw [e_v15]; exact i_add rfl (by decide) (by omega) (by omega)
                  have hl : lv_has ls 7 [(5, .int v15), (4, .int kx), (6, .int 1), (0, .ref h0), (1, .int x), (2, .int y), (3, .int z)] := hl
                  refine lv_goto (tgt := 6) hx hb d_DiscMakerModel_next_96 (by decide) ?_
                  have hP := hP.sub (ws' := [(h0, .inr (11, MO ma sv_thrown sv_length sv_nodes sv_many sv_directories sv_runsFrom sv_runs sv_read sv_wrong sv_isNamed sv_goes sv_goesSize sv_goesAt sv_targetParts sv_isRoot)), ((ma 1), .inl (cI, 40, .inl fK)), ((ma 2), .inl (cI, 40, .inl fP)), ((ma 8), .inl (cB, 1200, .inl fN)), ((ma 9), .inl (cI, 40, .inl fNS)), ((ma 12), .inl (cB, 320, .inl fBa)), ((ma 13), .inl (cI, 40, .inl fBs)), ((ma 14), .inl (cB, 120, .inl fEx)), ((ma 15), .inl (cI, 40, .inl fEs))]) [2, 0, 1, 3, 4, 5, 6, 7, 8] rfl
                  have hD := hD.sub (ws' := [(h0, .inr (11, MO ma sv_thrown sv_length sv_nodes sv_many sv_directories sv_runsFrom sv_runs sv_read sv_wrong sv_isNamed sv_goes sv_goesSize sv_goesAt sv_targetParts sv_isRoot)), ((ma 1), .inl (cI, 40, .inl fK)), ((ma 2), .inl (cI, 40, .inl fP)), ((ma 8), .inl (cB, 1200, .inl fN)), ((ma 9), .inl (cI, 40, .inl fNS)), ((ma 12), .inl (cB, 320, .inl fBa)), ((ma 13), .inl (cI, 40, .inl fBs)), ((ma 14), .inl (cB, 120, .inl fEx)), ((ma 15), .inl (cI, 40, .inl fEs))]) [2, 0, 1, 3, 4, 5, 6, 7, 8] (by decide +kernel) rfl
                  have hl := lv_sub hl [3, 4, 5, 6, 1, 0] rfl
                  exact ih6 _ (by first | omega | (dsimp only; omega)) kx v15 _ _ _ rfl ((by (try dsimp only); first | assumption | omega | trivial)) ((by (try dsimp only); first | assumption | omega | trivial)) ((by have hkc := i_cl (a := kx) (by omega); rw [show v15.toInt = kx.toInt + 1 by omega]; have h9 := NextP_take f2 hkc (by omega) ⟨by rw [← e_v1]; omega, Or.inl (by omega)⟩ (Or.inr (hlt_9.mp (by omega))) (Or.inr (hlt_13.mp (by omega))); rw [hkc] at h9; exact h9)) hP hD hS hl
        · skip
          have g28_22 : x.toInt = 1 := (i_eq rfl (by decide)).mp h_9
          refine lv_aload_n hx hb d_DiscMakerModel_next_31 rfl (lv_at hl 0 rfl) ?_
          refine va_get (D := D) (ci := 11) (v := .ref (ma 1)) (C := "DiscMakerModel") (T := F_DiscMakerModel) (N := 48) hx hb ht9 in_DiscMakerModel hown hK hP 0 rfl rfl 4 (by decide) (ht9 _ k1435) (fun _ h9 => h9) rfl d_DiscMakerModel_next_32 ?_
          refine lv_iload hx hb d_DiscMakerModel_next_35 (lv_at hl 5 rfl) ?_
          refine va_iald hx hb hK hP 1 1 rfl rfl (vp_in_iff.mpr ⟨by omega, by omega⟩) d_DiscMakerModel_next_37 ?_
          refine lv_topi (fun v16 e_v16 => ?_)
          refine lv_iconst (v := 2) hx hb d_DiscMakerModel_next_38 (by decide) ?_
          refine lv_icmp_ne (tgt := 45) hx hb d_DiscMakerModel_next_39 (by decide) (fun h_9 => ?_) (fun h_9 => ?_)
          · skip
            have g39_95 : ¬ v16.toInt = 2 := fun h8 => h_9 ((i_eq rfl (by decide)).mpr h8)
            refine lv_iload_n hx hb d_DiscMakerModel_next_45 rfl (lv_at hl 3 rfl) ?_
            refine lv_if_lt (tgt := 60) hx hb d_DiscMakerModel_next_46 (by decide) (fun h_9 => ?_) (fun h_9 => ?_)
            · skip
              have g46_97 : z.toInt < 0 := (i_lt rfl (by decide)).mp h_9
              refine lv_iconst (v := 1) hx hb d_DiscMakerModel_next_60 (by decide) ?_
              refine lv_goto (tgt := 65) hx hb d_DiscMakerModel_next_61 (by decide) ?_
              refine lv_istore hx hb d_DiscMakerModel_next_65 hl (by decide) rfl (fun ls hl => ?_)
              have hl : lv_has ls 7 [(6, .int 1), (0, .ref h0), (1, .int x), (2, .int y), (3, .int z), (4, .int be), (5, .int kx)] := hl
              refine lv_iload hx hb d_DiscMakerModel_next_67 (lv_at hl 0 rfl) ?_
              refine lv_if_eq (tgt := 93) hx hb d_DiscMakerModel_next_69 (by decide) (fun h_9 => absurd h_9 (by decide)) (fun _ => ?_)
              refine lv_iload hx hb d_DiscMakerModel_next_72 (lv_at hl 5 rfl) ?_
              refine lv_if_lt (tgt := 89) hx hb d_DiscMakerModel_next_74 (by decide) (fun h_9 => ?_) (fun h_9 => ?_)
              · skip
                have g74_104 : be.toInt < 0 := (i_lt rfl (by decide)).mp h_9
                refine lv_iload hx hb d_DiscMakerModel_next_89 (lv_at hl 6 rfl) ?_
                refine lv_istore hx hb d_DiscMakerModel_next_91 hl (by decide) rfl (fun ls hl => ?_)
                have hl : lv_has ls 7 [(4, .int kx), (6, .int 1), (0, .ref h0), (1, .int x), (2, .int y), (3, .int z), (5, .int kx)] := hl
                obtain ⟨v17, e_v17⟩ : ∃ z : Int32, z = kx + 1 := ⟨_, rfl⟩
                refine lv_iinc (v := v17) hx hb d_DiscMakerModel_next_93 hl (k := 6) rfl e_v17.symm (by decide +kernel) rfl (fun ls hl => ?_)
                have t_v17 : v17.toInt = kx.toInt + 1 := by rw [e_v17]; exact i_add rfl (by decide) (by omega) (by omega)
                have hl : lv_has ls 7 [(5, .int v17), (4, .int kx), (6, .int 1), (0, .ref h0), (1, .int x), (2, .int y), (3, .int z)] := hl
                refine lv_goto (tgt := 6) hx hb d_DiscMakerModel_next_96 (by decide) ?_
                have hP := hP.sub (ws' := [(h0, .inr (11, MO ma sv_thrown sv_length sv_nodes sv_many sv_directories sv_runsFrom sv_runs sv_read sv_wrong sv_isNamed sv_goes sv_goesSize sv_goesAt sv_targetParts sv_isRoot)), ((ma 1), .inl (cI, 40, .inl fK)), ((ma 2), .inl (cI, 40, .inl fP)), ((ma 8), .inl (cB, 1200, .inl fN)), ((ma 9), .inl (cI, 40, .inl fNS)), ((ma 12), .inl (cB, 320, .inl fBa)), ((ma 13), .inl (cI, 40, .inl fBs)), ((ma 14), .inl (cB, 120, .inl fEx)), ((ma 15), .inl (cI, 40, .inl fEs))]) [0, 1, 2, 3, 4, 5, 6, 7, 8] rfl
                have hD := hD.sub (ws' := [(h0, .inr (11, MO ma sv_thrown sv_length sv_nodes sv_many sv_directories sv_runsFrom sv_runs sv_read sv_wrong sv_isNamed sv_goes sv_goesSize sv_goesAt sv_targetParts sv_isRoot)), ((ma 1), .inl (cI, 40, .inl fK)), ((ma 2), .inl (cI, 40, .inl fP)), ((ma 8), .inl (cB, 1200, .inl fN)), ((ma 9), .inl (cI, 40, .inl fNS)), ((ma 12), .inl (cB, 320, .inl fBa)), ((ma 13), .inl (cI, 40, .inl fBs)), ((ma 14), .inl (cB, 120, .inl fEx)), ((ma 15), .inl (cI, 40, .inl fEs))]) [0, 1, 2, 3, 4, 5, 6, 7, 8] (by decide +kernel) rfl
                have hl := lv_sub hl [3, 4, 5, 6, 1, 0] rfl
                exact ih6 _ (by first | omega | (dsimp only; omega)) kx v17 _ _ _ rfl ((by (try dsimp only); first | assumption | omega | trivial)) ((by (try dsimp only); first | assumption | omega | trivial)) ((by have hkc := i_cl (a := kx) (by omega); rw [show v17.toInt = kx.toInt + 1 by omega]; have h9 := NextP_take f2 hkc (by omega) ⟨by rw [← e_v1]; omega, Or.inr (by rw [← e_v16]; omega)⟩ (Or.inl (by omega)) (Or.inl (by omega)); rw [hkc] at h9; exact h9)) hP hD hS hl
              · skip
                have g74_104 : ¬ be.toInt < 0 := fun h8 => h_9 ((i_lt rfl (by decide)).mpr h8)
                refine lv_aload_n hx hb d_DiscMakerModel_next_77 rfl (lv_at hl 1 rfl) ?_
                refine lv_iload_n hx hb d_DiscMakerModel_next_78 rfl (lv_at hl 2 rfl) ?_
                refine lv_iload hx hb d_DiscMakerModel_next_79 (lv_at hl 6 rfl) ?_
                refine lv_iload hx hb d_DiscMakerModel_next_81 (lv_at hl 5 rfl) ?_
                have hPc := hP.sub (ws' := [(h0, .inr (11, MO ma sv_thrown sv_length sv_nodes sv_many sv_directories sv_runsFrom sv_runs sv_read sv_wrong sv_isNamed sv_goes sv_goesSize sv_goesAt sv_targetParts sv_isRoot)), ((ma 8), .inl (cB, 1200, .inl fN)), ((ma 9), .inl (cI, 40, .inl fNS)), ((ma 12), .inl (cB, 320, .inl fBa)), ((ma 13), .inl (cI, 40, .inl fBs)), ((ma 14), .inl (cB, 120, .inl fEx)), ((ma 15), .inl (cI, 40, .inl fEs))]) [0, 3, 4, 5, 6, 7, 8] rfl
                have hDc := hD.sub (ws' := [(h0, .inr (11, MO ma sv_thrown sv_length sv_nodes sv_many sv_directories sv_runsFrom sv_runs sv_read sv_wrong sv_isNamed sv_goes sv_goesSize sv_goesAt sv_targetParts sv_isRoot)), ((ma 8), .inl (cB, 1200, .inl fN)), ((ma 9), .inl (cI, 40, .inl fNS)), ((ma 12), .inl (cB, 320, .inl fBa)), ((ma 13), .inl (cI, 40, .inl fBs)), ((ma 14), .inl (cB, 120, .inl fEx)), ((ma 15), .inl (cI, 40, .inl fEs))]) [0, 3, 4, 5, 6, 7, 8] (by decide +kernel) rfl
                have hFc := va_free (wc := [(h0, .inr (11, MO ma sv_thrown sv_length sv_nodes sv_many sv_directories sv_runsFrom sv_runs sv_read sv_wrong sv_isNamed sv_goes sv_goesSize sv_goesAt sv_targetParts sv_isRoot)), ((ma 8), .inl (cB, 1200, .inl fN)), ((ma 9), .inl (cI, 40, .inl fNS)), ((ma 12), .inl (cB, 320, .inl fBa)), ((ma 13), .inl (cI, 40, .inl fBs)), ((ma 14), .inl (cB, 120, .inl fEx)), ((ma 15), .inl (cI, 40, .inl fEs))]) hD hS hA [0, 3, 4, 5, 6, 7, 8] rfl
                have hkc : 0 ≤ 0 := by decide
                have hks : 0 ≤ 0 := by decide
                refine va_calli (va_runV (C := "DiscMakerModel") (As := [.int x, .int kx, .int be]) (rest := []) ⟨hx, hb, hml, hown, hts⟩ (m_order l D cB cI cJ cZ cN cF H.size h0 ma sv_thrown sv_length sv_nodes sv_many sv_directories sv_runsFrom sv_runs sv_read sv_wrong sv_isNamed sv_goes sv_goesSize sv_goesAt sv_targetParts sv_isRoot fN fNS fBa fBs fEx fEs x kx be (by (try dsimp only); first | assumption | omega | trivial) (by (try dsimp only); first | assumption | omega | trivial) (by (try dsimp only); first | assumption | omega | trivial) (by (try dsimp only); first | assumption | omega | trivial) (by (try dsimp only); first | assumption | omega | trivial) (by (try dsimp only); first | assumption | omega | trivial) (by (try dsimp only); first | assumption | omega | trivial) (by (try dsimp only); first | assumption | omega | trivial)) (cwV 3 hts (lg_goodV k1679 k1681 k67 k125 kc_DiscMakerModel_order) rfl rfl rfl (by decide +kernel) ⟨Nat.le_of_ble_eq_true rfl, Nat.le_of_ble_eq_true rfl⟩) ⟨fun a U g mk q => by obtain ⟨q0, q1, qP, qK, qN, qD⟩ := q; exact ⟨q0, q1, qP, va_K.moved (u := U) (U := U.calling g mk a) (Vm.Alike.refl U.vm) qK, qN.calling, qD⟩, va_recv hK hP (ci := 11) (q0 := 0) rfl rfl, fun U hU hW => ⟨rfl, by rw [hU], by rw [hU]; exact hPc, va_K.moved hW.alike hK, NN.warm hW hN, hDc.weaken (fun _ _ _ _ => trivial)⟩⟩ rfl rfl hl.1 rfl (lv_room (Nat.le_of_ble_eq_true rfl)) d_DiscMakerModel_next_83 ⟨hkc, hks⟩) hS (fun q _ h => hFc q h) hFc (fun r18 u t H1 locs ht hvm hp_r18 hB hz1 hk1 hS => ?_)
                obtain ⟨hP1, hD1⟩ := hB
                rw [ht] at hP1
                obtain ⟨hP, hD⟩ := va_join (wr := [((ma 1), .inl (cI, 40, .inl fK)), ((ma 2), .inl (cI, 40, .inl fP))]) (w1 := [(h0, .inr (11, MO ma sv_thrown sv_length sv_nodes sv_many sv_directories sv_runsFrom sv_runs sv_read sv_wrong sv_isNamed sv_goes sv_goesSize sv_goesAt sv_targetParts sv_isRoot)), ((ma 8), .inl (cB, 1200, .inl fN)), ((ma 9), .inl (cI, 40, .inl fNS)), ((ma 12), .inl (cB, 320, .inl fBa)), ((ma 13), .inl (cI, 40, .inl fBs)), ((ma 14), .inl (cB, 120, .inl fEx)), ((ma 15), .inl (cI, 40, .inl fEs))]) hP hD [0, 3, 4, 5, 6, 7, 8] [1, 2] rfl rfl (by decide +kernel) (by decide +kernel) hk1 hFc hP1 hD1
                clear hPc hDc hFc hP1 hD1 hk1 hz1 hkc hks
                generalize H1 = H at hP hS ⊢
                have hP : va_P D CL [((ma 1), .inl (cI, 40, .inl fK)), ((ma 2), .inl (cI, 40, .inl fP)), (h0, .inr (11, MO ma sv_thrown sv_length sv_nodes sv_many sv_directories sv_runsFrom sv_runs sv_read sv_wrong sv_isNamed sv_goes sv_goesSize sv_goesAt sv_targetParts sv_isRoot)), ((ma 8), .inl (cB, 1200, .inl fN)), ((ma 9), .inl (cI, 40, .inl fNS)), ((ma 12), .inl (cB, 320, .inl fBa)), ((ma 13), .inl (cI, 40, .inl fBs)), ((ma 14), .inl (cB, 120, .inl fEx)), ((ma 15), .inl (cI, 40, .inl fEs))] H := hP
                have hD : va_D A [((ma 1), .inl (cI, 40, .inl fK)), ((ma 2), .inl (cI, 40, .inl fP)), (h0, .inr (11, MO ma sv_thrown sv_length sv_nodes sv_many sv_directories sv_runsFrom sv_runs sv_read sv_wrong sv_isNamed sv_goes sv_goesSize sv_goesAt sv_targetParts sv_isRoot)), ((ma 8), .inl (cB, 1200, .inl fN)), ((ma 9), .inl (cI, 40, .inl fNS)), ((ma 12), .inl (cB, 320, .inl fBa)), ((ma 13), .inl (cI, 40, .inl fBs)), ((ma 14), .inl (cB, 120, .inl fEx)), ((ma 15), .inl (cI, 40, .inl fEs))] := hD
                try dsimp only at hp_r18
                have hlt_19 := hp_r18
                refine lv_if_ge (tgt := 93) hx hb d_DiscMakerModel_next_86 (by decide) (fun h_9 => ?_) (fun h_9 => ?_)
                · skip
                  have g86_115 : 0 ≤ r18.toInt := (i_le (by decide) rfl).mp h_9
                  obtain ⟨v20, e_v20⟩ : ∃ z : Int32, z = kx + 1 := ⟨_, rfl⟩
                  refine lv_iinc (v := v20) hx hb d_DiscMakerModel_next_93 hl (k := 6) rfl e_v20.symm (by decide +kernel) rfl (fun ls hl => ?_)
                  have t_v20 : v20.toInt = kx.toInt + 1 := by rw [e_v20]; exact i_add rfl (by decide) (by omega) (by omega)
                  have hl : lv_has ls 7 [(5, .int v20), (6, .int 1), (0, .ref h0), (1, .int x), (2, .int y), (3, .int z), (4, .int be)] := hl
                  refine lv_goto (tgt := 6) hx hb d_DiscMakerModel_next_96 (by decide) ?_
                  have hP := hP.sub (ws' := [(h0, .inr (11, MO ma sv_thrown sv_length sv_nodes sv_many sv_directories sv_runsFrom sv_runs sv_read sv_wrong sv_isNamed sv_goes sv_goesSize sv_goesAt sv_targetParts sv_isRoot)), ((ma 1), .inl (cI, 40, .inl fK)), ((ma 2), .inl (cI, 40, .inl fP)), ((ma 8), .inl (cB, 1200, .inl fN)), ((ma 9), .inl (cI, 40, .inl fNS)), ((ma 12), .inl (cB, 320, .inl fBa)), ((ma 13), .inl (cI, 40, .inl fBs)), ((ma 14), .inl (cB, 120, .inl fEx)), ((ma 15), .inl (cI, 40, .inl fEs))]) [2, 0, 1, 3, 4, 5, 6, 7, 8] rfl
                  have hD := hD.sub (ws' := [(h0, .inr (11, MO ma sv_thrown sv_length sv_nodes sv_many sv_directories sv_runsFrom sv_runs sv_read sv_wrong sv_isNamed sv_goes sv_goesSize sv_goesAt sv_targetParts sv_isRoot)), ((ma 1), .inl (cI, 40, .inl fK)), ((ma 2), .inl (cI, 40, .inl fP)), ((ma 8), .inl (cB, 1200, .inl fN)), ((ma 9), .inl (cI, 40, .inl fNS)), ((ma 12), .inl (cB, 320, .inl fBa)), ((ma 13), .inl (cI, 40, .inl fBs)), ((ma 14), .inl (cB, 120, .inl fEx)), ((ma 15), .inl (cI, 40, .inl fEs))]) [2, 0, 1, 3, 4, 5, 6, 7, 8] (by decide +kernel) rfl
                  have hl := lv_sub hl [2, 3, 4, 5, 6, 0] rfl
                  exact ih6 _ (by first | omega | (dsimp only; omega)) be v20 _ _ _ rfl ((by (try dsimp only); first | assumption | omega | trivial)) ((by (try dsimp only); first | assumption | omega | trivial)) ((by have hkc := i_cl (a := kx) (by omega); rw [show v20.toInt = kx.toInt + 1 by omega]; exact NextP_keep f2 hkc (by omega) (fun h => by have := hlt_19.mpr h; omega))) hP hD hS hl
                · skip
                  have g86_115 : ¬ 0 ≤ r18.toInt := fun h8 => h_9 ((i_le (by decide) rfl).mpr h8)
                  refine lv_iload hx hb d_DiscMakerModel_next_89 (lv_at hl 6 rfl) ?_
                  refine lv_istore hx hb d_DiscMakerModel_next_91 hl (by decide) rfl (fun ls hl => ?_)
                  have hl : lv_has ls 7 [(4, .int kx), (6, .int 1), (0, .ref h0), (1, .int x), (2, .int y), (3, .int z), (5, .int kx)] := hl
                  obtain ⟨v21, e_v21⟩ : ∃ z : Int32, z = kx + 1 := ⟨_, rfl⟩
                  refine lv_iinc (v := v21) hx hb d_DiscMakerModel_next_93 hl (k := 6) rfl e_v21.symm (by decide +kernel) rfl (fun ls hl => ?_)
                  have t_v21 : v21.toInt = kx.toInt + 1 := by rw [e_v21]; exact i_add rfl (by decide) (by omega) (by omega)
                  have hl : lv_has ls 7 [(5, .int v21), (4, .int kx), (6, .int 1), (0, .ref h0), (1, .int x), (2, .int y), (3, .int z)] := hl
                  refine lv_goto (tgt := 6) hx hb d_DiscMakerModel_next_96 (by decide) ?_
                  have hP := hP.sub (ws' := [(h0, .inr (11, MO ma sv_thrown sv_length sv_nodes sv_many sv_directories sv_runsFrom sv_runs sv_read sv_wrong sv_isNamed sv_goes sv_goesSize sv_goesAt sv_targetParts sv_isRoot)), ((ma 1), .inl (cI, 40, .inl fK)), ((ma 2), .inl (cI, 40, .inl fP)), ((ma 8), .inl (cB, 1200, .inl fN)), ((ma 9), .inl (cI, 40, .inl fNS)), ((ma 12), .inl (cB, 320, .inl fBa)), ((ma 13), .inl (cI, 40, .inl fBs)), ((ma 14), .inl (cB, 120, .inl fEx)), ((ma 15), .inl (cI, 40, .inl fEs))]) [2, 0, 1, 3, 4, 5, 6, 7, 8] rfl
                  have hD := hD.sub (ws' := [(h0, .inr (11, MO ma sv_thrown sv_length sv_nodes sv_many sv_directories sv_runsFrom sv_runs sv_read sv_wrong sv_isNamed sv_goes sv_goesSize sv_goesAt sv_targetParts sv_isRoot)), ((ma 1), .inl (cI, 40, .inl fK)), ((ma 2), .inl (cI, 40, .inl fP)), ((ma 8), .inl (cB, 1200, .inl fN)), ((ma 9), .inl (cI, 40, .inl fNS)), ((ma 12), .inl (cB, 320, .inl fBa)), ((ma 13), .inl (cI, 40, .inl fBs)), ((ma 14), .inl (cB, 120, .inl fEx)), ((ma 15), .inl (cI, 40, .inl fEs))]) [2, 0, 1, 3, 4, 5, 6, 7, 8] (by decide +kernel) rfl
                  have hl := lv_sub hl [3, 4, 5, 6, 1, 0] rfl
                  exact ih6 _ (by first | omega | (dsimp only; omega)) kx v21 _ _ _ rfl ((by (try dsimp only); first | assumption | omega | trivial)) ((by (try dsimp only); first | assumption | omega | trivial)) ((by have hkc := i_cl (a := kx) (by omega); rw [show v21.toInt = kx.toInt + 1 by omega]; have h9 := NextP_take f2 hkc (by omega) ⟨by rw [← e_v1]; omega, Or.inr (by rw [← e_v16]; omega)⟩ (Or.inl (by omega)) (Or.inr (hlt_19.mp (by omega))); rw [hkc] at h9; exact h9)) hP hD hS hl
            · skip
              have g46_97 : ¬ z.toInt < 0 := fun h8 => h_9 ((i_lt rfl (by decide)).mpr h8)
              refine lv_aload_n hx hb d_DiscMakerModel_next_49 rfl (lv_at hl 0 rfl) ?_
              refine lv_iload_n hx hb d_DiscMakerModel_next_50 rfl (lv_at hl 1 rfl) ?_
              refine lv_iload_n hx hb d_DiscMakerModel_next_51 rfl (lv_at hl 3 rfl) ?_
              refine lv_iload hx hb d_DiscMakerModel_next_52 (lv_at hl 5 rfl) ?_
              have hPc := hP.sub (ws' := [(h0, .inr (11, MO ma sv_thrown sv_length sv_nodes sv_many sv_directories sv_runsFrom sv_runs sv_read sv_wrong sv_isNamed sv_goes sv_goesSize sv_goesAt sv_targetParts sv_isRoot)), ((ma 8), .inl (cB, 1200, .inl fN)), ((ma 9), .inl (cI, 40, .inl fNS)), ((ma 12), .inl (cB, 320, .inl fBa)), ((ma 13), .inl (cI, 40, .inl fBs)), ((ma 14), .inl (cB, 120, .inl fEx)), ((ma 15), .inl (cI, 40, .inl fEs))]) [0, 3, 4, 5, 6, 7, 8] rfl
              have hDc := hD.sub (ws' := [(h0, .inr (11, MO ma sv_thrown sv_length sv_nodes sv_many sv_directories sv_runsFrom sv_runs sv_read sv_wrong sv_isNamed sv_goes sv_goesSize sv_goesAt sv_targetParts sv_isRoot)), ((ma 8), .inl (cB, 1200, .inl fN)), ((ma 9), .inl (cI, 40, .inl fNS)), ((ma 12), .inl (cB, 320, .inl fBa)), ((ma 13), .inl (cI, 40, .inl fBs)), ((ma 14), .inl (cB, 120, .inl fEx)), ((ma 15), .inl (cI, 40, .inl fEs))]) [0, 3, 4, 5, 6, 7, 8] (by decide +kernel) rfl
              have hFc := va_free (wc := [(h0, .inr (11, MO ma sv_thrown sv_length sv_nodes sv_many sv_directories sv_runsFrom sv_runs sv_read sv_wrong sv_isNamed sv_goes sv_goesSize sv_goesAt sv_targetParts sv_isRoot)), ((ma 8), .inl (cB, 1200, .inl fN)), ((ma 9), .inl (cI, 40, .inl fNS)), ((ma 12), .inl (cB, 320, .inl fBa)), ((ma 13), .inl (cI, 40, .inl fBs)), ((ma 14), .inl (cB, 120, .inl fEx)), ((ma 15), .inl (cI, 40, .inl fEs))]) hD hS hA [0, 3, 4, 5, 6, 7, 8] rfl
              have hkc : 0 ≤ 0 := by decide
              have hks : 0 ≤ 0 := by decide
              refine va_calli (va_runV (C := "DiscMakerModel") (As := [.int x, .int z, .int kx]) (rest := []) ⟨hx, hb, hml, hown, hts⟩ (m_order l D cB cI cJ cZ cN cF H.size h0 ma sv_thrown sv_length sv_nodes sv_many sv_directories sv_runsFrom sv_runs sv_read sv_wrong sv_isNamed sv_goes sv_goesSize sv_goesAt sv_targetParts sv_isRoot fN fNS fBa fBs fEx fEs x z kx (by (try dsimp only); first | assumption | omega | trivial) (by (try dsimp only); first | assumption | omega | trivial) (by (try dsimp only); first | assumption | omega | trivial) (by (try dsimp only); first | assumption | omega | trivial) (by (try dsimp only); first | assumption | omega | trivial) (by (try dsimp only); first | assumption | omega | trivial) (by (try dsimp only); first | assumption | omega | trivial) (by (try dsimp only); first | assumption | omega | trivial)) (cwV 3 hts (lg_goodV k1679 k1681 k67 k125 kc_DiscMakerModel_order) rfl rfl rfl (by decide +kernel) ⟨Nat.le_of_ble_eq_true rfl, Nat.le_of_ble_eq_true rfl⟩) ⟨fun a U g mk q => by obtain ⟨q0, q1, qP, qK, qN, qD⟩ := q; exact ⟨q0, q1, qP, va_K.moved (u := U) (U := U.calling g mk a) (Vm.Alike.refl U.vm) qK, qN.calling, qD⟩, va_recv hK hP (ci := 11) (q0 := 0) rfl rfl, fun U hU hW => ⟨rfl, by rw [hU], by rw [hU]; exact hPc, va_K.moved hW.alike hK, NN.warm hW hN, hDc.weaken (fun _ _ _ _ => trivial)⟩⟩ rfl rfl hl.1 rfl (lv_room (Nat.le_of_ble_eq_true rfl)) d_DiscMakerModel_next_54 ⟨hkc, hks⟩) hS (fun q _ h => hFc q h) hFc (fun r22 u t H1 locs ht hvm hp_r22 hB hz1 hk1 hS => ?_)
              obtain ⟨hP1, hD1⟩ := hB
              rw [ht] at hP1
              obtain ⟨hP, hD⟩ := va_join (wr := [((ma 1), .inl (cI, 40, .inl fK)), ((ma 2), .inl (cI, 40, .inl fP))]) (w1 := [(h0, .inr (11, MO ma sv_thrown sv_length sv_nodes sv_many sv_directories sv_runsFrom sv_runs sv_read sv_wrong sv_isNamed sv_goes sv_goesSize sv_goesAt sv_targetParts sv_isRoot)), ((ma 8), .inl (cB, 1200, .inl fN)), ((ma 9), .inl (cI, 40, .inl fNS)), ((ma 12), .inl (cB, 320, .inl fBa)), ((ma 13), .inl (cI, 40, .inl fBs)), ((ma 14), .inl (cB, 120, .inl fEx)), ((ma 15), .inl (cI, 40, .inl fEs))]) hP hD [0, 3, 4, 5, 6, 7, 8] [1, 2] rfl rfl (by decide +kernel) (by decide +kernel) hk1 hFc hP1 hD1
              clear hPc hDc hFc hP1 hD1 hk1 hz1 hkc hks
              generalize H1 = H at hP hS ⊢
              have hP : va_P D CL [((ma 1), .inl (cI, 40, .inl fK)), ((ma 2), .inl (cI, 40, .inl fP)), (h0, .inr (11, MO ma sv_thrown sv_length sv_nodes sv_many sv_directories sv_runsFrom sv_runs sv_read sv_wrong sv_isNamed sv_goes sv_goesSize sv_goesAt sv_targetParts sv_isRoot)), ((ma 8), .inl (cB, 1200, .inl fN)), ((ma 9), .inl (cI, 40, .inl fNS)), ((ma 12), .inl (cB, 320, .inl fBa)), ((ma 13), .inl (cI, 40, .inl fBs)), ((ma 14), .inl (cB, 120, .inl fEx)), ((ma 15), .inl (cI, 40, .inl fEs))] H := hP
              have hD : va_D A [((ma 1), .inl (cI, 40, .inl fK)), ((ma 2), .inl (cI, 40, .inl fP)), (h0, .inr (11, MO ma sv_thrown sv_length sv_nodes sv_many sv_directories sv_runsFrom sv_runs sv_read sv_wrong sv_isNamed sv_goes sv_goesSize sv_goesAt sv_targetParts sv_isRoot)), ((ma 8), .inl (cB, 1200, .inl fN)), ((ma 9), .inl (cI, 40, .inl fNS)), ((ma 12), .inl (cB, 320, .inl fBa)), ((ma 13), .inl (cI, 40, .inl fBs)), ((ma 14), .inl (cB, 120, .inl fEx)), ((ma 15), .inl (cI, 40, .inl fEs))] := hD
              try dsimp only at hp_r22
              have hlt_23 := hp_r22
              refine lv_if_ge (tgt := 64) hx hb d_DiscMakerModel_next_57 (by decide) (fun h_9 => ?_) (fun h_9 => ?_)
              · skip
                have g57_129 : 0 ≤ r22.toInt := (i_le (by decide) rfl).mp h_9
                refine lv_iconst (v := 0) hx hb d_DiscMakerModel_next_64 (by decide) ?_
                refine lv_istore hx hb d_DiscMakerModel_next_65 hl (by decide) rfl (fun ls hl => ?_)
                have hl : lv_has ls 7 [(6, .int 0), (0, .ref h0), (1, .int x), (2, .int y), (3, .int z), (4, .int be), (5, .int kx)] := hl
                refine lv_iload hx hb d_DiscMakerModel_next_67 (lv_at hl 0 rfl) ?_
                refine lv_if_eq (tgt := 93) hx hb d_DiscMakerModel_next_69 (by decide) (fun _ => ?_) (fun h_9 => absurd (by decide) h_9)
                obtain ⟨v24, e_v24⟩ : ∃ z : Int32, z = kx + 1 := ⟨_, rfl⟩
                refine lv_iinc (v := v24) hx hb d_DiscMakerModel_next_93 hl (k := 6) rfl e_v24.symm (by decide +kernel) rfl (fun ls hl => ?_)
                have t_v24 : v24.toInt = kx.toInt + 1 := by rw [e_v24]; exact i_add rfl (by decide) (by omega) (by omega)
                have hl : lv_has ls 7 [(5, .int v24), (6, .int 0), (0, .ref h0), (1, .int x), (2, .int y), (3, .int z), (4, .int be)] := hl
                refine lv_goto (tgt := 6) hx hb d_DiscMakerModel_next_96 (by decide) ?_
                have hP := hP.sub (ws' := [(h0, .inr (11, MO ma sv_thrown sv_length sv_nodes sv_many sv_directories sv_runsFrom sv_runs sv_read sv_wrong sv_isNamed sv_goes sv_goesSize sv_goesAt sv_targetParts sv_isRoot)), ((ma 1), .inl (cI, 40, .inl fK)), ((ma 2), .inl (cI, 40, .inl fP)), ((ma 8), .inl (cB, 1200, .inl fN)), ((ma 9), .inl (cI, 40, .inl fNS)), ((ma 12), .inl (cB, 320, .inl fBa)), ((ma 13), .inl (cI, 40, .inl fBs)), ((ma 14), .inl (cB, 120, .inl fEx)), ((ma 15), .inl (cI, 40, .inl fEs))]) [2, 0, 1, 3, 4, 5, 6, 7, 8] rfl
                have hD := hD.sub (ws' := [(h0, .inr (11, MO ma sv_thrown sv_length sv_nodes sv_many sv_directories sv_runsFrom sv_runs sv_read sv_wrong sv_isNamed sv_goes sv_goesSize sv_goesAt sv_targetParts sv_isRoot)), ((ma 1), .inl (cI, 40, .inl fK)), ((ma 2), .inl (cI, 40, .inl fP)), ((ma 8), .inl (cB, 1200, .inl fN)), ((ma 9), .inl (cI, 40, .inl fNS)), ((ma 12), .inl (cB, 320, .inl fBa)), ((ma 13), .inl (cI, 40, .inl fBs)), ((ma 14), .inl (cB, 120, .inl fEx)), ((ma 15), .inl (cI, 40, .inl fEs))]) [2, 0, 1, 3, 4, 5, 6, 7, 8] (by decide +kernel) rfl
                have hl := lv_sub hl [2, 3, 4, 5, 6, 0] rfl
                exact ih6 _ (by first | omega | (dsimp only; omega)) be v24 _ _ _ rfl ((by (try dsimp only); first | assumption | omega | trivial)) ((by (try dsimp only); first | assumption | omega | trivial)) ((by have hkc := i_cl (a := kx) (by omega); rw [show v24.toInt = kx.toInt + 1 by omega]; exact NextP_no f2 hkc (fun h => h.2.elim (fun h2 => by omega) (fun h2 => by have := hlt_23.mpr h2; omega)))) hP hD hS hl
              · skip
                have g57_129 : ¬ 0 ≤ r22.toInt := fun h8 => h_9 ((i_le (by decide) rfl).mpr h8)
                refine lv_iconst (v := 1) hx hb d_DiscMakerModel_next_60 (by decide) ?_
                refine lv_goto (tgt := 65) hx hb d_DiscMakerModel_next_61 (by decide) ?_
                refine lv_istore hx hb d_DiscMakerModel_next_65 hl (by decide) rfl (fun ls hl => ?_)
                have hl : lv_has ls 7 [(6, .int 1), (0, .ref h0), (1, .int x), (2, .int y), (3, .int z), (4, .int be), (5, .int kx)] := hl
                refine lv_iload hx hb d_DiscMakerModel_next_67 (lv_at hl 0 rfl) ?_
                refine lv_if_eq (tgt := 93) hx hb d_DiscMakerModel_next_69 (by decide) (fun h_9 => absurd h_9 (by decide)) (fun _ => ?_)
                refine lv_iload hx hb d_DiscMakerModel_next_72 (lv_at hl 5 rfl) ?_
                refine lv_if_lt (tgt := 89) hx hb d_DiscMakerModel_next_74 (by decide) (fun h_9 => ?_) (fun h_9 => ?_)
                · skip
                  have g74_143 : be.toInt < 0 := (i_lt rfl (by decide)).mp h_9
                  refine lv_iload hx hb d_DiscMakerModel_next_89 (lv_at hl 6 rfl) ?_
                  refine lv_istore hx hb d_DiscMakerModel_next_91 hl (by decide) rfl (fun ls hl => ?_)
                  have hl : lv_has ls 7 [(4, .int kx), (6, .int 1), (0, .ref h0), (1, .int x), (2, .int y), (3, .int z), (5, .int kx)] := hl
                  obtain ⟨v25, e_v25⟩ : ∃ z : Int32, z = kx + 1 := ⟨_, rfl⟩
                  refine lv_iinc (v := v25) hx hb d_DiscMakerModel_next_93 hl (k := 6) rfl e_v25.symm (by decide +kernel) rfl (fun ls hl => ?_)
                  have t_v25 : v25.toInt = kx.toInt + 1 := by rw [e_v25]; exact i_add rfl (by decide) (by omega) (by omega)
                  have hl : lv_has ls 7 [(5, .int v25), (4, .int kx), (6, .int 1), (0, .ref h0), (1, .int x), (2, .int y), (3, .int z)] := hl
                  refine lv_goto (tgt := 6) hx hb d_DiscMakerModel_next_96 (by decide) ?_
                  have hP := hP.sub (ws' := [(h0, .inr (11, MO ma sv_thrown sv_length sv_nodes sv_many sv_directories sv_runsFrom sv_runs sv_read sv_wrong sv_isNamed sv_goes sv_goesSize sv_goesAt sv_targetParts sv_isRoot)), ((ma 1), .inl (cI, 40, .inl fK)), ((ma 2), .inl (cI, 40, .inl fP)), ((ma 8), .inl (cB, 1200, .inl fN)), ((ma 9), .inl (cI, 40, .inl fNS)), ((ma 12), .inl (cB, 320, .inl fBa)), ((ma 13), .inl (cI, 40, .inl fBs)), ((ma 14), .inl (cB, 120, .inl fEx)), ((ma 15), .inl (cI, 40, .inl fEs))]) [2, 0, 1, 3, 4, 5, 6, 7, 8] rfl
                  have hD := hD.sub (ws' := [(h0, .inr (11, MO ma sv_thrown sv_length sv_nodes sv_many sv_directories sv_runsFrom sv_runs sv_read sv_wrong sv_isNamed sv_goes sv_goesSize sv_goesAt sv_targetParts sv_isRoot)), ((ma 1), .inl (cI, 40, .inl fK)), ((ma 2), .inl (cI, 40, .inl fP)), ((ma 8), .inl (cB, 1200, .inl fN)), ((ma 9), .inl (cI, 40, .inl fNS)), ((ma 12), .inl (cB, 320, .inl fBa)), ((ma 13), .inl (cI, 40, .inl fBs)), ((ma 14), .inl (cB, 120, .inl fEx)), ((ma 15), .inl (cI, 40, .inl fEs))]) [2, 0, 1, 3, 4, 5, 6, 7, 8] (by decide +kernel) rfl
                  have hl := lv_sub hl [3, 4, 5, 6, 1, 0] rfl
                  exact ih6 _ (by first | omega | (dsimp only; omega)) kx v25 _ _ _ rfl ((by (try dsimp only); first | assumption | omega | trivial)) ((by (try dsimp only); first | assumption | omega | trivial)) ((by have hkc := i_cl (a := kx) (by omega); rw [show v25.toInt = kx.toInt + 1 by omega]; have h9 := NextP_take f2 hkc (by omega) ⟨by rw [← e_v1]; omega, Or.inr (by rw [← e_v16]; omega)⟩ (Or.inr (hlt_23.mp (by omega))) (Or.inl (by omega)); rw [hkc] at h9; exact h9)) hP hD hS hl
                · skip
                  have g74_143 : ¬ be.toInt < 0 := fun h8 => h_9 ((i_lt rfl (by decide)).mpr h8)
                  refine lv_aload_n hx hb d_DiscMakerModel_next_77 rfl (lv_at hl 1 rfl) ?_
                  refine lv_iload_n hx hb d_DiscMakerModel_next_78 rfl (lv_at hl 2 rfl) ?_
                  refine lv_iload hx hb d_DiscMakerModel_next_79 (lv_at hl 6 rfl) ?_
                  refine lv_iload hx hb d_DiscMakerModel_next_81 (lv_at hl 5 rfl) ?_
                  have hPc := hP.sub (ws' := [(h0, .inr (11, MO ma sv_thrown sv_length sv_nodes sv_many sv_directories sv_runsFrom sv_runs sv_read sv_wrong sv_isNamed sv_goes sv_goesSize sv_goesAt sv_targetParts sv_isRoot)), ((ma 8), .inl (cB, 1200, .inl fN)), ((ma 9), .inl (cI, 40, .inl fNS)), ((ma 12), .inl (cB, 320, .inl fBa)), ((ma 13), .inl (cI, 40, .inl fBs)), ((ma 14), .inl (cB, 120, .inl fEx)), ((ma 15), .inl (cI, 40, .inl fEs))]) [2, 3, 4, 5, 6, 7, 8] rfl
                  have hDc := hD.sub (ws' := [(h0, .inr (11, MO ma sv_thrown sv_length sv_nodes sv_many sv_directories sv_runsFrom sv_runs sv_read sv_wrong sv_isNamed sv_goes sv_goesSize sv_goesAt sv_targetParts sv_isRoot)), ((ma 8), .inl (cB, 1200, .inl fN)), ((ma 9), .inl (cI, 40, .inl fNS)), ((ma 12), .inl (cB, 320, .inl fBa)), ((ma 13), .inl (cI, 40, .inl fBs)), ((ma 14), .inl (cB, 120, .inl fEx)), ((ma 15), .inl (cI, 40, .inl fEs))]) [2, 3, 4, 5, 6, 7, 8] (by decide +kernel) rfl
                  have hFc := va_free (wc := [(h0, .inr (11, MO ma sv_thrown sv_length sv_nodes sv_many sv_directories sv_runsFrom sv_runs sv_read sv_wrong sv_isNamed sv_goes sv_goesSize sv_goesAt sv_targetParts sv_isRoot)), ((ma 8), .inl (cB, 1200, .inl fN)), ((ma 9), .inl (cI, 40, .inl fNS)), ((ma 12), .inl (cB, 320, .inl fBa)), ((ma 13), .inl (cI, 40, .inl fBs)), ((ma 14), .inl (cB, 120, .inl fEx)), ((ma 15), .inl (cI, 40, .inl fEs))]) hD hS hA [2, 3, 4, 5, 6, 7, 8] rfl
                  have hkc : 0 ≤ 0 := by decide
                  have hks : 0 ≤ 0 := by decide
                  refine va_calli (va_runV (C := "DiscMakerModel") (As := [.int x, .int kx, .int be]) (rest := []) ⟨hx, hb, hml, hown, hts⟩ (m_order l D cB cI cJ cZ cN cF H.size h0 ma sv_thrown sv_length sv_nodes sv_many sv_directories sv_runsFrom sv_runs sv_read sv_wrong sv_isNamed sv_goes sv_goesSize sv_goesAt sv_targetParts sv_isRoot fN fNS fBa fBs fEx fEs x kx be (by (try dsimp only); first | assumption | omega | trivial) (by (try dsimp only); first | assumption | omega | trivial) (by (try dsimp only); first | assumption | omega | trivial) (by (try dsimp only); first | assumption | omega | trivial) (by (try dsimp only); first | assumption | omega | trivial) (by (try dsimp only); first | assumption | omega | trivial) (by (try dsimp only); first | assumption | omega | trivial) (by (try dsimp only); first | assumption | omega | trivial)) (cwV 3 hts (lg_goodV k1679 k1681 k67 k125 kc_DiscMakerModel_order) rfl rfl rfl (by decide +kernel) ⟨Nat.le_of_ble_eq_true rfl, Nat.le_of_ble_eq_true rfl⟩) ⟨fun a U g mk q => by obtain ⟨q0, q1, qP, qK, qN, qD⟩ := q; exact ⟨q0, q1, qP, va_K.moved (u := U) (U := U.calling g mk a) (Vm.Alike.refl U.vm) qK, qN.calling, qD⟩, va_recv hK hP (ci := 11) (q0 := 2) rfl rfl, fun U hU hW => ⟨rfl, by rw [hU], by rw [hU]; exact hPc, va_K.moved hW.alike hK, NN.warm hW hN, hDc.weaken (fun _ _ _ _ => trivial)⟩⟩ rfl rfl hl.1 rfl (lv_room (Nat.le_of_ble_eq_true rfl)) d_DiscMakerModel_next_83 ⟨hkc, hks⟩) hS (fun q _ h => hFc q h) hFc (fun r26 u t H1 locs ht hvm hp_r26 hB hz1 hk1 hS => ?_)
                  obtain ⟨hP1, hD1⟩ := hB
                  rw [ht] at hP1
                  obtain ⟨hP, hD⟩ := va_join (wr := [((ma 1), .inl (cI, 40, .inl fK)), ((ma 2), .inl (cI, 40, .inl fP))]) (w1 := [(h0, .inr (11, MO ma sv_thrown sv_length sv_nodes sv_many sv_directories sv_runsFrom sv_runs sv_read sv_wrong sv_isNamed sv_goes sv_goesSize sv_goesAt sv_targetParts sv_isRoot)), ((ma 8), .inl (cB, 1200, .inl fN)), ((ma 9), .inl (cI, 40, .inl fNS)), ((ma 12), .inl (cB, 320, .inl fBa)), ((ma 13), .inl (cI, 40, .inl fBs)), ((ma 14), .inl (cB, 120, .inl fEx)), ((ma 15), .inl (cI, 40, .inl fEs))]) hP hD [2, 3, 4, 5, 6, 7, 8] [0, 1] rfl rfl (by decide +kernel) (by decide +kernel) hk1 hFc hP1 hD1
                  clear hPc hDc hFc hP1 hD1 hk1 hz1 hkc hks
                  generalize H1 = H at hP hS ⊢
                  have hP : va_P D CL [((ma 1), .inl (cI, 40, .inl fK)), ((ma 2), .inl (cI, 40, .inl fP)), (h0, .inr (11, MO ma sv_thrown sv_length sv_nodes sv_many sv_directories sv_runsFrom sv_runs sv_read sv_wrong sv_isNamed sv_goes sv_goesSize sv_goesAt sv_targetParts sv_isRoot)), ((ma 8), .inl (cB, 1200, .inl fN)), ((ma 9), .inl (cI, 40, .inl fNS)), ((ma 12), .inl (cB, 320, .inl fBa)), ((ma 13), .inl (cI, 40, .inl fBs)), ((ma 14), .inl (cB, 120, .inl fEx)), ((ma 15), .inl (cI, 40, .inl fEs))] H := hP
                  have hD : va_D A [((ma 1), .inl (cI, 40, .inl fK)), ((ma 2), .inl (cI, 40, .inl fP)), (h0, .inr (11, MO ma sv_thrown sv_length sv_nodes sv_many sv_directories sv_runsFrom sv_runs sv_read sv_wrong sv_isNamed sv_goes sv_goesSize sv_goesAt sv_targetParts sv_isRoot)), ((ma 8), .inl (cB, 1200, .inl fN)), ((ma 9), .inl (cI, 40, .inl fNS)), ((ma 12), .inl (cB, 320, .inl fBa)), ((ma 13), .inl (cI, 40, .inl fBs)), ((ma 14), .inl (cB, 120, .inl fEx)), ((ma 15), .inl (cI, 40, .inl fEs))] := hD
                  try dsimp only at hp_r26
                  have hlt_27 := hp_r26
                  refine lv_if_ge (tgt := 93) hx hb d_DiscMakerModel_next_86 (by decide) (fun h_9 => ?_) (fun h_9 => ?_)
                  · skip
                    have g86_154 : 0 ≤ r26.toInt := (i_le (by decide) rfl).mp h_9
                    obtain ⟨v28, e_v28⟩ : ∃ z : Int32, z = kx + 1 := ⟨_, rfl⟩
                    refine lv_iinc (v := v28) hx hb d_DiscMakerModel_next_93 hl (k := 6) rfl e_v28.symm (by decide +kernel) rfl (fun ls hl => ?_)
                    have t_v28 : v28.toInt = kx.toInt + 1 := by rw [e_v28]; exact i_add rfl (by decide) (by omega) (by omega)
                    have hl : lv_has ls 7 [(5, .int v28), (6, .int 1), (0, .ref h0), (1, .int x), (2, .int y), (3, .int z), (4, .int be)] := hl
                    refine lv_goto (tgt := 6) hx hb d_DiscMakerModel_next_96 (by decide) ?_
                    have hP := hP.sub (ws' := [(h0, .inr (11, MO ma sv_thrown sv_length sv_nodes sv_many sv_directories sv_runsFrom sv_runs sv_read sv_wrong sv_isNamed sv_goes sv_goesSize sv_goesAt sv_targetParts sv_isRoot)), ((ma 1), .inl (cI, 40, .inl fK)), ((ma 2), .inl (cI, 40, .inl fP)), ((ma 8), .inl (cB, 1200, .inl fN)), ((ma 9), .inl (cI, 40, .inl fNS)), ((ma 12), .inl (cB, 320, .inl fBa)), ((ma 13), .inl (cI, 40, .inl fBs)), ((ma 14), .inl (cB, 120, .inl fEx)), ((ma 15), .inl (cI, 40, .inl fEs))]) [2, 0, 1, 3, 4, 5, 6, 7, 8] rfl
                    have hD := hD.sub (ws' := [(h0, .inr (11, MO ma sv_thrown sv_length sv_nodes sv_many sv_directories sv_runsFrom sv_runs sv_read sv_wrong sv_isNamed sv_goes sv_goesSize sv_goesAt sv_targetParts sv_isRoot)), ((ma 1), .inl (cI, 40, .inl fK)), ((ma 2), .inl (cI, 40, .inl fP)), ((ma 8), .inl (cB, 1200, .inl fN)), ((ma 9), .inl (cI, 40, .inl fNS)), ((ma 12), .inl (cB, 320, .inl fBa)), ((ma 13), .inl (cI, 40, .inl fBs)), ((ma 14), .inl (cB, 120, .inl fEx)), ((ma 15), .inl (cI, 40, .inl fEs))]) [2, 0, 1, 3, 4, 5, 6, 7, 8] (by decide +kernel) rfl
                    have hl := lv_sub hl [2, 3, 4, 5, 6, 0] rfl
                    exact ih6 _ (by first | omega | (dsimp only; omega)) be v28 _ _ _ rfl ((by (try dsimp only); first | assumption | omega | trivial)) ((by (try dsimp only); first | assumption | omega | trivial)) ((by have hkc := i_cl (a := kx) (by omega); rw [show v28.toInt = kx.toInt + 1 by omega]; exact NextP_keep f2 hkc (by omega) (fun h => by have := hlt_27.mpr h; omega))) hP hD hS hl
                  · skip
                    have g86_154 : ¬ 0 ≤ r26.toInt := fun h8 => h_9 ((i_le (by decide) rfl).mpr h8)
                    refine lv_iload hx hb d_DiscMakerModel_next_89 (lv_at hl 6 rfl) ?_
                    refine lv_istore hx hb d_DiscMakerModel_next_91 hl (by decide) rfl (fun ls hl => ?_)
                    have hl : lv_has ls 7 [(4, .int kx), (6, .int 1), (0, .ref h0), (1, .int x), (2, .int y), (3, .int z), (5, .int kx)] := hl
                    obtain ⟨v29, e_v29⟩ : ∃ z : Int32, z = kx + 1 := ⟨_, rfl⟩
                    refine lv_iinc (v := v29) hx hb d_DiscMakerModel_next_93 hl (k := 6) rfl e_v29.symm (by decide +kernel) rfl (fun ls hl => ?_)
                    have t_v29 : v29.toInt = kx.toInt + 1 := by rw [e_v29]; exact i_add rfl (by decide) (by omega) (by omega)
                    have hl : lv_has ls 7 [(5, .int v29), (4, .int kx), (6, .int 1), (0, .ref h0), (1, .int x), (2, .int y), (3, .int z)] := hl
                    refine lv_goto (tgt := 6) hx hb d_DiscMakerModel_next_96 (by decide) ?_
                    have hP := hP.sub (ws' := [(h0, .inr (11, MO ma sv_thrown sv_length sv_nodes sv_many sv_directories sv_runsFrom sv_runs sv_read sv_wrong sv_isNamed sv_goes sv_goesSize sv_goesAt sv_targetParts sv_isRoot)), ((ma 1), .inl (cI, 40, .inl fK)), ((ma 2), .inl (cI, 40, .inl fP)), ((ma 8), .inl (cB, 1200, .inl fN)), ((ma 9), .inl (cI, 40, .inl fNS)), ((ma 12), .inl (cB, 320, .inl fBa)), ((ma 13), .inl (cI, 40, .inl fBs)), ((ma 14), .inl (cB, 120, .inl fEx)), ((ma 15), .inl (cI, 40, .inl fEs))]) [2, 0, 1, 3, 4, 5, 6, 7, 8] rfl
                    have hD := hD.sub (ws' := [(h0, .inr (11, MO ma sv_thrown sv_length sv_nodes sv_many sv_directories sv_runsFrom sv_runs sv_read sv_wrong sv_isNamed sv_goes sv_goesSize sv_goesAt sv_targetParts sv_isRoot)), ((ma 1), .inl (cI, 40, .inl fK)), ((ma 2), .inl (cI, 40, .inl fP)), ((ma 8), .inl (cB, 1200, .inl fN)), ((ma 9), .inl (cI, 40, .inl fNS)), ((ma 12), .inl (cB, 320, .inl fBa)), ((ma 13), .inl (cI, 40, .inl fBs)), ((ma 14), .inl (cB, 120, .inl fEx)), ((ma 15), .inl (cI, 40, .inl fEs))]) [2, 0, 1, 3, 4, 5, 6, 7, 8] (by decide +kernel) rfl
                    have hl := lv_sub hl [3, 4, 5, 6, 1, 0] rfl
                    exact ih6 _ (by first | omega | (dsimp only; omega)) kx v29 _ _ _ rfl ((by (try dsimp only); first | assumption | omega | trivial)) ((by (try dsimp only); first | assumption | omega | trivial)) ((by have hkc := i_cl (a := kx) (by omega); rw [show v29.toInt = kx.toInt + 1 by omega]; have h9 := NextP_take f2 hkc (by omega) ⟨by rw [← e_v1]; omega, Or.inr (by rw [← e_v16]; omega)⟩ (Or.inr (hlt_23.mp (by omega))) (Or.inr (hlt_27.mp (by omega))); rw [hkc] at h9; exact h9)) hP hD hS hl
          · skip
            have g39_95 : v16.toInt = 2 := (i_eq rfl (by decide)).mp h_9
            refine lv_goto (tgt := 93) hx hb d_DiscMakerModel_next_42 (by decide) ?_
            obtain ⟨v30, e_v30⟩ : ∃ z : Int32, z = kx + 1 := ⟨_, rfl⟩
            refine lv_iinc (v := v30) hx hb d_DiscMakerModel_next_93 hl (k := 5) rfl e_v30.symm (by decide +kernel) rfl (fun ls hl => ?_)
            have t_v30 : v30.toInt = kx.toInt + 1 := by rw [e_v30]; exact i_add rfl (by decide) (by omega) (by omega)
            have hl : lv_has ls 7 [(5, .int v30), (0, .ref h0), (1, .int x), (2, .int y), (3, .int z), (4, .int be)] := hl
            refine lv_goto (tgt := 6) hx hb d_DiscMakerModel_next_96 (by decide) ?_
            have hP := hP.sub (ws' := [(h0, .inr (11, MO ma sv_thrown sv_length sv_nodes sv_many sv_directories sv_runsFrom sv_runs sv_read sv_wrong sv_isNamed sv_goes sv_goesSize sv_goesAt sv_targetParts sv_isRoot)), ((ma 1), .inl (cI, 40, .inl fK)), ((ma 2), .inl (cI, 40, .inl fP)), ((ma 8), .inl (cB, 1200, .inl fN)), ((ma 9), .inl (cI, 40, .inl fNS)), ((ma 12), .inl (cB, 320, .inl fBa)), ((ma 13), .inl (cI, 40, .inl fBs)), ((ma 14), .inl (cB, 120, .inl fEx)), ((ma 15), .inl (cI, 40, .inl fEs))]) [0, 1, 2, 3, 4, 5, 6, 7, 8] rfl
            have hD := hD.sub (ws' := [(h0, .inr (11, MO ma sv_thrown sv_length sv_nodes sv_many sv_directories sv_runsFrom sv_runs sv_read sv_wrong sv_isNamed sv_goes sv_goesSize sv_goesAt sv_targetParts sv_isRoot)), ((ma 1), .inl (cI, 40, .inl fK)), ((ma 2), .inl (cI, 40, .inl fP)), ((ma 8), .inl (cB, 1200, .inl fN)), ((ma 9), .inl (cI, 40, .inl fNS)), ((ma 12), .inl (cB, 320, .inl fBa)), ((ma 13), .inl (cI, 40, .inl fBs)), ((ma 14), .inl (cB, 120, .inl fEx)), ((ma 15), .inl (cI, 40, .inl fEs))]) [0, 1, 2, 3, 4, 5, 6, 7, 8] (by decide +kernel) rfl
            have hl := lv_sub hl [1, 2, 3, 4, 5, 0] rfl
            exact ih6 _ (by first | omega | (dsimp only; omega)) be v30 _ _ _ rfl ((by (try dsimp only); first | assumption | omega | trivial)) ((by (try dsimp only); first | assumption | omega | trivial)) ((by have hkc := i_cl (a := kx) (by omega); rw [show v30.toInt = kx.toInt + 1 by omega]; exact NextP_no f2 hkc (fun h => h.1.2.elim (fun h2 => by omega) (fun h2 => by rw [← e_v16] at h2; omega)))) hP hD hS hl
  · skip
    intro kk6
    have hP := hP.sub (ws' := [(h0, .inr (11, MO ma sv_thrown sv_length sv_nodes sv_many sv_directories sv_runsFrom sv_runs sv_read sv_wrong sv_isNamed sv_goes sv_goesSize sv_goesAt sv_targetParts sv_isRoot)), ((ma 1), .inl (cI, 40, .inl fK)), ((ma 2), .inl (cI, 40, .inl fP)), ((ma 8), .inl (cB, 1200, .inl fN)), ((ma 9), .inl (cI, 40, .inl fNS)), ((ma 12), .inl (cB, 320, .inl fBa)), ((ma 13), .inl (cI, 40, .inl fBs)), ((ma 14), .inl (cB, 120, .inl fEx)), ((ma 15), .inl (cI, 40, .inl fEs))]) [0, 1, 2, 3, 4, 5, 6, 7, 8] rfl
    have hD := hD.sub (ws' := [(h0, .inr (11, MO ma sv_thrown sv_length sv_nodes sv_many sv_directories sv_runsFrom sv_runs sv_read sv_wrong sv_isNamed sv_goes sv_goesSize sv_goesAt sv_targetParts sv_isRoot)), ((ma 1), .inl (cI, 40, .inl fK)), ((ma 2), .inl (cI, 40, .inl fP)), ((ma 8), .inl (cB, 1200, .inl fN)), ((ma 9), .inl (cI, 40, .inl fNS)), ((ma 12), .inl (cB, 320, .inl fBa)), ((ma 13), .inl (cI, 40, .inl fBs)), ((ma 14), .inl (cB, 120, .inl fEx)), ((ma 15), .inl (cI, 40, .inl fEs))]) [0, 1, 2, 3, 4, 5, 6, 7, 8] (by decide +kernel) rfl
    have hl := lv_sub hl [2, 3, 4, 5, 1, 0] rfl
    exact kk6 _ (-1) 1 _ _ _ rfl ((by (try dsimp only); first | assumption | omega | trivial)) ((by (try dsimp only); first | assumption | omega | trivial)) ((NextP_0 (by omega) (by omega))) hP hD hS hl
