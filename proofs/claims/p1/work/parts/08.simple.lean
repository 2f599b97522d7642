theorem d_DiscMaker_isWithin_0 : decode b_DiscMaker_isWithin 0 = .ok (.iload_n 0, 1) := by decide +kernel
theorem d_DiscMaker_isWithin_1 : decode b_DiscMaker_isWithin 1 = .ok (.ifCond .lt 12, 3) := by decide +kernel
theorem d_DiscMaker_isWithin_4 : decode b_DiscMaker_isWithin 4 = .ok (.iload_n 0, 1) := by decide +kernel
theorem d_DiscMaker_isWithin_5 : decode b_DiscMaker_isWithin 5 = .ok (.iload_n 1, 1) := by decide +kernel
theorem d_DiscMaker_isWithin_6 : decode b_DiscMaker_isWithin 6 = .ok (.if_icmp .gt 7, 3) := by decide +kernel
theorem d_DiscMaker_isWithin_9 : decode b_DiscMaker_isWithin 9 = .ok (.iconst 1, 1) := by decide +kernel
theorem d_DiscMaker_isWithin_10 : decode b_DiscMaker_isWithin 10 = .ok (.goto 4, 3) := by decide +kernel
theorem d_DiscMaker_isWithin_13 : decode b_DiscMaker_isWithin 13 = .ok (.iconst 0, 1) := by decide +kernel
theorem d_DiscMaker_isWithin_14 : decode b_DiscMaker_isWithin 14 = .ok (.ireturn, 1) := by decide +kernel
set_option maxHeartbeats 4000000 in
set_option maxRecDepth 100000 in
theorem c_isWithin (l : Launch) (D : va_G) (cB cI cJ cZ cN cF : ClassId) (sz : Nat) (x mx : Int32) : Met l y_DiscMaker_isWithin w_DiscMaker_isWithin ({ frames := 0, cells := 0, slots := 0, locals := 0 }) (va_Pc [.int x, .int mx] (fun U => U.heap.size = sz ∧ va_P D CL [] U.heap ∧ va_K D CL (TY cB cI cJ cZ cN cF) U ∧ NN U ∧ va_D (fun _ => True) [])) (va_Qi (fun (r : Int32) (u : Unit) => (r = 1 ∧ zIn x mx) ∨ (r = 0 ∧ ¬ zIn x mx)) (fun (u : Unit) (t : State) => match u with | () => va_P D CL [] t.heap ∧ va_D (va_A [] sz) []) (va_A [] sz)) 0 0 (va_A [] sz) := by
  refine Met.ofW (cc := b_DiscMaker_isWithin) (maxL := 2) (ret := some .boolean) (by decide) rfl ?_
  intro p e s m args below meth c s₁ B hml hv
  obtain ⟨rfl, hsz, hP, hK, hN, hD0⟩ := hv
  have hx := B.exec
  have hb := B.bytes
  have hr := B.returns
  have hts := atoms_spec (ws := w_DiscMaker_isWithin) B.pre
  have ht9 := fun (w : Cond) (h : w ∈ lw_g) => hts w (List.mem_cons_of_mem _ h)
  have hown : s.vm.findClass "DiscMaker" = some m.cls := findClass_of_methodNamed B.named
  have hlocks := B.notSynchronized
  subst hsz
  have hD := hD0.self (sz := s.heap.size)
  generalize hAe : va_A [] s.heap.size = A at hD ⊢
  have hA : ∀ q : Nat, s.heap.size ≤ q → A q := fun q h => by rw [← hAe]; exact Or.inr h
  have hS : va_S A s.heap s.heap [] := va_S.rf
  have hP : va_P D CL [] s.heap := hP
  have hl := lv_entry [.int x, .int mx] (n := 2) (Nat.le_of_ble_eq_true rfl)
  rw [lg_entry_eq]
  generalize (lg_sl [.int x, .int mx] ++ List.replicate (2 - (lg_sl [.int x, .int mx]).length) Slot.unset).toArray = ls at hl ⊢
  have hl : lv_has ls 2 [(0, .int x), (1, .int mx)] := hl
  refine lv_iload_n hx hb d_DiscMaker_isWithin_0 rfl (lv_at hl 0 rfl) ?_
  refine lv_if_lt (tgt := 13) hx hb d_DiscMaker_isWithin_1 (by decide) (fun h_1 => ?_) (fun h_1 => ?_)
  · skip
    refine lv_iconst (v := 0) hx hb d_DiscMaker_isWithin_13 (by decide) ?_
    have hP9 := hP.sub (ws' := []) [] rfl
    have hD9 := hD.sub (ws' := []) [] (by decide) rfl
    exact W.zret (v := 0) hx hb hr (by first | rfl | decide) (fun t ht hW => ⟨⟨0, (), rfl, by first | exact Or.inl ⟨rfl, h_1, h_6⟩ | exact Or.inr ⟨rfl, fun h => h.1 h_1⟩ | exact Or.inr ⟨rfl, fun h => h.2 h_6⟩, by rw [ht]; exact hP9, hD9⟩, hS.F ht⟩) hS.2.2 d_DiscMaker_isWithin_14
  · skip
    refine lv_iload_n hx hb d_DiscMaker_isWithin_4 rfl (lv_at hl 0 rfl) ?_
    refine lv_iload_n hx hb d_DiscMaker_isWithin_5 rfl (lv_at hl 1 rfl) ?_
    refine lv_icmp_gt (tgt := 13) hx hb d_DiscMaker_isWithin_6 (by decide) (fun h_6 => ?_) (fun h_6 => ?_)
    · skip
      refine lv_iconst (v := 0) hx hb d_DiscMaker_isWithin_13 (by decide) ?_
      have hP9 := hP.sub (ws' := []) [] rfl
      have hD9 := hD.sub (ws' := []) [] (by decide) rfl
      exact W.zret (v := 0) hx hb hr (by first | rfl | decide) (fun t ht hW => ⟨⟨0, (), rfl, by first | exact Or.inl ⟨rfl, h_1, h_6⟩ | exact Or.inr ⟨rfl, fun h => h.1 h_1⟩ | exact Or.inr ⟨rfl, fun h => h.2 h_6⟩, by rw [ht]; exact hP9, hD9⟩, hS.F ht⟩) hS.2.2 d_DiscMaker_isWithin_14
    · skip
      refine lv_iconst (v := 1) hx hb d_DiscMaker_isWithin_9 (by decide) ?_
      refine lv_goto (tgt := 14) hx hb d_DiscMaker_isWithin_10 (by decide) ?_
      have hP9 := hP.sub (ws' := []) [] rfl
      have hD9 := hD.sub (ws' := []) [] (by decide) rfl
      exact W.zret (v := 1) hx hb hr (by first | rfl | decide) (fun t ht hW => ⟨⟨1, (), rfl, by first | exact Or.inl ⟨rfl, h_1, h_6⟩ | exact Or.inr ⟨rfl, fun h => h.1 h_1⟩ | exact Or.inr ⟨rfl, fun h => h.2 h_6⟩, by rw [ht]; exact hP9, hD9⟩, hS.F ht⟩) hS.2.2 d_DiscMaker_isWithin_14

theorem d_DiscMaker_isOwnership_0 : decode b_DiscMaker_isOwnership 0 = .ok (.iload_n 0, 1) := by decide +kernel
theorem d_DiscMaker_isOwnership_1 : decode b_DiscMaker_isOwnership 1 = .ok (.ldc 178, 2) := by decide +kernel
theorem d_DiscMaker_isOwnership_3 : decode b_DiscMaker_isOwnership 3 = .ok (.invokestatic 79, 3) := by decide +kernel
theorem d_DiscMaker_isOwnership_6 : decode b_DiscMaker_isOwnership 6 = .ok (.ifCond .eq 25, 3) := by decide +kernel
theorem d_DiscMaker_isOwnership_9 : decode b_DiscMaker_isOwnership 9 = .ok (.iload_n 1, 1) := by decide +kernel
theorem d_DiscMaker_isOwnership_10 : decode b_DiscMaker_isOwnership 10 = .ok (.ldc 178, 2) := by decide +kernel
theorem d_DiscMaker_isOwnership_12 : decode b_DiscMaker_isOwnership 12 = .ok (.invokestatic 79, 3) := by decide +kernel
theorem d_DiscMaker_isOwnership_15 : decode b_DiscMaker_isOwnership 15 = .ok (.ifCond .eq 16, 3) := by decide +kernel
theorem d_DiscMaker_isOwnership_18 : decode b_DiscMaker_isOwnership 18 = .ok (.iload_n 2, 1) := by decide +kernel
theorem d_DiscMaker_isOwnership_19 : decode b_DiscMaker_isOwnership 19 = .ok (.ldc 178, 2) := by decide +kernel
theorem d_DiscMaker_isOwnership_21 : decode b_DiscMaker_isOwnership 21 = .ok (.invokestatic 79, 3) := by decide +kernel
theorem d_DiscMaker_isOwnership_24 : decode b_DiscMaker_isOwnership 24 = .ok (.ifCond .eq 7, 3) := by decide +kernel
theorem d_DiscMaker_isOwnership_27 : decode b_DiscMaker_isOwnership 27 = .ok (.iconst 1, 1) := by decide +kernel
theorem d_DiscMaker_isOwnership_28 : decode b_DiscMaker_isOwnership 28 = .ok (.goto 4, 3) := by decide +kernel
theorem d_DiscMaker_isOwnership_31 : decode b_DiscMaker_isOwnership 31 = .ok (.iconst 0, 1) := by decide +kernel
theorem d_DiscMaker_isOwnership_32 : decode b_DiscMaker_isOwnership 32 = .ok (.ireturn, 1) := by decide +kernel
set_option maxHeartbeats 4000000 in
set_option maxRecDepth 100000 in
theorem c_isOwnership (l : Launch) (D : va_G) (cB cI cJ cZ cN cF : ClassId) (sz : Nat) (x y z : Int32) : Met l y_DiscMaker_isOwnership w_DiscMaker_isOwnership ({ frames := 1, cells := 0, slots := 0, locals := 21 }) (va_Pc [.int x, .int y, .int z] (fun U => U.heap.size = sz ∧ va_P D CL [] U.heap ∧ va_K D CL (TY cB cI cJ cZ cN cF) U ∧ NN U ∧ va_D (fun _ => True) [])) (va_Qi (fun (r : Int32) (u : Unit) => (r = 1 ∧ (zIn x 1000000 ∧ zIn y 1000000 ∧ zIn z 1000000)) ∨ (r = 0 ∧ ¬ (zIn x 1000000 ∧ zIn y 1000000 ∧ zIn z 1000000))) (fun (u : Unit) (t : State) => match u with | () => va_P D CL [] t.heap ∧ va_D (va_A [] sz) []) (va_A [] sz)) 0 0 (va_A [] sz) := by
  refine Met.ofW (cc := b_DiscMaker_isOwnership) (maxL := 3) (ret := some .boolean) (by decide) rfl ?_
  intro p e s m args below meth c s₁ B hml hv
  obtain ⟨rfl, hsz, hP, hK, hN, hD0⟩ := hv
  have hx := B.exec
  have hb := B.bytes
  have hr := B.returns
  have hts := atoms_spec (ws := w_DiscMaker_isOwnership) B.pre
  have ht9 := fun (w : Cond) (h : w ∈ lw_g) => hts w (List.mem_cons_of_mem _ h)
  have hown : s.vm.findClass "DiscMaker" = some m.cls := findClass_of_methodNamed B.named
  have hlocks := B.notSynchronized
  subst hsz
  have hD := hD0.self (sz := s.heap.size)
  generalize hAe : va_A [] s.heap.size = A at hD ⊢
  have hA : ∀ q : Nat, s.heap.size ≤ q → A q := fun q h => by rw [← hAe]; exact Or.inr h
  have hS : va_S A s.heap s.heap [] := va_S.rf
  have hP : va_P D CL [] s.heap := hP
  have hl := lv_entry [.int x, .int y, .int z] (n := 3) (Nat.le_of_ble_eq_true rfl)
  rw [lg_entry_eq]
  generalize (lg_sl [.int x, .int y, .int z] ++ List.replicate (3 - (lg_sl [.int x, .int y, .int z]).length) Slot.unset).toArray = ls at hl ⊢
  have hl : lv_has ls 3 [(0, .int x), (1, .int y), (2, .int z)] := hl
  refine lv_iload_n hx hb d_DiscMaker_isOwnership_0 rfl (lv_at hl 0 rfl) ?_
  refine lv_ldc (v := 1000000) hx hb hown (ht9 _ k478) d_DiscMaker_isOwnership_1 ?_
  have hPc := hP.sub (ws' := []) [] rfl
  have hDc := hD.sub (ws' := []) [] (by decide) rfl
  have hFc := va_free (wc := []) hD hS hA [] rfl
  have hkc : 0 ≤ 0 := by decide
  have hks : 0 ≤ 0 := by decide
  refine va_calli (va_runS (As := [.int x, .int 1000000]) (rest := []) ⟨hx, hb, hml, hown, hts⟩ (c_isWithin l D cB cI cJ cZ cN cF s.heap.size x 1000000) (cwS 2 hts (lg_goodS k479 k480 k115 kc_DiscMaker_isWithin) rfl rfl rfl (by decide +kernel) ⟨Nat.le_of_ble_eq_true rfl, Nat.le_of_ble_eq_true rfl⟩) ⟨fun a U g mk q => by obtain ⟨q0, q1, qP, qK, qN, qD⟩ := q; exact ⟨q0, q1, qP, va_K.moved (u := U) (U := U.calling g mk a) (Vm.Alike.refl U.vm) qK, qN.calling, qD⟩, fun U hU hW => ⟨rfl, by rw [hU], by rw [hU]; exact hPc, va_K.moved hW.alike hK, NN.warm hW hN, hDc.weaken (fun _ _ _ _ => trivial)⟩⟩ rfl rfl hl.1 rfl (lv_room (Nat.le_of_ble_eq_true rfl)) d_DiscMaker_isOwnership_3 ⟨hkc, hks⟩) hS (fun q _ h => hFc q h) hFc (fun r3 u t H1 locs ht hvm hp_3 hB hz1 hk1 hS => ?_)
  obtain ⟨hP1, hD1⟩ := hB
  rw [ht] at hP1
  try dsimp only at hp_3
  obtain ⟨hP, hD⟩ := va_join (wr := []) (w1 := []) hP hD [] [] rfl rfl (by decide) (by decide) hk1 hFc hP1 hD1
  clear hPc hDc hFc hP1 hD1 hk1 hz1
  generalize H1 = H at hP hS ⊢
  have hP : va_P D CL [] H := hP
  have hD : va_D A [] := hD
  rcases hp_3 with ⟨rfl, hx1⟩ | ⟨rfl, hx1⟩
  · skip
    refine lv_if_eq (tgt := 31) hx hb d_DiscMaker_isOwnership_6 (by decide) (fun h_6 => absurd h_6 (by decide)) (fun h_6 => ?_)
    refine lv_iload_n hx hb d_DiscMaker_isOwnership_9 rfl (lv_at hl 1 rfl) ?_
    refine lv_ldc (v := 1000000) hx hb hown (ht9 _ k478) d_DiscMaker_isOwnership_10 ?_
    have hPc := hP.sub (ws' := []) [] rfl
    have hDc := hD.sub (ws' := []) [] (by decide) rfl
    have hFc := va_free (wc := []) hD hS hA [] rfl
    have hkc : 0 ≤ 0 := by decide
    have hks : 0 ≤ 0 := by decide
    refine va_calli (va_runS (As := [.int y, .int 1000000]) (rest := []) ⟨hx, hb, hml, hown, hts⟩ (c_isWithin l D cB cI cJ cZ cN cF H.size y 1000000) (cwS 2 hts (lg_goodS k479 k480 k115 kc_DiscMaker_isWithin) rfl rfl rfl (by decide +kernel) ⟨Nat.le_of_ble_eq_true rfl, Nat.le_of_ble_eq_true rfl⟩) ⟨fun a U g mk q => by obtain ⟨q0, q1, qP, qK, qN, qD⟩ := q; exact ⟨q0, q1, qP, va_K.moved (u := U) (U := U.calling g mk a) (Vm.Alike.refl U.vm) qK, qN.calling, qD⟩, fun U hU hW => ⟨rfl, by rw [hU], by rw [hU]; exact hPc, va_K.moved hW.alike hK, NN.warm hW hN, hDc.weaken (fun _ _ _ _ => trivial)⟩⟩ rfl rfl hl.1 rfl (lv_room (Nat.le_of_ble_eq_true rfl)) d_DiscMaker_isOwnership_12 ⟨hkc, hks⟩) hS (fun q _ h => hFc q h) hFc (fun r12 u t H1 locs ht hvm hp_12 hB hz1 hk1 hS => ?_)
    obtain ⟨hP1, hD1⟩ := hB
    rw [ht] at hP1
    try dsimp only at hp_12
    obtain ⟨hP, hD⟩ := va_join (wr := []) (w1 := []) hP hD [] [] rfl rfl (by decide) (by decide) hk1 hFc hP1 hD1
    clear hPc hDc hFc hP1 hD1 hk1 hz1
    generalize H1 = H at hP hS ⊢
    have hP : va_P D CL [] H := hP
    have hD : va_D A [] := hD
    rcases hp_12 with ⟨rfl, hy1⟩ | ⟨rfl, hy1⟩
    · skip
      refine lv_if_eq (tgt := 31) hx hb d_DiscMaker_isOwnership_15 (by decide) (fun h_15 => absurd h_15 (by decide)) (fun h_15 => ?_)
      refine lv_iload_n hx hb d_DiscMaker_isOwnership_18 rfl (lv_at hl 2 rfl) ?_
      refine lv_ldc (v := 1000000) hx hb hown (ht9 _ k478) d_DiscMaker_isOwnership_19 ?_
      have hPc := hP.sub (ws' := []) [] rfl
      have hDc := hD.sub (ws' := []) [] (by decide) rfl
      have hFc := va_free (wc := []) hD hS hA [] rfl
      have hkc : 0 ≤ 0 := by decide
      have hks : 0 ≤ 0 := by decide
      refine va_calli (va_runS (As := [.int z, .int 1000000]) (rest := []) ⟨hx, hb, hml, hown, hts⟩ (c_isWithin l D cB cI cJ cZ cN cF H.size z 1000000) (cwS 2 hts (lg_goodS k479 k480 k115 kc_DiscMaker_isWithin) rfl rfl rfl (by decide +kernel) ⟨Nat.le_of_ble_eq_true rfl, Nat.le_of_ble_eq_true rfl⟩) ⟨fun a U g mk q => by obtain ⟨q0, q1, qP, qK, qN, qD⟩ := q; exact ⟨q0, q1, qP, va_K.moved (u := U) (U := U.calling g mk a) (Vm.Alike.refl U.vm) qK, qN.calling, qD⟩, fun U hU hW => ⟨rfl, by rw [hU], by rw [hU]; exact hPc, va_K.moved hW.alike hK, NN.warm hW hN, hDc.weaken (fun _ _ _ _ => trivial)⟩⟩ rfl rfl hl.1 rfl (lv_room (Nat.le_of_ble_eq_true rfl)) d_DiscMaker_isOwnership_21 ⟨hkc, hks⟩) hS (fun q _ h => hFc q h) hFc (fun r21 u t H1 locs ht hvm hp_21 hB hz1 hk1 hS => ?_)
      obtain ⟨hP1, hD1⟩ := hB
      rw [ht] at hP1
      try dsimp only at hp_21
      obtain ⟨hP, hD⟩ := va_join (wr := []) (w1 := []) hP hD [] [] rfl rfl (by decide) (by decide) hk1 hFc hP1 hD1
      clear hPc hDc hFc hP1 hD1 hk1 hz1
      generalize H1 = H at hP hS ⊢
      have hP : va_P D CL [] H := hP
      have hD : va_D A [] := hD
      rcases hp_21 with ⟨rfl, hz1⟩ | ⟨rfl, hz1⟩
      · skip
        refine lv_if_eq (tgt := 31) hx hb d_DiscMaker_isOwnership_24 (by decide) (fun h_24 => absurd h_24 (by decide)) (fun h_24 => ?_)
        refine lv_iconst (v := 1) hx hb d_DiscMaker_isOwnership_27 (by decide) ?_
        refine lv_goto (tgt := 32) hx hb d_DiscMaker_isOwnership_28 (by decide) ?_
        have hP9 := hP.sub (ws' := []) [] rfl
        have hD9 := hD.sub (ws' := []) [] (by decide) rfl
        exact W.zret (v := 1) hx hb hr (by first | rfl | decide) (fun t ht hW => ⟨⟨1, (), rfl, by first | exact Or.inl ⟨rfl, hx1, hy1, hz1⟩ | exact Or.inr ⟨rfl, fun h => hz1 h.2.2⟩ | exact Or.inr ⟨rfl, fun h => hy1 h.2.1⟩ | exact Or.inr ⟨rfl, fun h => hx1 h.1⟩, by rw [ht]; exact hP9, hD9⟩, hS.F ht⟩) hS.2.2 d_DiscMaker_isOwnership_32
      · skip
        refine lv_if_eq (tgt := 31) hx hb d_DiscMaker_isOwnership_24 (by decide) (fun h_24 => ?_) (fun h_24 => absurd (by decide) h_24)
        refine lv_iconst (v := 0) hx hb d_DiscMaker_isOwnership_31 (by decide) ?_
        have hP9 := hP.sub (ws' := []) [] rfl
        have hD9 := hD.sub (ws' := []) [] (by decide) rfl
        exact W.zret (v := 0) hx hb hr (by first | rfl | decide) (fun t ht hW => ⟨⟨0, (), rfl, by first | exact Or.inl ⟨rfl, hx1, hy1, hz1⟩ | exact Or.inr ⟨rfl, fun h => hz1 h.2.2⟩ | exact Or.inr ⟨rfl, fun h => hy1 h.2.1⟩ | exact Or.inr ⟨rfl, fun h => hx1 h.1⟩, by rw [ht]; exact hP9, hD9⟩, hS.F ht⟩) hS.2.2 d_DiscMaker_isOwnership_32
    · skip
      refine lv_if_eq (tgt := 31) hx hb d_DiscMaker_isOwnership_15 (by decide) (fun h_15 => ?_) (fun h_15 => absurd (by decide) h_15)
      refine lv_iconst (v := 0) hx hb d_DiscMaker_isOwnership_31 (by decide) ?_
      have hP9 := hP.sub (ws' := []) [] rfl
      have hD9 := hD.sub (ws' := []) [] (by decide) rfl
      exact W.zret (v := 0) hx hb hr (by first | rfl | decide) (fun t ht hW => ⟨⟨0, (), rfl, by first | exact Or.inl ⟨rfl, hx1, hy1, hz1⟩ | exact Or.inr ⟨rfl, fun h => hz1 h.2.2⟩ | exact Or.inr ⟨rfl, fun h => hy1 h.2.1⟩ | exact Or.inr ⟨rfl, fun h => hx1 h.1⟩, by rw [ht]; exact hP9, hD9⟩, hS.F ht⟩) hS.2.2 d_DiscMaker_isOwnership_32
  · skip
    refine lv_if_eq (tgt := 31) hx hb d_DiscMaker_isOwnership_6 (by decide) (fun h_6 => ?_) (fun h_6 => absurd (by decide) h_6)
    refine lv_iconst (v := 0) hx hb d_DiscMaker_isOwnership_31 (by decide) ?_
    have hP9 := hP.sub (ws' := []) [] rfl
    have hD9 := hD.sub (ws' := []) [] (by decide) rfl
    exact W.zret (v := 0) hx hb hr (by first | rfl | decide) (fun t ht hW => ⟨⟨0, (), rfl, by first | exact Or.inl ⟨rfl, hx1, hy1, hz1⟩ | exact Or.inr ⟨rfl, fun h => hz1 h.2.2⟩ | exact Or.inr ⟨rfl, fun h => hy1 h.2.1⟩ | exact Or.inr ⟨rfl, fun h => hx1 h.1⟩, by rw [ht]; exact hP9, hD9⟩, hS.F ht⟩) hS.2.2 d_DiscMaker_isOwnership_32

theorem d_Text_addFour_0 : decode b_Text_addFour 0 = .ok (.bipush 24, 2) := by decide +kernel
theorem d_Text_addFour_2 : decode b_Text_addFour 2 = .ok (.istore_n 2, 1) := by decide +kernel
theorem d_Text_addFour_3 : decode b_Text_addFour 3 = .ok (.iload_n 2, 1) := by decide +kernel
theorem d_Text_addFour_4 : decode b_Text_addFour 4 = .ok (.ifCond .lt 32, 3) := by decide +kernel
theorem d_Text_addFour_7 : decode b_Text_addFour 7 = .ok (.aload_n 0, 1) := by decide +kernel
theorem d_Text_addFour_8 : decode b_Text_addFour 8 = .ok (.getfield 9, 3) := by decide +kernel
theorem d_Text_addFour_11 : decode b_Text_addFour 11 = .ok (.aload_n 0, 1) := by decide +kernel
theorem d_Text_addFour_12 : decode b_Text_addFour 12 = .ok (.getfield 15, 3) := by decide +kernel
theorem d_Text_addFour_15 : decode b_Text_addFour 15 = .ok (.iload_n 1, 1) := by decide +kernel
theorem d_Text_addFour_16 : decode b_Text_addFour 16 = .ok (.iload_n 2, 1) := by decide +kernel
theorem d_Text_addFour_17 : decode b_Text_addFour 17 = .ok (.ishr, 1) := by decide +kernel
theorem d_Text_addFour_18 : decode b_Text_addFour 18 = .ok (.i2b, 1) := by decide +kernel
theorem d_Text_addFour_19 : decode b_Text_addFour 19 = .ok (.bastore, 1) := by decide +kernel
theorem d_Text_addFour_20 : decode b_Text_addFour 20 = .ok (.aload_n 0, 1) := by decide +kernel
theorem d_Text_addFour_21 : decode b_Text_addFour 21 = .ok (.dup, 1) := by decide +kernel
theorem d_Text_addFour_22 : decode b_Text_addFour 22 = .ok (.getfield 15, 3) := by decide +kernel
theorem d_Text_addFour_25 : decode b_Text_addFour 25 = .ok (.iconst 1, 1) := by decide +kernel
theorem d_Text_addFour_26 : decode b_Text_addFour 26 = .ok (.iadd, 1) := by decide +kernel
theorem d_Text_addFour_27 : decode b_Text_addFour 27 = .ok (.putfield 15, 3) := by decide +kernel
theorem d_Text_addFour_30 : decode b_Text_addFour 30 = .ok (.iinc 2 (-8), 3) := by decide +kernel
theorem d_Text_addFour_33 : decode b_Text_addFour 33 = .ok (.goto (-30), 3) := by decide +kernel
theorem d_Text_addFour_36 : decode b_Text_addFour 36 = .ok (.return_, 1) := by decide +kernel
set_option maxHeartbeats 4000000 in
set_option maxRecDepth 100000 in
theorem c_addFour (l : Launch) (D : va_G) (cB cI cJ cZ cN cF : ClassId) (sz : Nat) (h0 q b : Nat) (f : Nat → Int32) (x : Int32) (hb4 : b + 4 ≤ 400) : Met l y_Text_addFour w_Text_addFour ({ frames := 0, cells := 0, slots := 0, locals := 0 }) (va_Pc [.ref h0, .int x] (fun U => U.heap.size = sz ∧ va_P D CL [(h0, .inr (9, [.ref q, .int (nI b)])), (q, .inl (cB, 400, .inl f))] U.heap ∧ va_K D CL (TY cB cI cJ cZ cN cF) U ∧ NN U ∧ va_D (fun _ => True) [(h0, .inr (9, [.ref q, .int (nI b)])), (q, .inl (cB, 400, .inl f))])) (va_Qv (fun (u : Nat → Int32) => True) (fun (u : Nat → Int32) (t : State) => match u with | g => va_P D CL [(h0, .inr (9, [.ref q, .int (nI (b + 4))])), (q, .inl (cB, 400, .inl g))] t.heap ∧ va_D (va_A [(h0, .inr (9, [.ref q, .int (nI b)])), (q, .inl (cB, 400, .inl f))] sz) [(h0, .inr (9, [.ref q, .int (nI (b + 4))])), (q, .inl (cB, 400, .inl g))]) (va_A [(h0, .inr (9, [.ref q, .int (nI b)])), (q, .inl (cB, 400, .inl f))] sz)) 0 0 (va_A [(h0, .inr (9, [.ref q, .int (nI b)])), (q, .inl (cB, 400, .inl f))] sz) := by
  refine Met.ofW (cc := b_Text_addFour) (maxL := 3) (ret := none) (by decide) rfl ?_
  intro p e s m args below meth c s₁ B hml hv
  obtain ⟨rfl, hsz, hP, hK, hN, hD0⟩ := hv
  have hx := B.exec
  have hb := B.bytes
  have hr := B.returns
  have hts := atoms_spec (ws := w_Text_addFour) B.pre
  have ht9 := fun (w : Cond) (h : w ∈ lw_g) => hts w (List.mem_cons_of_mem _ h)
  have hown : s.vm.findClass "DiscMaker$Text" = some m.cls := findClass_of_methodNamed B.named
  have hlocks := B.notSynchronized
  subst hsz
  have hD := hD0.self (sz := s.heap.size)
  generalize hAe : va_A [(h0, .inr (9, [.ref q, .int (nI b)])), (q, .inl (cB, 400, .inl f))] s.heap.size = A at hD ⊢
  have hA : ∀ q : Nat, s.heap.size ≤ q → A q := fun q h => by rw [← hAe]; exact Or.inr h
  have hS : va_S A s.heap s.heap [] := va_S.rf
  have hP : va_P D CL [(h0, .inr (9, [.ref q, .int (nI b)])), (q, .inl (cB, 400, .inl f))] s.heap := hP
  have hl := lv_entry [.ref h0, .int x] (n := 3) (Nat.le_of_ble_eq_true rfl)
  rw [lg_entry_eq]
  generalize (lg_sl [.ref h0, .int x] ++ List.replicate (3 - (lg_sl [.ref h0, .int x]).length) Slot.unset).toArray = ls at hl ⊢
  have hl : lv_has ls 3 [(0, .ref h0), (1, .int x)] := hl
  refine lv_bipush (v := 24) hx hb d_Text_addFour_0 (by decide) ?_
  refine lv_istore_n hx hb d_Text_addFour_2 rfl hl (by decide) rfl (fun ls hl => ?_)
  have hl : lv_has ls 3 [(2, .int 24), (0, .ref h0), (1, .int x)] := hl
  refine lv_iload_n hx hb d_Text_addFour_3 rfl (lv_at hl 0 rfl) ?_
  refine lv_if_lt (tgt := 36) hx hb d_Text_addFour_4 (by decide) (fun h_4 => absurd h_4 (by decide)) (fun h_4 => ?_)
  refine lv_aload_n hx hb d_Text_addFour_7 rfl (lv_at hl 1 rfl) ?_
  refine va_get (D := D) (ci := 9) (v := .ref q) (C := "DiscMaker$Text") (T := F_Text) (N := 2) hx hb ht9 in_Text hown hK hP 0 rfl rfl 0 (by decide) (ht9 _ k157) (fun _ h9 => h9) rfl d_Text_addFour_8 ?_
  refine lv_aload_n hx hb d_Text_addFour_11 rfl (lv_at hl 1 rfl) ?_
  refine va_get (D := D) (ci := 9) (v := .int (nI b)) (C := "DiscMaker$Text") (T := F_Text) (N := 2) hx hb ht9 in_Text hown hK hP 0 rfl rfl 1 (by decide) (ht9 _ k158) (fun _ h9 => h9) rfl d_Text_addFour_12 ?_
  refine lv_iload_n hx hb d_Text_addFour_15 rfl (lv_at hl 2 rfl) ?_
  refine lv_iload_n hx hb d_Text_addFour_16 rfl (lv_at hl 0 rfl) ?_
  refine lv_ishr hx hb d_Text_addFour_17 ?_
  refine lv_i2b hx hb d_Text_addFour_18 rfl ?_
  refine zz_bast hx hb hK hP hD hS 1 0 rfl rfl (vp_in_nI (by omega) (by omega)) d_Text_addFour_19 (fun f19 H locs hP hD hS => ?_)
  have hP : va_P D CL [(h0, .inr (9, [.ref q, .int (nI b)])), (q, .inl (cB, 400, .inl f19))] H := hP
  have hD : va_D A [(h0, .inr (9, [.ref q, .int (nI b)])), (q, .inl (cB, 400, .inl f19))] := hD
  refine lv_aload_n hx hb d_Text_addFour_20 rfl (lv_at hl 1 rfl) ?_
  refine lv_dup hx hb d_Text_addFour_21 rfl ?_
  refine va_get (D := D) (ci := 9) (v := .int (nI b)) (C := "DiscMaker$Text") (T := F_Text) (N := 2) hx hb ht9 in_Text hown hK hP 0 rfl rfl 1 (by decide) (ht9 _ k158) (fun _ h9 => h9) rfl d_Text_addFour_22 ?_
  refine lv_iconst (v := 1) hx hb d_Text_addFour_25 (by decide) ?_
  refine lv_iadd hx hb d_Text_addFour_26 ?_
  refine W.eq (g2 := F0 m 27 ls [.int (nI (b + 1)), .ref h0]) (by rw [show (((nI b) + 1) : Int32) = nI (b + 1) from nI_add b 1]) ?_
  refine va_put (D := D) (ci := 9) (v := .int (nI (b + 1))) (ty := .int) (C := "DiscMaker$Text") (T := F_Text) (N := 2) hx hb ht9 in_Text t_Text t_Text_ok n_Text hown hK hP hD hS 0 rfl rfl 1 (by decide) (ht9 _ k158) (fun _ h9 => h9) rfl (by decide +kernel) rfl rfl (Nat.le_of_ble_eq_true rfl) d_Text_addFour_27 (fun H locs hP hD hS => ?_)
  have hP : va_P D CL [(h0, .inr (9, [.ref q, .int (nI (b + 1))])), (q, .inl (cB, 400, .inl f19))] H := hP
  have hD : va_D A [(h0, .inr (9, [.ref q, .int (nI (b + 1))])), (q, .inl (cB, 400, .inl f19))] := hD
  refine lv_iinc (v := 16) hx hb d_Text_addFour_30 hl (k := 0) rfl (by decide) (by decide) rfl (fun ls hl => ?_)
  have hl : lv_has ls 3 [(2, .int 16), (0, .ref h0), (1, .int x)] := hl
  refine lv_goto (tgt := 3) hx hb d_Text_addFour_33 (by decide) ?_
  refine lv_iload_n hx hb d_Text_addFour_3 rfl (lv_at hl 0 rfl) ?_
  refine lv_if_lt (tgt := 36) hx hb d_Text_addFour_4 (by decide) (fun h_4 => absurd h_4 (by decide)) (fun h_4 => ?_)
  refine lv_aload_n hx hb d_Text_addFour_7 rfl (lv_at hl 1 rfl) ?_
  refine va_get (D := D) (ci := 9) (v := .ref q) (C := "DiscMaker$Text") (T := F_Text) (N := 2) hx hb ht9 in_Text hown hK hP 0 rfl rfl 0 (by decide) (ht9 _ k157) (fun _ h9 => h9) rfl d_Text_addFour_8 ?_
  refine lv_aload_n hx hb d_Text_addFour_11 rfl (lv_at hl 1 rfl) ?_
  refine va_get (D := D) (ci := 9) (v := .int (nI (b + 1))) (C := "DiscMaker$Text") (T := F_Text) (N := 2) hx hb ht9 in_Text hown hK hP 0 rfl rfl 1 (by decide) (ht9 _ k158) (fun _ h9 => h9) rfl d_Text_addFour_12 ?_
  refine lv_iload_n hx hb d_Text_addFour_15 rfl (lv_at hl 2 rfl) ?_
  refine lv_iload_n hx hb d_Text_addFour_16 rfl (lv_at hl 0 rfl) ?_
  refine lv_ishr hx hb d_Text_addFour_17 ?_
  refine lv_i2b hx hb d_Text_addFour_18 rfl ?_
  refine zz_bast hx hb hK hP hD hS 1 0 rfl rfl (vp_in_nI (by omega) (by omega)) d_Text_addFour_19 (fun f19 H locs hP hD hS => ?_)
  have hP : va_P D CL [(h0, .inr (9, [.ref q, .int (nI (b + 1))])), (q, .inl (cB, 400, .inl f19))] H := hP
  have hD : va_D A [(h0, .inr (9, [.ref q, .int (nI (b + 1))])), (q, .inl (cB, 400, .inl f19))] := hD
  refine lv_aload_n hx hb d_Text_addFour_20 rfl (lv_at hl 1 rfl) ?_
  refine lv_dup hx hb d_Text_addFour_21 rfl ?_
  refine va_get (D := D) (ci := 9) (v := .int (nI (b + 1))) (C := "DiscMaker$Text") (T := F_Text) (N := 2) hx hb ht9 in_Text hown hK hP 0 rfl rfl 1 (by decide) (ht9 _ k158) (fun _ h9 => h9) rfl d_Text_addFour_22 ?_
  refine lv_iconst (v := 1) hx hb d_Text_addFour_25 (by decide) ?_
  refine lv_iadd hx hb d_Text_addFour_26 ?_
  refine W.eq (g2 := F0 m 27 ls [.int (nI ((b + 1) + 1)), .ref h0]) (by rw [show (((nI (b + 1)) + 1) : Int32) = nI ((b + 1) + 1) from nI_add (b + 1) 1]) ?_
  refine va_put (D := D) (ci := 9) (v := .int (nI ((b + 1) + 1))) (ty := .int) (C := "DiscMaker$Text") (T := F_Text) (N := 2) hx hb ht9 in_Text t_Text t_Text_ok n_Text hown hK hP hD hS 0 rfl rfl 1 (by decide) (ht9 _ k158) (fun _ h9 => h9) rfl (by decide +kernel) rfl rfl (Nat.le_of_ble_eq_true rfl) d_Text_addFour_27 (fun H locs hP hD hS => ?_)
  have hP : va_P D CL [(h0, .inr (9, [.ref q, .int (nI ((b + 1) + 1))])), (q, .inl (cB, 400, .inl f19))] H := hP
  have hD : va_D A [(h0, .inr (9, [.ref q, .int (nI ((b + 1) + 1))])), (q, .inl (cB, 400, .inl f19))] := hD
  refine lv_iinc (v := 8) hx hb d_Text_addFour_30 hl (k := 0) rfl (by decide) (by decide) rfl (fun ls hl => ?_)
  have hl : lv_has ls 3 [(2, .int 8), (0, .ref h0), (1, .int x)] := hl
  refine lv_goto (tgt := 3) hx hb d_Text_addFour_33 (by decide) ?_
  refine lv_iload_n hx hb d_Text_addFour_3 rfl (lv_at hl 0 rfl) ?_
  refine lv_if_lt (tgt := 36) hx hb d_Text_addFour_4 (by decide) (fun h_4 => absurd h_4 (by decide)) (fun h_4 => ?_)
  refine lv_aload_n hx hb d_Text_addFour_7 rfl (lv_at hl 1 rfl) ?_
  refine va_get (D := D) (ci := 9) (v := .ref q) (C := "DiscMaker$Text") (T := F_Text) (N := 2) hx hb ht9 in_Text hown hK hP 0 rfl rfl 0 (by decide) (ht9 _ k157) (fun _ h9 => h9) rfl d_Text_addFour_8 ?_
  refine lv_aload_n hx hb d_Text_addFour_11 rfl (lv_at hl 1 rfl) ?_
  refine va_get (D := D) (ci := 9) (v := .int (nI ((b + 1) + 1))) (C := "DiscMaker$Text") (T := F_Text) (N := 2) hx hb ht9 in_Text hown hK hP 0 rfl rfl 1 (by decide) (ht9 _ k158) (fun _ h9 => h9) rfl d_Text_addFour_12 ?_
  refine lv_iload_n hx hb d_Text_addFour_15 rfl (lv_at hl 2 rfl) ?_
  refine lv_iload_n hx hb d_Text_addFour_16 rfl (lv_at hl 0 rfl) ?_
  refine lv_ishr hx hb d_Text_addFour_17 ?_
  refine lv_i2b hx hb d_Text_addFour_18 rfl ?_
  refine zz_bast hx hb hK hP hD hS 1 0 rfl rfl (vp_in_nI (by omega) (by omega)) d_Text_addFour_19 (fun f19 H locs hP hD hS => ?_)
  have hP : va_P D CL [(h0, .inr (9, [.ref q, .int (nI ((b + 1) + 1))])), (q, .inl (cB, 400, .inl f19))] H := hP
  have hD : va_D A [(h0, .inr (9, [.ref q, .int (nI ((b + 1) + 1))])), (q, .inl (cB, 400, .inl f19))] := hD
  refine lv_aload_n hx hb d_Text_addFour_20 rfl (lv_at hl 1 rfl) ?_
  refine lv_dup hx hb d_Text_addFour_21 rfl ?_
  refine va_get (D := D) (ci := 9) (v := .int (nI ((b + 1) + 1))) (C := "DiscMaker$Text") (T := F_Text) (N := 2) hx hb ht9 in_Text hown hK hP 0 rfl rfl 1 (by decide) (ht9 _ k158) (fun _ h9 => h9) rfl d_Text_addFour_22 ?_
  refine lv_iconst (v := 1) hx hb d_Text_addFour_25 (by decide) ?_
  refine lv_iadd hx hb d_Text_addFour_26 ?_
  refine W.eq (g2 := F0 m 27 ls [.int (nI (((b + 1) + 1) + 1)), .ref h0]) (by rw [show (((nI ((b + 1) + 1)) + 1) : Int32) = nI (((b + 1) + 1) + 1) from nI_add ((b + 1) + 1) 1]) ?_
  refine va_put (D := D) (ci := 9) (v := .int (nI (((b + 1) + 1) + 1))) (ty := .int) (C := "DiscMaker$Text") (T := F_Text) (N := 2) hx hb ht9 in_Text t_Text t_Text_ok n_Text hown hK hP hD hS 0 rfl rfl 1 (by decide) (ht9 _ k158) (fun _ h9 => h9) rfl (by decide +kernel) rfl rfl (Nat.le_of_ble_eq_true rfl) d_Text_addFour_27 (fun H locs hP hD hS => ?_)
  have hP : va_P D CL [(h0, .inr (9, [.ref q, .int (nI (((b + 1) + 1) + 1))])), (q, .inl (cB, 400, .inl f19))] H := hP
  have hD : va_D A [(h0, .inr (9, [.ref q, .int (nI (((b + 1) + 1) + 1))])), (q, .inl (cB, 400, .inl f19))] := hD
  refine lv_iinc (v := 0) hx hb d_Text_addFour_30 hl (k := 0) rfl (by decide) (by decide) rfl (fun ls hl => ?_)
  have hl : lv_has ls 3 [(2, .int 0), (0, .ref h0), (1, .int x)] := hl
  refine lv_goto (tgt := 3) hx hb d_Text_addFour_33 (by decide) ?_
  refine lv_iload_n hx hb d_Text_addFour_3 rfl (lv_at hl 0 rfl) ?_
  refine lv_if_lt (tgt := 36) hx hb d_Text_addFour_4 (by decide) (fun h_4 => absurd h_4 (by decide)) (fun h_4 => ?_)
  refine lv_aload_n hx hb d_Text_addFour_7 rfl (lv_at hl 1 rfl) ?_
  refine va_get (D := D) (ci := 9) (v := .ref q) (C := "DiscMaker$Text") (T := F_Text) (N := 2) hx hb ht9 in_Text hown hK hP 0 rfl rfl 0 (by decide) (ht9 _ k157) (fun _ h9 => h9) rfl d_Text_addFour_8 ?_
  refine lv_aload_n hx hb d_Text_addFour_11 rfl (lv_at hl 1 rfl) ?_
  refine va_get (D := D) (ci := 9) (v := .int (nI (((b + 1) + 1) + 1))) (C := "DiscMaker$Text") (T := F_Text) (N := 2) hx hb ht9 in_Text hown hK hP 0 rfl rfl 1 (by decide) (ht9 _ k158) (fun _ h9 => h9) rfl d_Text_addFour_12 ?_
  refine lv_iload_n hx hb d_Text_addFour_15 rfl (lv_at hl 2 rfl) ?_
  refine lv_iload_n hx hb d_Text_addFour_16 rfl (lv_at hl 0 rfl) ?_
  refine lv_ishr hx hb d_Text_addFour_17 ?_
  refine lv_i2b hx hb d_Text_addFour_18 rfl ?_
  refine zz_bast hx hb hK hP hD hS 1 0 rfl rfl (vp_in_nI (by omega) (by omega)) d_Text_addFour_19 (fun f19 H locs hP hD hS => ?_)
  have hP : va_P D CL [(h0, .inr (9, [.ref q, .int (nI (((b + 1) + 1) + 1))])), (q, .inl (cB, 400, .inl f19))] H := hP
  have hD : va_D A [(h0, .inr (9, [.ref q, .int (nI (((b + 1) + 1) + 1))])), (q, .inl (cB, 400, .inl f19))] := hD
  refine lv_aload_n hx hb d_Text_addFour_20 rfl (lv_at hl 1 rfl) ?_
  refine lv_dup hx hb d_Text_addFour_21 rfl ?_
  refine va_get (D := D) (ci := 9) (v := .int (nI (((b + 1) + 1) + 1))) (C := "DiscMaker$Text") (T := F_Text) (N := 2) hx hb ht9 in_Text hown hK hP 0 rfl rfl 1 (by decide) (ht9 _ k158) (fun _ h9 => h9) rfl d_Text_addFour_22 ?_
  refine lv_iconst (v := 1) hx hb d_Text_addFour_25 (by decide) ?_
  refine lv_iadd hx hb d_Text_addFour_26 ?_
  refine W.eq (g2 := F0 m 27 ls [.int (nI ((((b + 1) + 1) + 1) + 1)), .ref h0]) (by rw [show (((nI (((b + 1) + 1) + 1)) + 1) : Int32) = nI ((((b + 1) + 1) + 1) + 1) from nI_add (((b + 1) + 1) + 1) 1]) ?_
  refine va_put (D := D) (ci := 9) (v := .int (nI ((((b + 1) + 1) + 1) + 1))) (ty := .int) (C := "DiscMaker$Text") (T := F_Text) (N := 2) hx hb ht9 in_Text t_Text t_Text_ok n_Text hown hK hP hD hS 0 rfl rfl 1 (by decide) (ht9 _ k158) (fun _ h9 => h9) rfl (by decide +kernel) rfl rfl (Nat.le_of_ble_eq_true rfl) d_Text_addFour_27 (fun H locs hP hD hS => ?_)
  have hP : va_P D CL [(h0, .inr (9, [.ref q, .int (nI ((((b + 1) + 1) + 1) + 1))])), (q, .inl (cB, 400, .inl f19))] H := hP
  have hD : va_D A [(h0, .inr (9, [.ref q, .int (nI ((((b + 1) + 1) + 1) + 1))])), (q, .inl (cB, 400, .inl f19))] := hD
  refine lv_iinc (v := (-8)) hx hb d_Text_addFour_30 hl (k := 0) rfl (by decide) (by decide) rfl (fun ls hl => ?_)
  have hl : lv_has ls 3 [(2, .int (-8)), (0, .ref h0), (1, .int x)] := hl
  refine lv_goto (tgt := 3) hx hb d_Text_addFour_33 (by decide) ?_
  refine lv_iload_n hx hb d_Text_addFour_3 rfl (lv_at hl 0 rfl) ?_
  refine lv_if_lt (tgt := 36) hx hb d_Text_addFour_4 (by decide) (fun h_4 => ?_) (fun h_4 => absurd (by decide) h_4)
  have hP9 := hP.sub (ws' := [(h0, .inr (9, [.ref q, .int (nI ((((b + 1) + 1) + 1) + 1))])), (q, .inl (cB, 400, .inl f19))]) [0, 1] rfl
  have hD9 := hD.sub (ws' := [(h0, .inr (9, [.ref q, .int (nI ((((b + 1) + 1) + 1) + 1))])), (q, .inl (cB, 400, .inl f19))]) [0, 1] (by decide) rfl
  exact W.vret hx hb hr (fun t ht hW => ⟨⟨f19, rfl, trivial, by rw [ht]; exact hP9, hD9⟩, hS.F ht⟩) hS.2.2 d_Text_addFour_36
