theorem d_PartsReader_isComponent_0 : decode b_PartsReader_isComponent 0 = .ok (.iload_n 0, 1) := by decide +kernel
theorem d_PartsReader_isComponent_1 : decode b_PartsReader_isComponent 1 = .ok (.ifCond .eq 23, 3) := by decide +kernel
theorem d_PartsReader_isComponent_4 : decode b_PartsReader_isComponent 4 = .ok (.iload_n 1, 1) := by decide +kernel
theorem d_PartsReader_isComponent_5 : decode b_PartsReader_isComponent 5 = .ok (.ifCond .ne 23, 3) := by decide +kernel
theorem d_PartsReader_isComponent_8 : decode b_PartsReader_isComponent 8 = .ok (.iload_n 0, 1) := by decide +kernel
theorem d_PartsReader_isComponent_9 : decode b_PartsReader_isComponent 9 = .ok (.iconst 2, 1) := by decide +kernel
theorem d_PartsReader_isComponent_10 : decode b_PartsReader_isComponent 10 = .ok (.if_icmp .eq 14, 3) := by decide +kernel
theorem d_PartsReader_isComponent_13 : decode b_PartsReader_isComponent 13 = .ok (.iload_n 0, 1) := by decide +kernel
theorem d_PartsReader_isComponent_14 : decode b_PartsReader_isComponent 14 = .ok (.iconst 4, 1) := by decide +kernel
theorem d_PartsReader_isComponent_15 : decode b_PartsReader_isComponent 15 = .ok (.if_icmp .eq 9, 3) := by decide +kernel
theorem d_PartsReader_isComponent_18 : decode b_PartsReader_isComponent 18 = .ok (.iload_n 0, 1) := by decide +kernel
theorem d_PartsReader_isComponent_19 : decode b_PartsReader_isComponent 19 = .ok (.bipush 8, 2) := by decide +kernel
theorem d_PartsReader_isComponent_21 : decode b_PartsReader_isComponent 21 = .ok (.if_icmp .ne 7, 3) := by decide +kernel
theorem d_PartsReader_isComponent_24 : decode b_PartsReader_isComponent 24 = .ok (.iconst 1, 1) := by decide +kernel
theorem d_PartsReader_isComponent_25 : decode b_PartsReader_isComponent 25 = .ok (.goto 4, 3) := by decide +kernel
theorem d_PartsReader_isComponent_28 : decode b_PartsReader_isComponent 28 = .ok (.iconst 0, 1) := by decide +kernel
theorem d_PartsReader_isComponent_29 : decode b_PartsReader_isComponent 29 = .ok (.ireturn, 1) := by decide +kernel
set_option maxHeartbeats 4000000 in
set_option maxRecDepth 100000 in
theorem c3_isComponent (l : Launch) (D : va_G) (cB cI cJ cZ cN cF : ClassId) (sz : Nat) (x : Int32) (y : Int32) : Met l y_PartsReader_isComponent w_PartsReader_isComponent ({ frames := 0, cells := 0, slots := 0, locals := 0 }) (va_Pc [.int x, .int y] (fun U => U.heap.size = sz ∧ va_P D CL [] U.heap ∧ va_K D CL (TY cB cI cJ cZ cN cF) U ∧ NN U ∧ va_D (fun _ => True) [])) (va_Qi (fun (r : Int32) (u : Unit) => (0 ≤ r.toInt ∧ r.toInt ≤ 1) ∧ (r.toInt ≠ 0 → x.toInt = 0 ∨ (y.toInt = 0 ∧ (x.toInt = 2 ∨ x.toInt = 4 ∨ x.toInt = 8)))) (fun (u : Unit) (t : State) => match u with | () => va_P D CL [] t.heap ∧ va_D (va_A [] sz) []) (va_A [] sz)) 0 0 (va_A [] sz) := by
  refine Met.ofW (cc := b_PartsReader_isComponent) (maxL := 2) (ret := some .boolean) (by decide +kernel) rfl ?_
  intro p e s m args below meth c s₁ B hml hv
  obtain ⟨rfl, hsz, hP, hK, hN, hD0⟩ := hv
  have hx := B.exec
  have hb := B.bytes
  have hr := B.returns
  have hts := atoms_spec (ws := w_PartsReader_isComponent) B.pre
  have ht9 := fun (w : Cond) (h : w ∈ lw_g) => hts w (List.mem_cons_of_mem _ h)
  have hown : s.vm.findClass "DiscMaker$PartsReader" = some m.cls := findClass_of_methodNamed B.named
  have hlocks := B.notSynchronized
  subst hsz
  have hD := hD0.self (sz := s.heap.size)
  generalize hAe : va_A [] s.heap.size = A at hD ⊢
  have hA : ∀ q : Nat, s.heap.size ≤ q → A q := fun q h => by rw [← hAe]; exact Or.inr h
  have hS : va_S A s.heap s.heap [] := va_S.rf
  have hP : va_P D CL [] s.heap := hP
  have hl := lv_entry [.int x, .int y] (n := 2) (Nat.le_of_ble_eq_true rfl)
  rw [lg_entry_eq]
  generalize (lg_sl [.int x, .int y] ++ List.replicate (2 - (lg_sl [.int x, .int y]).length) Slot.unset).toArray = ls at hl ⊢
  have hl : lv_has ls 2 [(0, .int x), (1, .int y)] := hl
  have L_m1 : ((-1) : Int32).toInt = (-1) := by decide
  have L_0 : (0 : Int32).toInt = 0 := by decide
  have L_1 : (1 : Int32).toInt = 1 := by decide
  have L_2 : (2 : Int32).toInt = 2 := by decide
  have L_4 : (4 : Int32).toInt = 4 := by decide
  have L_8 : (8 : Int32).toInt = 8 := by decide
  refine lv_iload_n hx hb d_PartsReader_isComponent_0 rfl (lv_at hl 0 rfl) ?_
  refine lv_if_eq (tgt := 24) hx hb d_PartsReader_isComponent_1 (by decide) (fun h_9 => ?_) (fun h_9 => ?_)
  · skip
    have g1_2 : x.toInt = 0 := (i_eq rfl (by decide)).mp h_9
    refine lv_iconst (v := 1) hx hb d_PartsReader_isComponent_24 (by decide) ?_
    refine lv_goto (tgt := 29) hx hb d_PartsReader_isComponent_25 (by decide) ?_
    have hP9 := hP.sub (ws' := []) [] rfl
    have hD9 := hD.sub (ws' := []) [] (by decide +kernel) rfl
    exact W.zret (v := 1) hx hb hr (by first | rfl | decide | exact i_narZ (by omega)) (fun t ht hW => ⟨⟨1, (), rfl, ⟨(by (try dsimp only); first | assumption | omega | trivial), (by (try dsimp only); intro h7; first | (exfalso; omega) | omega | assumption)⟩, by rw [ht]; exact hP9, hD9⟩, hS.F ht⟩) hS.2.2 d_PartsReader_isComponent_29
  · skip
    have g1_2 : ¬ x.toInt = 0 := fun h8 => h_9 ((i_eq rfl (by decide)).mpr h8)
    refine lv_iload_n hx hb d_PartsReader_isComponent_4 rfl (lv_at hl 1 rfl) ?_
    refine lv_if_ne (tgt := 28) hx hb d_PartsReader_isComponent_5 (by decide) (fun h_9 => ?_) (fun h_9 => ?_)
    · skip
      have g5_7 : ¬ y.toInt = 0 := fun h8 => h_9 ((i_eq rfl (by decide)).mpr h8)
      refine lv_iconst (v := 0) hx hb d_PartsReader_isComponent_28 (by decide) ?_
      have hP9 := hP.sub (ws' := []) [] rfl
      have hD9 := hD.sub (ws' := []) [] (by decide +kernel) rfl
      exact W.zret (v := 0) hx hb hr (by first | rfl | decide | exact i_narZ (by omega)) (fun t ht hW => ⟨⟨0, (), rfl, ⟨(by (try dsimp only); first | assumption | omega | trivial), (by (try dsimp only); intro h7; first | (exfalso; omega) | omega | assumption)⟩, by rw [ht]; exact hP9, hD9⟩, hS.F ht⟩) hS.2.2 d_PartsReader_isComponent_29
    · skip
      have g5_7 : y.toInt = 0 := (i_eq rfl (by decide)).mp h_9
      refine lv_iload_n hx hb d_PartsReader_isComponent_8 rfl (lv_at hl 0 rfl) ?_
      refine lv_iconst (v := 2) hx hb d_PartsReader_isComponent_9 (by decide) ?_
      refine lv_icmp_eq (tgt := 24) hx hb d_PartsReader_isComponent_10 (by decide) (fun h_9 => ?_) (fun h_9 => ?_)
      · skip
        have g10_12 : x.toInt = 2 := (i_eq rfl (by decide)).mp h_9
        refine lv_iconst (v := 1) hx hb d_PartsReader_isComponent_24 (by decide) ?_
        refine lv_goto (tgt := 29) hx hb d_PartsReader_isComponent_25 (by decide) ?_
        have hP9 := hP.sub (ws' := []) [] rfl
        have hD9 := hD.sub (ws' := []) [] (by decide +kernel) rfl
        exact W.zret (v := 1) hx hb hr (by first | rfl | decide | exact i_narZ (by omega)) (fun t ht hW => ⟨⟨1, (), rfl, ⟨(by (try dsimp only); first | assumption | omega | trivial), (by (try dsimp only); intro h7; first | (exfalso; omega) | omega | assumption)⟩, by rw [ht]; exact hP9, hD9⟩, hS.F ht⟩) hS.2.2 d_PartsReader_isComponent_29
      · skip
        have g10_12 : ¬ x.toInt = 2 := fun h8 => h_9 ((i_eq rfl (by decide)).mpr h8)
        refine lv_iload_n hx hb d_PartsReader_isComponent_13 rfl (lv_at hl 0 rfl) ?_
        refine lv_iconst (v := 4) hx hb d_PartsReader_isComponent_14 (by decide) ?_
        refine lv_icmp_eq (tgt := 24) hx hb d_PartsReader_isComponent_15 (by decide) (fun h_9 => ?_) (fun h_9 => ?_)
        · skip
          have g15_18 : x.toInt = 4 := (i_eq rfl (by decide)).mp h_9
          refine lv_iconst (v := 1) hx hb d_PartsReader_isComponent_24 (by decide) ?_
          refine lv_goto (tgt := 29) hx hb d_PartsReader_isComponent_25 (by decide) ?_
          have hP9 := hP.sub (ws' := []) [] rfl
          have hD9 := hD.sub (ws' := []) [] (by decide +kernel) rfl
          exact W.zret (v := 1) hx hb hr (by first | rfl | decide | exact i_narZ (by omega)) (fun t ht hW => ⟨⟨1, (), rfl, ⟨(by (try dsimp only); first | assumption | omega | trivial), (by (try dsimp only); intro h7; first | (exfalso; omega) | omega | assumption)⟩, by rw [ht]; exact hP9, hD9⟩, hS.F ht⟩) hS.2.2 d_PartsReader_isComponent_29
        · skip
          have g15_18 : ¬ x.toInt = 4 := fun h8 => h_9 ((i_eq rfl (by decide)).mpr h8)
          refine lv_iload_n hx hb d_PartsReader_isComponent_18 rfl (lv_at hl 0 rfl) ?_
          refine lv_bipush (v := 8) hx hb d_PartsReader_isComponent_19 (by decide) ?_
          refine lv_icmp_ne (tgt := 28) hx hb d_PartsReader_isComponent_21 (by decide) (fun h_9 => ?_) (fun h_9 => ?_)
          · skip
            have g21_24 : ¬ x.toInt = 8 := fun h8 => h_9 ((i_eq rfl (by decide)).mpr h8)
            refine lv_iconst (v := 0) hx hb d_PartsReader_isComponent_28 (by decide) ?_
            have hP9 := hP.sub (ws' := []) [] rfl
            have hD9 := hD.sub (ws' := []) [] (by decide +kernel) rfl
            exact W.zret (v := 0) hx hb hr (by first | rfl | decide | exact i_narZ (by omega)) (fun t ht hW => ⟨⟨0, (), rfl, ⟨(by (try dsimp only); first | assumption | omega | trivial), (by (try dsimp only); intro h7; first | (exfalso; omega) | omega | assumption)⟩, by rw [ht]; exact hP9, hD9⟩, hS.F ht⟩) hS.2.2 d_PartsReader_isComponent_29
          · skip
            have g21_24 : x.toInt = 8 := (i_eq rfl (by decide)).mp h_9
            refine lv_iconst (v := 1) hx hb d_PartsReader_isComponent_24 (by decide) ?_
            refine lv_goto (tgt := 29) hx hb d_PartsReader_isComponent_25 (by decide) ?_
            have hP9 := hP.sub (ws' := []) [] rfl
            have hD9 := hD.sub (ws' := []) [] (by decide +kernel) rfl
            exact W.zret (v := 1) hx hb hr (by first | rfl | decide | exact i_narZ (by omega)) (fun t ht hW => ⟨⟨1, (), rfl, ⟨(by (try dsimp only); first | assumption | omega | trivial), (by (try dsimp only); intro h7; first | (exfalso; omega) | omega | assumption)⟩, by rw [ht]; exact hP9, hD9⟩, hS.F ht⟩) hS.2.2 d_PartsReader_isComponent_29

theorem d_PartsReader_dotsOf_0 : decode b_PartsReader_dotsOf 0 = .ok (.iload_n 0, 1) := by decide +kernel
theorem d_PartsReader_dotsOf_1 : decode b_PartsReader_dotsOf 1 = .ok (.iconst 2, 1) := by decide +kernel
theorem d_PartsReader_dotsOf_2 : decode b_PartsReader_dotsOf 2 = .ok (.if_icmp .ne 7, 3) := by decide +kernel
theorem d_PartsReader_dotsOf_5 : decode b_PartsReader_dotsOf 5 = .ok (.iconst 1, 1) := by decide +kernel
theorem d_PartsReader_dotsOf_6 : decode b_PartsReader_dotsOf 6 = .ok (.goto 13, 3) := by decide +kernel
theorem d_PartsReader_dotsOf_9 : decode b_PartsReader_dotsOf 9 = .ok (.iload_n 0, 1) := by decide +kernel
theorem d_PartsReader_dotsOf_10 : decode b_PartsReader_dotsOf 10 = .ok (.iconst 4, 1) := by decide +kernel
theorem d_PartsReader_dotsOf_11 : decode b_PartsReader_dotsOf 11 = .ok (.if_icmp .ne 7, 3) := by decide +kernel
theorem d_PartsReader_dotsOf_14 : decode b_PartsReader_dotsOf 14 = .ok (.iconst 2, 1) := by decide +kernel
theorem d_PartsReader_dotsOf_15 : decode b_PartsReader_dotsOf 15 = .ok (.goto 4, 3) := by decide +kernel
theorem d_PartsReader_dotsOf_18 : decode b_PartsReader_dotsOf 18 = .ok (.iconst 0, 1) := by decide +kernel
theorem d_PartsReader_dotsOf_19 : decode b_PartsReader_dotsOf 19 = .ok (.ireturn, 1) := by decide +kernel
set_option maxHeartbeats 4000000 in
set_option maxRecDepth 100000 in
theorem c3_dotsOf (l : Launch) (D : va_G) (cB cI cJ cZ cN cF : ClassId) (sz : Nat) (x : Int32) : Met l y_PartsReader_dotsOf w_PartsReader_dotsOf ({ frames := 0, cells := 0, slots := 0, locals := 0 }) (va_Pc [.int x] (fun U => U.heap.size = sz ∧ va_P D CL [] U.heap ∧ va_K D CL (TY cB cI cJ cZ cN cF) U ∧ NN U ∧ va_D (fun _ => True) [])) (va_Qi (fun (r : Int32) (u : Unit) => ((x.toInt = 2 ∧ r.toInt = 1) ∨ (x.toInt = 4 ∧ r.toInt = 2) ∨ (x.toInt ≠ 2 ∧ x.toInt ≠ 4 ∧ r.toInt = 0))) (fun (u : Unit) (t : State) => match u with | () => va_P D CL [] t.heap ∧ va_D (va_A [] sz) []) (va_A [] sz)) 0 0 (va_A [] sz) := by
  refine Met.ofW (cc := b_PartsReader_dotsOf) (maxL := 1) (ret := some .int) (by decide +kernel) rfl ?_
  intro p e s m args below meth c s₁ B hml hv
  obtain ⟨rfl, hsz, hP, hK, hN, hD0⟩ := hv
  have hx := B.exec
  have hb := B.bytes
  have hr := B.returns
  have hts := atoms_spec (ws := w_PartsReader_dotsOf) B.pre
  have ht9 := fun (w : Cond) (h : w ∈ lw_g) => hts w (List.mem_cons_of_mem _ h)
  have hown : s.vm.findClass "DiscMaker$PartsReader" = some m.cls := findClass_of_methodNamed B.named
  have hlocks := B.notSynchronized
  subst hsz
  have hD := hD0.self (sz := s.heap.size)
  generalize hAe : va_A [] s.heap.size = A at hD ⊢
  have hA : ∀ q : Nat, s.heap.size ≤ q → A q := fun q h => by rw [← hAe]; exact Or.inr h
  have hS : va_S A s.heap s.heap [] := va_S.rf
  have hP : va_P D CL [] s.heap := hP
  have hl := lv_entry [.int x] (n := 1) (Nat.le_of_ble_eq_true rfl)
  rw [lg_entry_eq]
  generalize (lg_sl [.int x] ++ List.replicate (1 - (lg_sl [.int x]).length) Slot.unset).toArray = ls at hl ⊢
  have hl : lv_has ls 1 [(0, .int x)] := hl
  have L_m1 : ((-1) : Int32).toInt = (-1) := by decide
  have L_0 : (0 : Int32).toInt = 0 := by decide
  have L_1 : (1 : Int32).toInt = 1 := by decide
  have L_2 : (2 : Int32).toInt = 2 := by decide
  have L_4 : (4 : Int32).toInt = 4 := by decide
  refine lv_iload_n hx hb d_PartsReader_dotsOf_0 rfl (lv_at hl 0 rfl) ?_
  refine lv_iconst (v := 2) hx hb d_PartsReader_dotsOf_1 (by decide) ?_
  refine lv_icmp_ne (tgt := 9) hx hb d_PartsReader_dotsOf_2 (by decide) (fun h_9 => ?_) (fun h_9 => ?_)
  · skip
    have g2_3 : ¬ x.toInt = 2 := fun h8 => h_9 ((i_eq rfl (by decide)).mpr h8)
    refine lv_iload_n hx hb d_PartsReader_dotsOf_9 rfl (lv_at hl 0 rfl) ?_
    refine lv_iconst (v := 4) hx hb d_PartsReader_dotsOf_10 (by decide) ?_
    refine lv_icmp_ne (tgt := 18) hx hb d_PartsReader_dotsOf_11 (by decide) (fun h_9 => ?_) (fun h_9 => ?_)
    · skip
      have g11_6 : ¬ x.toInt = 4 := fun h8 => h_9 ((i_eq rfl (by decide)).mpr h8)
      refine lv_iconst (v := 0) hx hb d_PartsReader_dotsOf_18 (by decide) ?_
      have hP9 := hP.sub (ws' := []) [] rfl
      have hD9 := hD.sub (ws' := []) [] (by decide +kernel) rfl
      exact W.iret (v := 0) hx hb hr (fun t ht hW => ⟨⟨0, (), rfl, (by (try dsimp only); first | assumption | omega | trivial), by rw [ht]; exact hP9, hD9⟩, hS.F ht⟩) hS.2.2 d_PartsReader_dotsOf_19
    · skip
      have g11_6 : x.toInt = 4 := (i_eq rfl (by decide)).mp h_9
      refine lv_iconst (v := 2) hx hb d_PartsReader_dotsOf_14 (by decide) ?_
      refine lv_goto (tgt := 19) hx hb d_PartsReader_dotsOf_15 (by decide) ?_
      have hP9 := hP.sub (ws' := []) [] rfl
      have hD9 := hD.sub (ws' := []) [] (by decide +kernel) rfl
      exact W.iret (v := 2) hx hb hr (fun t ht hW => ⟨⟨2, (), rfl, (by (try dsimp only); first | assumption | omega | trivial), by rw [ht]; exact hP9, hD9⟩, hS.F ht⟩) hS.2.2 d_PartsReader_dotsOf_19
  · skip
    have g2_3 : x.toInt = 2 := (i_eq rfl (by decide)).mp h_9
    refine lv_iconst (v := 1) hx hb d_PartsReader_dotsOf_5 (by decide) ?_
    refine lv_goto (tgt := 19) hx hb d_PartsReader_dotsOf_6 (by decide) ?_
    have hP9 := hP.sub (ws' := []) [] rfl
    have hD9 := hD.sub (ws' := []) [] (by decide +kernel) rfl
    exact W.iret (v := 1) hx hb hr (fun t ht hW => ⟨⟨1, (), rfl, (by (try dsimp only); first | assumption | omega | trivial), by rw [ht]; exact hP9, hD9⟩, hS.F ht⟩) hS.2.2 d_PartsReader_dotsOf_19

theorem d_PartsReader_takeName_0 : decode b_PartsReader_takeName 0 = .ok (.iload_n 2, 1) := by decide +kernel
theorem d_PartsReader_takeName_1 : decode b_PartsReader_takeName 1 = .ok (.iconst 5, 1) := by decide +kernel
theorem d_PartsReader_takeName_2 : decode b_PartsReader_takeName 2 = .ok (.if_icmp .lt 16, 3) := by decide +kernel
theorem d_PartsReader_takeName_5 : decode b_PartsReader_takeName 5 = .ok (.aload_n 0, 1) := by decide +kernel
theorem d_PartsReader_takeName_6 : decode b_PartsReader_takeName 6 = .ok (.getfield 9, 3) := by decide +kernel
theorem d_PartsReader_takeName_9 : decode b_PartsReader_takeName 9 = .ok (.iload_n 1, 1) := by decide +kernel
theorem d_PartsReader_takeName_10 : decode b_PartsReader_takeName 10 = .ok (.iconst 4, 1) := by decide +kernel
theorem d_PartsReader_takeName_11 : decode b_PartsReader_takeName 11 = .ok (.iadd, 1) := by decide +kernel
theorem d_PartsReader_takeName_12 : decode b_PartsReader_takeName 12 = .ok (.invokevirtual 33, 3) := by decide +kernel
theorem d_PartsReader_takeName_15 : decode b_PartsReader_takeName 15 = .ok (.ifCond .eq 5, 3) := by decide +kernel
theorem d_PartsReader_takeName_18 : decode b_PartsReader_takeName 18 = .ok (.iconst 0, 1) := by decide +kernel
theorem d_PartsReader_takeName_19 : decode b_PartsReader_takeName 19 = .ok (.ireturn, 1) := by decide +kernel
theorem d_PartsReader_takeName_20 : decode b_PartsReader_takeName 20 = .ok (.iconst 5, 1) := by decide +kernel
theorem d_PartsReader_takeName_21 : decode b_PartsReader_takeName 21 = .ok (.istore_n 3, 1) := by decide +kernel
theorem d_PartsReader_takeName_22 : decode b_PartsReader_takeName 22 = .ok (.iload_n 3, 1) := by decide +kernel
theorem d_PartsReader_takeName_23 : decode b_PartsReader_takeName 23 = .ok (.iload_n 2, 1) := by decide +kernel
theorem d_PartsReader_takeName_24 : decode b_PartsReader_takeName 24 = .ok (.if_icmp .ge 26, 3) := by decide +kernel
theorem d_PartsReader_takeName_27 : decode b_PartsReader_takeName 27 = .ok (.aload_n 0, 1) := by decide +kernel
theorem d_PartsReader_takeName_28 : decode b_PartsReader_takeName 28 = .ok (.getfield 15, 3) := by decide +kernel
theorem d_PartsReader_takeName_31 : decode b_PartsReader_takeName 31 = .ok (.aload_n 0, 1) := by decide +kernel
theorem d_PartsReader_takeName_32 : decode b_PartsReader_takeName 32 = .ok (.getfield 9, 3) := by decide +kernel
theorem d_PartsReader_takeName_35 : decode b_PartsReader_takeName 35 = .ok (.iload_n 1, 1) := by decide +kernel
theorem d_PartsReader_takeName_36 : decode b_PartsReader_takeName 36 = .ok (.iload_n 3, 1) := by decide +kernel
theorem d_PartsReader_takeName_37 : decode b_PartsReader_takeName 37 = .ok (.iadd, 1) := by decide +kernel
theorem d_PartsReader_takeName_38 : decode b_PartsReader_takeName 38 = .ok (.invokevirtual 33, 3) := by decide +kernel
theorem d_PartsReader_takeName_41 : decode b_PartsReader_takeName 41 = .ok (.invokevirtual 73, 3) := by decide +kernel
theorem d_PartsReader_takeName_44 : decode b_PartsReader_takeName 44 = .ok (.iinc 3 1, 3) := by decide +kernel
theorem d_PartsReader_takeName_47 : decode b_PartsReader_takeName 47 = .ok (.goto (-25), 3) := by decide +kernel
theorem d_PartsReader_takeName_50 : decode b_PartsReader_takeName 50 = .ok (.aload_n 0, 1) := by decide +kernel
theorem d_PartsReader_takeName_51 : decode b_PartsReader_takeName 51 = .ok (.iconst 1, 1) := by decide +kernel
theorem d_PartsReader_takeName_52 : decode b_PartsReader_takeName 52 = .ok (.putfield 19, 3) := by decide +kernel
theorem d_PartsReader_takeName_55 : decode b_PartsReader_takeName 55 = .ok (.aload_n 0, 1) := by decide +kernel
theorem d_PartsReader_takeName_56 : decode b_PartsReader_takeName 56 = .ok (.getfield 15, 3) := by decide +kernel
theorem d_PartsReader_takeName_59 : decode b_PartsReader_takeName 59 = .ok (.invokevirtual 76, 3) := by decide +kernel
theorem d_PartsReader_takeName_62 : decode b_PartsReader_takeName 62 = .ok (.ifCond .ne 7, 3) := by decide +kernel
theorem d_PartsReader_takeName_65 : decode b_PartsReader_takeName 65 = .ok (.iconst 1, 1) := by decide +kernel
theorem d_PartsReader_takeName_66 : decode b_PartsReader_takeName 66 = .ok (.goto 4, 3) := by decide +kernel
theorem d_PartsReader_takeName_69 : decode b_PartsReader_takeName 69 = .ok (.iconst 0, 1) := by decide +kernel
theorem d_PartsReader_takeName_70 : decode b_PartsReader_takeName 70 = .ok (.ireturn, 1) := by decide +kernel
set_option maxHeartbeats 4000000 in
set_option maxRecDepth 100000 in
theorem c3_takeName (l : Launch) (D : va_G) (cB cI cJ cZ cN cF : ClassId) (sz : Nat) (h0 : Nat) (fo : Nat) (im : Nat) (iq : Nat) (n : Nat) (L : Int32) (f : Nat → Int32) (nm : Int32) (co : Int32) (ta : Int32) (lc : Int32) (a1 : Nat) (a2 : Nat) (pa : Int32) (de : Int32) (so : Int32) (si : Int32) (se : Int32) (mo : Int32) (ow : Int32) (gr : Int32) (nl : Int32) (tl : Int32) (mk : Int32) (f1 : Nat → Int32) (x : Int32) (y : Int32) (hL : 0 ≤ L.toInt ∧ L.toInt ≤ n) (hn : n ≤ 3000000) (hx : 0 ≤ x.toInt ∧ x.toInt ≤ 4000000) (hy : 4 ≤ y.toInt ∧ y.toInt ≤ 255) (hnl : 0 ≤ nl.toInt ∧ nl.toInt ≤ 60) : Met l y_PartsReader_takeName w_PartsReader_takeName ({ frames := 1, cells := 0, slots := 0, locals := 27 }) (va_Pc [.ref h0, .int x, .int y] (fun U => U.heap.size = sz ∧ va_P D CL [(h0, .inr (6, [.ref im, .ref fo, .int nm, .int co, .int ta, .int lc])), (im, .inr (1, [.ref iq, .int L])), (iq, .inl (cB, n, .inl f)), (fo, .inr (2, [.ref a1, .ref a2, .int pa, .int de, .int so, .int si, .int se, .int mo, .int ow, .int gr, .int nl, .int tl, .int mk])), (a1, .inl (cB, 60, .inl f1))] U.heap ∧ va_K D CL (TY cB cI cJ cZ cN cF) U ∧ NN U ∧ va_D (fun _ => True) [(h0, .inr (6, [.ref im, .ref fo, .int nm, .int co, .int ta, .int lc])), (im, .inr (1, [.ref iq, .int L])), (iq, .inl (cB, n, .inl f)), (fo, .inr (2, [.ref a1, .ref a2, .int pa, .int de, .int so, .int si, .int se, .int mo, .int ow, .int gr, .int nl, .int tl, .int mk])), (a1, .inl (cB, 60, .inl f1))])) (va_Qi (fun (r : Int32) (u : Int32 × Int32 × (Nat → Int32)) => match u with | (nm2, nl2, g) => (0 ≤ r.toInt ∧ r.toInt ≤ 1) ∧ (r.toInt ≠ 0 → (0 ≤ nl2.toInt ∧ nl2.toInt ≤ 60))) (fun (u : Int32 × Int32 × (Nat → Int32)) (t : State) => match u with | (nm2, nl2, g) => va_P D CL [(h0, .inr (6, [.ref im, .ref fo, .int nm2, .int co, .int ta, .int lc])), (im, .inr (1, [.ref iq, .int L])), (iq, .inl (cB, n, .inl f)), (fo, .inr (2, [.ref a1, .ref a2, .int pa, .int de, .int so, .int si, .int se, .int mo, .int ow, .int gr, .int nl2, .int tl, .int mk])), (a1, .inl (cB, 60, .inl g))] t.heap ∧ va_D (va_A [(h0, .inr (6, [.ref im, .ref fo, .int nm, .int co, .int ta, .int lc])), (im, .inr (1, [.ref iq, .int L])), (iq, .inl (cB, n, .inl f)), (fo, .inr (2, [.ref a1, .ref a2, .int pa, .int de, .int so, .int si, .int se, .int mo, .int ow, .int gr, .int nl, .int tl, .int mk])), (a1, .inl (cB, 60, .inl f1))] sz) [(h0, .inr (6, [.ref im, .ref fo, .int nm2, .int co, .int ta, .int lc])), (im, .inr (1, [.ref iq, .int L])), (iq, .inl (cB, n, .inl f)), (fo, .inr (2, [.ref a1, .ref a2, .int pa, .int de, .int so, .int si, .int se, .int mo, .int ow, .int gr, .int nl2, .int tl, .int mk])), (a1, .inl (cB, 60, .inl g))]) (va_A [(h0, .inr (6, [.ref im, .ref fo, .int nm, .int co, .int ta, .int lc])), (im, .inr (1, [.ref iq, .int L])), (iq, .inl (cB, n, .inl f)), (fo, .inr (2, [.ref a1, .ref a2, .int pa, .int de, .int so, .int si, .int se, .int mo, .int ow, .int gr, .int nl, .int tl, .int mk])), (a1, .inl (cB, 60, .inl f1))] sz)) 0 0 (va_A [(h0, .inr (6, [.ref im, .ref fo, .int nm, .int co, .int ta, .int lc])), (im, .inr (1, [.ref iq, .int L])), (iq, .inl (cB, n, .inl f)), (fo, .inr (2, [.ref a1, .ref a2, .int pa, .int de, .int so, .int si, .int se, .int mo, .int ow, .int gr, .int nl, .int tl, .int mk])), (a1, .inl (cB, 60, .inl f1))] sz) := by
  refine Met.ofW (cc := b_PartsReader_takeName) (maxL := 4) (ret := some .boolean) (by decide +kernel) rfl ?_
  intro p e s m args below meth c s₁ B hml hv
  obtain ⟨rfl, hsz, hP, hK, hN, hD0⟩ := hv
  have hx := B.exec
  have hb := B.bytes
  have hr := B.returns
  have hts := atoms_spec (ws := w_PartsReader_takeName) B.pre
  have ht9 := fun (w : Cond) (h : w ∈ lw_g) => hts w (List.mem_cons_of_mem _ h)
  have hown : s.vm.findClass "DiscMaker$PartsReader" = some m.cls := findClass_of_methodNamed B.named
  have hlocks := B.notSynchronized
  subst hsz
  have hD := hD0.self (sz := s.heap.size)
  generalize hAe : va_A [(h0, .inr (6, [.ref im, .ref fo, .int nm, .int co, .int ta, .int lc])), (im, .inr (1, [.ref iq, .int L])), (iq, .inl (cB, n, .inl f)), (fo, .inr (2, [.ref a1, .ref a2, .int pa, .int de, .int so, .int si, .int se, .int mo, .int ow, .int gr, .int nl, .int tl, .int mk])), (a1, .inl (cB, 60, .inl f1))] s.heap.size = A at hD ⊢
  have hA : ∀ q : Nat, s.heap.size ≤ q → A q := fun q h => by rw [← hAe]; exact Or.inr h
  have hS : va_S A s.heap s.heap [] := va_S.rf
  have hP : va_P D CL [(h0, .inr (6, [.ref im, .ref fo, .int nm, .int co, .int ta, .int lc])), (im, .inr (1, [.ref iq, .int L])), (iq, .inl (cB, n, .inl f)), (fo, .inr (2, [.ref a1, .ref a2, .int pa, .int de, .int so, .int si, .int se, .int mo, .int ow, .int gr, .int nl, .int tl, .int mk])), (a1, .inl (cB, 60, .inl f1))] s.heap := hP
  have hl := lv_entry [.ref h0, .int x, .int y] (n := 4) (Nat.le_of_ble_eq_true rfl)
  rw [lg_entry_eq]
  generalize (lg_sl [.ref h0, .int x, .int y] ++ List.replicate (4 - (lg_sl [.ref h0, .int x, .int y]).length) Slot.unset).toArray = ls at hl ⊢
  have hl : lv_has ls 4 [(0, .ref h0), (1, .int x), (2, .int y)] := hl
  have L_m1 : ((-1) : Int32).toInt = (-1) := by decide
  have L_0 : (0 : Int32).toInt = 0 := by decide
  have L_1 : (1 : Int32).toInt = 1 := by decide
  have L_4 : (4 : Int32).toInt = 4 := by decide
  have L_5 : (5 : Int32).toInt = 5 := by decide
  refine lv_iload_n hx hb d_PartsReader_takeName_0 rfl (lv_at hl 2 rfl) ?_
  refine lv_iconst (v := 5) hx hb d_PartsReader_takeName_1 (by decide) ?_
  refine lv_icmp_lt (tgt := 18) hx hb d_PartsReader_takeName_2 (by decide) (fun h_9 => ?_) (fun h_9 => ?_)
  · skip
    have g2_3 : y.toInt < 5 := (i_lt rfl (by decide)).mp h_9
    refine lv_iconst (v := 0) hx hb d_PartsReader_takeName_18 (by decide) ?_
    have hP9 := hP.sub (ws' := [(h0, .inr (6, [.ref im, .ref fo, .int nm, .int co, .int ta, .int lc])), (im, .inr (1, [.ref iq, .int L])), (iq, .inl (cB, n, .inl f)), (fo, .inr (2, [.ref a1, .ref a2, .int pa, .int de, .int so, .int si, .int se, .int mo, .int ow, .int gr, .int nl, .int tl, .int mk])), (a1, .inl (cB, 60, .inl f1))]) [0, 1, 2, 3, 4] rfl
    have hD9 := hD.sub (ws' := [(h0, .inr (6, [.ref im, .ref fo, .int nm, .int co, .int ta, .int lc])), (im, .inr (1, [.ref iq, .int L])), (iq, .inl (cB, n, .inl f)), (fo, .inr (2, [.ref a1, .ref a2, .int pa, .int de, .int so, .int si, .int se, .int mo, .int ow, .int gr, .int nl, .int tl, .int mk])), (a1, .inl (cB, 60, .inl f1))]) [0, 1, 2, 3, 4] (by decide +kernel) rfl
    exact W.zret (v := 0) hx hb hr (by first | rfl | decide | exact i_narZ (by omega)) (fun t ht hW => ⟨⟨0, (nm, nl, f1), rfl, ⟨(by (try dsimp only); first | assumption | omega | trivial), (by (try dsimp only); intro h7; first | (exfalso; omega) | omega | assumption)⟩, by rw [ht]; exact hP9, hD9⟩, hS.F ht⟩) hS.2.2 d_PartsReader_takeName_19
  · skip
    have g2_3 : ¬ y.toInt < 5 := fun h8 => h_9 ((i_lt rfl (by decide)).mpr h8)
    refine lv_aload_n hx hb d_PartsReader_takeName_5 rfl (lv_at hl 0 rfl) ?_
    refine va_get (D := D) (ci := 6) (v := .ref im) (C := "DiscMaker$PartsReader") (T := F_PartsReader) (N := 6) hx hb ht9 in_PartsReader hown hK hP 0 rfl rfl 0 (by decide) (ht9 _ k392) (fun _ h9 => h9) rfl d_PartsReader_takeName_6 ?_
    refine lv_iload_n hx hb d_PartsReader_takeName_9 rfl (lv_at hl 1 rfl) ?_
    refine lv_iconst (v := 4) hx hb d_PartsReader_takeName_10 (by decide) ?_
    refine lv_iadd hx hb d_PartsReader_takeName_11 ?_
    refine lv_topi (fun v1 e_v1 => ?_)
    have t_v1 : v1.toInt = x.toInt + 4 := by rw [e_v1]; exact i_add rfl (by decide) (by omega) (by omega)
    have hPc := hP.sub (ws' := [(im, .inr (1, [.ref iq, .int L])), (iq, .inl (cB, n, .inl f))]) [1, 2] rfl
    have hDc := hD.sub (ws' := [(im, .inr (1, [.ref iq, .int L])), (iq, .inl (cB, n, .inl f))]) [1, 2] (by decide +kernel) rfl
    have hFc := va_free (wc := [(im, .inr (1, [.ref iq, .int L])), (iq, .inl (cB, n, .inl f))]) hD hS hA [1, 2] rfl
    have hkc : 0 ≤ 0 := by decide
    have hks : 0 ≤ 0 := by decide
    refine va_calli (va_runV (C := "DiscMaker$Bytes") (As := [.int v1]) (rest := []) ⟨hx, hb, hml, hown, hts⟩ (c3_at l D cB cI cJ cZ cN cF s.heap.size im iq n L f v1 (by (try dsimp only); first | assumption | omega | trivial) (by (try dsimp only); first | assumption | omega | trivial)) (cwV 1 hts (lg_goodV k1321 k1065 k1066 k119 kc_Bytes_at) rfl rfl rfl (by decide +kernel) ⟨Nat.le_of_ble_eq_true rfl, Nat.le_of_ble_eq_true rfl⟩) ⟨fun a U g mk q => by obtain ⟨q0, q1, qP, qK, qN, qD⟩ := q; exact ⟨q0, q1, qP, va_K.moved (u := U) (U := U.calling g mk a) (Vm.Alike.refl U.vm) qK, qN.calling, qD⟩, va_recv hK hP (ci := 1) (q0 := 1) rfl rfl, fun U hU hW => ⟨rfl, by rw [hU], by rw [hU]; exact hPc, va_K.moved hW.alike hK, NN.warm hW hN, hDc.weaken (fun _ _ _ _ => trivial)⟩⟩ rfl rfl hl.1 rfl (lv_room (Nat.le_of_ble_eq_true rfl)) d_PartsReader_takeName_12 ⟨hkc, hks⟩) hS (fun q _ h => hFc q h) hFc (fun r2 u t H1 locs ht hvm hp_r2 hB hz1 hk1 hS => ?_)
    obtain ⟨hP1, hD1⟩ := hB
    rw [ht] at hP1
    obtain ⟨hP, hD⟩ := va_join (wr := [(h0, .inr (6, [.ref im, .ref fo, .int nm, .int co, .int ta, .int lc])), (fo, .inr (2, [.ref a1, .ref a2, .int pa, .int de, .int so, .int si, .int se, .int mo, .int ow, .int gr, .int nl, .int tl, .int mk])), (a1, .inl (cB, 60, .inl f1))]) (w1 := [(im, .inr (1, [.ref iq, .int L])), (iq, .inl (cB, n, .inl f))]) hP hD [1, 2] [0, 3, 4] rfl rfl (by decide +kernel) (by decide +kernel) hk1 hFc hP1 hD1
    clear hPc hDc hFc hP1 hD1 hk1 hz1 hkc hks
    generalize H1 = H at hP hS ⊢
    have hP : va_P D CL [(h0, .inr (6, [.ref im, .ref fo, .int nm, .int co, .int ta, .int lc])), (fo, .inr (2, [.ref a1, .ref a2, .int pa, .int de, .int so, .int si, .int se, .int mo, .int ow, .int gr, .int nl, .int tl, .int mk])), (a1, .inl (cB, 60, .inl f1)), (im, .inr (1, [.ref iq, .int L])), (iq, .inl (cB, n, .inl f))] H := hP
    have hD : va_D A [(h0, .inr (6, [.ref im, .ref fo, .int nm, .int co, .int ta, .int lc])), (fo, .inr (2, [.ref a1, .ref a2, .int pa, .int de, .int so, .int si, .int se, .int mo, .int ow, .int gr, .int nl, .int tl, .int mk])), (a1, .inl (cB, 60, .inl f1)), (im, .inr (1, [.ref iq, .int L])), (iq, .inl (cB, n, .inl f))] := hD
    try dsimp only at hp_r2
    obtain ⟨hr_3, hv_4⟩ := hp_r2
    refine lv_if_eq (tgt := 20) hx hb d_PartsReader_takeName_15 (by decide) (fun h_9 => ?_) (fun h_9 => ?_)
    · skip
      have g15_12 : r2.toInt = 0 := (i_eq rfl (by decide)).mp h_9
      refine lv_iconst (v := 5) hx hb d_PartsReader_takeName_20 (by decide) ?_
      refine lv_istore_n hx hb d_PartsReader_takeName_21 rfl hl (by decide) rfl (fun ls hl => ?_)
      have hl : lv_has ls 4 [(3, .int 5), (0, .ref h0), (1, .int x), (2, .int y)] := hl
      refine zz_labM (B := fun (lk : Nat) (K : Heap → List Loc → Array Slot → List Value → Prop) => ∀ (kx : Int32) (ln : Int32) (lf : Nat → Int32) (H : Heap) (locs : List Loc) (ls : Array Slot), lk = (y.toInt - kx.toInt).toNat → (5 ≤ kx.toInt ∧ kx.toInt ≤ y.toInt) → (0 ≤ ln.toInt ∧ ln.toInt ≤ 60 + kx.toInt) → va_P D CL [(h0, .inr (6, [.ref im, .ref fo, .int nm, .int co, .int ta, .int lc])), (fo, .inr (2, [.ref a1, .ref a2, .int pa, .int de, .int so, .int si, .int se, .int mo, .int ow, .int gr, .int ln, .int tl, .int mk])), (a1, .inl (cB, 60, .inl lf)), (im, .inr (1, [.ref iq, .int L])), (iq, .inl (cB, n, .inl f))] H → va_D A [(h0, .inr (6, [.ref im, .ref fo, .int nm, .int co, .int ta, .int lc])), (fo, .inr (2, [.ref a1, .ref a2, .int pa, .int de, .int so, .int si, .int se, .int mo, .int ow, .int gr, .int ln, .int tl, .int mk])), (a1, .inl (cB, 60, .inl lf)), (im, .inr (1, [.ref iq, .int L])), (iq, .inl (cB, n, .inl f))] → va_S A s.heap H locs → lv_has ls 4 [(0, .ref h0), (1, .int x), (2, .int y), (3, .int kx)] → K H locs ls []) 22 ?_ ?_
      · skip
        intro lk ih22 kx ln lf H locs ls hm22 e1 e2 hP hD hS hl
        refine lv_iload_n hx hb d_PartsReader_takeName_22 rfl (lv_at hl 3 rfl) ?_
        refine lv_iload_n hx hb d_PartsReader_takeName_23 rfl (lv_at hl 2 rfl) ?_
        refine lv_icmp_ge (tgt := 50) hx hb d_PartsReader_takeName_24 (by decide) (fun h_9 => ?_) (fun h_9 => ?_)
        · skip
          have g24_17 : y.toInt ≤ kx.toInt := (i_le rfl rfl).mp h_9
          refine lv_aload_n hx hb d_PartsReader_takeName_50 rfl (lv_at hl 0 rfl) ?_
          refine lv_iconst (v := 1) hx hb d_PartsReader_takeName_51 (by decide) ?_
          refine va_put (D := D) (ci := 6) (v := .int 1) (ty := .boolean) (C := "DiscMaker$PartsReader") (T := F_PartsReader) (N := 6) hx hb ht9 in_PartsReader t_PartsReader t_PartsReader_ok n_PartsReader hown hK hP hD hS 0 rfl rfl 2 (by decide) (ht9 _ k394) (fun _ h9 => h9) rfl (by decide +kernel) rfl rfl (Nat.le_of_ble_eq_true rfl) d_PartsReader_takeName_52 (fun H locs hP hD hS => ?_)
          have hP : va_P D CL [(h0, .inr (6, [.ref im, .ref fo, .int 1, .int co, .int ta, .int lc])), (fo, .inr (2, [.ref a1, .ref a2, .int pa, .int de, .int so, .int si, .int se, .int mo, .int ow, .int gr, .int ln, .int tl, .int mk])), (a1, .inl (cB, 60, .inl lf)), (im, .inr (1, [.ref iq, .int L])), (iq, .inl (cB, n, .inl f))] H := hP
          have hD : va_D A [(h0, .inr (6, [.ref im, .ref fo, .int 1, .int co, .int ta, .int lc])), (fo, .inr (2, [.ref a1, .ref a2, .int pa, .int de, .int so, .int si, .int se, .int mo, .int ow, .int gr, .int ln, .int tl, .int mk])), (a1, .inl (cB, 60, .inl lf)), (im, .inr (1, [.ref iq, .int L])), (iq, .inl (cB, n, .inl f))] := hD
          refine lv_aload_n hx hb d_PartsReader_takeName_55 rfl (lv_at hl 0 rfl) ?_
          refine va_get (D := D) (ci := 6) (v := .ref fo) (C := "DiscMaker$PartsReader") (T := F_PartsReader) (N := 6) hx hb ht9 in_PartsReader hown hK hP 0 rfl rfl 1 (by decide) (ht9 _ k393) (fun _ h9 => h9) rfl d_PartsReader_takeName_56 ?_
          have hPc := hP.sub (ws' := [(fo, .inr (2, [.ref a1, .ref a2, .int pa, .int de, .int so, .int si, .int se, .int mo, .int ow, .int gr, .int ln, .int tl, .int mk])), (a1, .inl (cB, 60, .inl lf))]) [1, 2] rfl
          have hDc := hD.sub (ws' := [(fo, .inr (2, [.ref a1, .ref a2, .int pa, .int de, .int so, .int si, .int se, .int mo, .int ow, .int gr, .int ln, .int tl, .int mk])), (a1, .inl (cB, 60, .inl lf))]) [1, 2] (by decide +kernel) rfl
          have hFc := va_free (wc := [(fo, .inr (2, [.ref a1, .ref a2, .int pa, .int de, .int so, .int si, .int se, .int mo, .int ow, .int gr, .int ln, .int tl, .int mk])), (a1, .inl (cB, 60, .inl lf))]) hD hS hA [1, 2] rfl
          have hkc : 0 ≤ 0 := by decide
          have hks : 0 ≤ 0 := by decide
          refine va_calli (va_runV (C := "DiscMaker$Found") (As := []) (rest := []) ⟨hx, hb, hml, hown, hts⟩ (c3_isNameTooLong l D cB cI cJ cZ cN cF H.size fo a1 a2 pa de so si se mo ow gr ln tl mk lf) (cwV 0 hts (lg_goodV k1331 k1313 k1314 k141 kc_Found_isNameTooLong) rfl rfl rfl (by decide +kernel) ⟨Nat.le_of_ble_eq_true rfl, Nat.le_of_ble_eq_true rfl⟩) ⟨fun a U g mk q => by obtain ⟨q0, q1, qP, qK, qN, qD⟩ := q; exact ⟨q0, q1, qP, va_K.moved (u := U) (U := U.calling g mk a) (Vm.Alike.refl U.vm) qK, qN.calling, qD⟩, va_recv hK hP (ci := 2) (q0 := 1) rfl rfl, fun U hU hW => ⟨rfl, by rw [hU], by rw [hU]; exact hPc, va_K.moved hW.alike hK, NN.warm hW hN, hDc.weaken (fun _ _ _ _ => trivial)⟩⟩ rfl rfl hl.1 rfl (lv_room (Nat.le_of_ble_eq_true rfl)) d_PartsReader_takeName_59 ⟨hkc, hks⟩) hS (fun q _ h => hFc q h) hFc (fun r5 u t H1 locs ht hvm hp_r5 hB hz1 hk1 hS => ?_)
          obtain ⟨hP1, hD1⟩ := hB
          rw [ht] at hP1
          obtain ⟨hP, hD⟩ := va_join (wr := [(h0, .inr (6, [.ref im, .ref fo, .int 1, .int co, .int ta, .int lc])), (im, .inr (1, [.ref iq, .int L])), (iq, .inl (cB, n, .inl f))]) (w1 := [(fo, .inr (2, [.ref a1, .ref a2, .int pa, .int de, .int so, .int si, .int se, .int mo, .int ow, .int gr, .int ln, .int tl, .int mk])), (a1, .inl (cB, 60, .inl lf))]) hP hD [1, 2] [0, 3, 4] rfl rfl (by decide +kernel) (by decide +kernel) hk1 hFc hP1 hD1
          clear hPc hDc hFc hP1 hD1 hk1 hz1 hkc hks
          generalize H1 = H at hP hS ⊢
          have hP : va_P D CL [(h0, .inr (6, [.ref im, .ref fo, .int 1, .int co, .int ta, .int lc])), (im, .inr (1, [.ref iq, .int L])), (iq, .inl (cB, n, .inl f)), (fo, .inr (2, [.ref a1, .ref a2, .int pa, .int de, .int so, .int si, .int se, .int mo, .int ow, .int gr, .int ln, .int tl, .int mk])), (a1, .inl (cB, 60, .inl lf))] H := hP
          have hD : va_D A [(h0, .inr (6, [.ref im, .ref fo, .int 1, .int co, .int ta, .int lc])), (im, .inr (1, [.ref iq, .int L])), (iq, .inl (cB, n, .inl f)), (fo, .inr (2, [.ref a1, .ref a2, .int pa, .int de, .int so, .int si, .int se, .int mo, .int ow, .int gr, .int ln, .int tl, .int mk])), (a1, .inl (cB, 60, .inl lf))] := hD
          try dsimp only at hp_r5
          obtain ⟨hr_6, hv_7⟩ := hp_r5
          refine lv_if_ne (tgt := 69) hx hb d_PartsReader_takeName_62 (by decide) (fun h_9 => ?_) (fun h_9 => ?_)
          · skip
            have g62_24 : ¬ r5.toInt = 0 := fun h8 => h_9 ((i_eq rfl (by decide)).mpr h8)
            refine lv_iconst (v := 0) hx hb d_PartsReader_takeName_69 (by decide) ?_
            have hP9 := hP.sub (ws' := [(h0, .inr (6, [.ref im, .ref fo, .int 1, .int co, .int ta, .int lc])), (im, .inr (1, [.ref iq, .int L])), (iq, .inl (cB, n, .inl f)), (fo, .inr (2, [.ref a1, .ref a2, .int pa, .int de, .int so, .int si, .int se, .int mo, .int ow, .int gr, .int ln, .int tl, .int mk])), (a1, .inl (cB, 60, .inl lf))]) [0, 1, 2, 3, 4] rfl
            have hD9 := hD.sub (ws' := [(h0, .inr (6, [.ref im, .ref fo, .int 1, .int co, .int ta, .int lc])), (im, .inr (1, [.ref iq, .int L])), (iq, .inl (cB, n, .inl f)), (fo, .inr (2, [.ref a1, .ref a2, .int pa, .int de, .int so, .int si, .int se, .int mo, .int ow, .int gr, .int ln, .int tl, .int mk])), (a1, .inl (cB, 60, .inl lf))]) [0, 1, 2, 3, 4] (by decide +kernel) rfl
            exact W.zret (v := 0) hx hb hr (by first | rfl | decide | exact i_narZ (by omega)) (fun t ht hW => ⟨⟨0, (1, ln, lf), rfl, ⟨(by (try dsimp only); first | assumption | omega | trivial), (by (try dsimp only); intro h7; first | (exfalso; omega) | omega | assumption)⟩, by rw [ht]; exact hP9, hD9⟩, hS.F ht⟩) hS.2.2 d_PartsReader_takeName_70
          · skip
            have g62_24 : r5.toInt = 0 := (i_eq rfl (by decide)).mp h_9
            refine lv_iconst (v := 1) hx hb d_PartsReader_takeName_65 (by decide) ?_
            refine lv_goto (tgt := 70) hx hb d_PartsReader_takeName_66 (by decide) ?_
            have hP9 := hP.sub (ws' := [(h0, .inr (6, [.ref im, .ref fo, .int 1, .int co, .int ta, .int lc])), (im, .inr (1, [.ref iq, .int L])), (iq, .inl (cB, n, .inl f)), (fo, .inr (2, [.ref a1, .ref a2, .int pa, .int de, .int so, .int si, .int se, .int mo, .int ow, .int gr, .int ln, .int tl, .int mk])), (a1, .inl (cB, 60, .inl lf))]) [0, 1, 2, 3, 4] rfl
            have hD9 := hD.sub (ws' := [(h0, .inr (6, [.ref im, .ref fo, .int 1, .int co, .int ta, .int lc])), (im, .inr (1, [.ref iq, .int L])), (iq, .inl (cB, n, .inl f)), (fo, .inr (2, [.ref a1, .ref a2, .int pa, .int de, .int so, .int si, .int se, .int mo, .int ow, .int gr, .int ln, .int tl, .int mk])), (a1, .inl (cB, 60, .inl lf))]) [0, 1, 2, 3, 4] (by decide +kernel) rfl
            exact W.zret (v := 1) hx hb hr (by first | rfl | decide | exact i_narZ (by omega)) (fun t ht hW => ⟨⟨1, (1, ln, lf), rfl, ⟨(by (try dsimp only); first | assumption | omega | trivial), (by (try dsimp only); intro h7; first | (exfalso; omega) | omega | assumption)⟩, by rw [ht]; exact hP9, hD9⟩, hS.F ht⟩) hS.2.2 d_PartsReader_takeName_70
        · skip
          have g24_17 : ¬ y.toInt ≤ kx.toInt := fun h8 => h_9 ((i_le rfl rfl).mpr h8)
          refine lv_aload_n hx hb d_PartsReader_takeName_27 rfl (lv_at hl 0 rfl) ?_
          refine va_get (D := D) (ci := 6) (v := .ref fo) (C := "DiscMaker$PartsReader") (T := F_PartsReader) (N := 6) hx hb ht9 in_PartsReader hown hK hP 0 rfl rfl 1 (by decide) (ht9 _ k393) (fun _ h9 => h9) rfl d_PartsReader_takeName_28 ?_
          refine lv_aload_n hx hb d_PartsReader_takeName_31 rfl (lv_at hl 0 rfl) ?_
          refine va_get (D := D) (ci := 6) (v := .ref im) (C := "DiscMaker$PartsReader") (T := F_PartsReader) (N := 6) hx hb ht9 in_PartsReader hown hK hP 0 rfl rfl 0 (by decide) (ht9 _ k392) (fun _ h9 => h9) rfl d_PartsReader_takeName_32 ?_
          refine lv_iload_n hx hb d_PartsReader_takeName_35 rfl (lv_at hl 1 rfl) ?_
          refine lv_iload_n hx hb d_PartsReader_takeName_36 rfl (lv_at hl 3 rfl) ?_
          refine lv_iadd hx hb d_PartsReader_takeName_37 ?_
          refine lv_topi (fun v8 e_v8 => ?_)
          have t_v8 : v8.toInt = x.toInt + kx.toInt := by rw [e_v8]; exact i_add rfl rfl (by omega) (by omega)
          have hPc := hP.sub (ws' := [(im, .inr (1, [.ref iq, .int L])), (iq, .inl (cB, n, .inl f))]) [3, 4] rfl
          have hDc := hD.sub (ws' := [(im, .inr (1, [.ref iq, .int L])), (iq, .inl (cB, n, .inl f))]) [3, 4] (by decide +kernel) rfl
          have hFc := va_free (wc := [(im, .inr (1, [.ref iq, .int L])), (iq, .inl (cB, n, .inl f))]) hD hS hA [3, 4] rfl
          have hkc : 0 ≤ 0 := by decide
          have hks : 0 ≤ 0 := by decide
          refine va_calli (va_runV (C := "DiscMaker$Bytes") (As := [.int v8]) (rest := [.ref fo]) ⟨hx, hb, hml, hown, hts⟩ (c3_at l D cB cI cJ cZ cN cF H.size im iq n L f v8 (by (try dsimp only); first | assumption | omega | trivial) (by (try dsimp only); first | assumption | omega | trivial)) (cwV 1 hts (lg_goodV k1321 k1065 k1066 k119 kc_Bytes_at) rfl rfl rfl (by decide +kernel) ⟨Nat.le_of_ble_eq_true rfl, Nat.le_of_ble_eq_true rfl⟩) ⟨fun a U g mk q => by obtain ⟨q0, q1, qP, qK, qN, qD⟩ := q; exact ⟨q0, q1, qP, va_K.moved (u := U) (U := U.calling g mk a) (Vm.Alike.refl U.vm) qK, qN.calling, qD⟩, va_recv hK hP (ci := 1) (q0 := 3) rfl rfl, fun U hU hW => ⟨rfl, by rw [hU], by rw [hU]; exact hPc, va_K.moved hW.alike hK, NN.warm hW hN, hDc.weaken (fun _ _ _ _ => trivial)⟩⟩ rfl rfl hl.1 rfl (lv_room (Nat.le_of_ble_eq_true rfl)) d_PartsReader_takeName_38 ⟨hkc, hks⟩) hS (fun q _ h => hFc q h) hFc (fun r9 u t H1 locs ht hvm hp_r9 hB hz1 hk1 hS => ?_)
          obtain ⟨hP1, hD1⟩ := hB
          rw [ht] at hP1
          obtain ⟨hP, hD⟩ := va_join (wr := [(h0, .inr (6, [.ref im, .ref fo, .int nm, .int co, .int ta, .int lc])), (fo, .inr (2, [.ref a1, .ref a2, .int pa, .int de, .int so, .int si, .int se, .int mo, .int ow, .int gr, .int ln, .int tl, .int mk])), (a1, .inl (cB, 60, .inl lf))]) (w1 := [(im, .inr (1, [.ref iq, .int L])), (iq, .inl (cB, n, .inl f))]) hP hD [3, 4] [0, 1, 2] rfl rfl (by decide +kernel) (by decide +kernel) hk1 hFc hP1 hD1
          clear hPc hDc hFc hP1 hD1 hk1 hz1 hkc hks
          generalize H1 = H at hP hS ⊢
          have hP : va_P D CL [(h0, .inr (6, [.ref im, .ref fo, .int nm, .int co, .int ta, .int lc])), (fo, .inr (2, [.ref a1, .ref a2, .int pa, .int de, .int so, .int si, .int se, .int mo, .int ow, .int gr, .int ln, .int tl, .int mk])), (a1, .inl (cB, 60, .inl lf)), (im, .inr (1, [.ref iq, .int L])), (iq, .inl (cB, n, .inl f))] H := hP
          have hD : va_D A [(h0, .inr (6, [.ref im, .ref fo, .int nm, .int co, .int ta, .int lc])), (fo, .inr (2, [.ref a1, .ref a2, .int pa, .int de, .int so, .int si, .int se, .int mo, .int ow, .int gr, .int ln, .int tl, .int mk])), (a1, .inl (cB, 60, .inl lf)), (im, .inr (1, [.ref iq, .int L])), (iq, .inl (cB, n, .inl f))] := hD
          try dsimp only at hp_r9
          obtain ⟨hr_10, hv_11⟩ := hp_r9
          have hPc := hP.sub (ws' := [(fo, .inr (2, [.ref a1, .ref a2, .int pa, .int de, .int so, .int si, .int se, .int mo, .int ow, .int gr, .int ln, .int tl, .int mk])), (a1, .inl (cB, 60, .inl lf))]) [1, 2] rfl
          have hDc := hD.sub (ws' := [(fo, .inr (2, [.ref a1, .ref a2, .int pa, .int de, .int so, .int si, .int se, .int mo, .int ow, .int gr, .int ln, .int tl, .int mk])), (a1, .inl (cB, 60, .inl lf))]) [1, 2] (by decide +kernel) rfl
          have hFc := va_free (wc := [(fo, .inr (2, [.ref a1, .ref a2, .int pa, .int de, .int so, .int si, .int se, .int mo, .int ow, .int gr, .int ln, .int tl, .int mk])), (a1, .inl (cB, 60, .inl lf))]) hD hS hA [1, 2] rfl
          have hkc : 0 ≤ 0 := by decide
          have hks : 0 ≤ 0 := by decide
          refine va_callv (va_runV (C := "DiscMaker$Found") (As := [.int r9]) (rest := []) ⟨hx, hb, hml, hown, hts⟩ (c3_addToName l D cB cI cJ cZ cN cF H.size fo a1 a2 pa de so si se mo ow gr ln tl mk lf r9 (by (try dsimp only); first | assumption | omega | trivial)) (cwV 1 hts (lg_goodV k1330 k1309 k1310 k141 kc_Found_addToName) rfl rfl rfl (by decide +kernel) ⟨Nat.le_of_ble_eq_true rfl, Nat.le_of_ble_eq_true rfl⟩) ⟨fun a U g mk q => by obtain ⟨q0, q1, qP, qK, qN, qD⟩ := q; exact ⟨q0, q1, qP, va_K.moved (u := U) (U := U.calling g mk a) (Vm.Alike.refl U.vm) qK, qN.calling, qD⟩, va_recv hK hP (ci := 2) (q0 := 1) rfl rfl, fun U hU hW => ⟨rfl, by rw [hU], by rw [hU]; exact hPc, va_K.moved hW.alike hK, NN.warm hW hN, hDc.weaken (fun _ _ _ _ => trivial)⟩⟩ rfl rfl hl.1 rfl (lv_room (Nat.le_of_ble_eq_true rfl)) d_PartsReader_takeName_41 ⟨hkc, hks⟩) hS (fun q _ h => hFc q h) hFc (fun u t H1 locs ht hvm hp_r12 hB hz1 hk1 hS => ?_)
          obtain ⟨l2_13, g_14⟩ := u
          obtain ⟨hP1, hD1⟩ := hB
          rw [ht] at hP1
          obtain ⟨hP, hD⟩ := va_join (wr := [(h0, .inr (6, [.ref im, .ref fo, .int nm, .int co, .int ta, .int lc])), (im, .inr (1, [.ref iq, .int L])), (iq, .inl (cB, n, .inl f))]) (w1 := [(fo, .inr (2, [.ref a1, .ref a2, .int pa, .int de, .int so, .int si, .int se, .int mo, .int ow, .int gr, .int l2_13, .int tl, .int mk])), (a1, .inl (cB, 60, .inl g_14))]) hP hD [1, 2] [0, 3, 4] rfl rfl (by decide +kernel) (by decide +kernel) hk1 hFc hP1 hD1
          clear hPc hDc hFc hP1 hD1 hk1 hz1 hkc hks
          generalize H1 = H at hP hS ⊢
          have hP : va_P D CL [(h0, .inr (6, [.ref im, .ref fo, .int nm, .int co, .int ta, .int lc])), (im, .inr (1, [.ref iq, .int L])), (iq, .inl (cB, n, .inl f)), (fo, .inr (2, [.ref a1, .ref a2, .int pa, .int de, .int so, .int si, .int se, .int mo, .int ow, .int gr, .int l2_13, .int tl, .int mk])), (a1, .inl (cB, 60, .inl g_14))] H := hP
          have hD : va_D A [(h0, .inr (6, [.ref im, .ref fo, .int nm, .int co, .int ta, .int lc])), (im, .inr (1, [.ref iq, .int L])), (iq, .inl (cB, n, .inl f)), (fo, .inr (2, [.ref a1, .ref a2, .int pa, .int de, .int so, .int si, .int se, .int mo, .int ow, .int gr, .int l2_13, .int tl, .int mk])), (a1, .inl (cB, 60, .inl g_14))] := hD
          try dsimp only at hp_r12
          have hl2_15 := hp_r12
          obtain ⟨v16, e_v16⟩ : ∃ z : Int32, z = kx + 1 := ⟨_, rfl⟩
          refine lv_iinc (v := v16) hx hb d_PartsReader_takeName_44 hl (k := 3) rfl e_v16.symm (by decide +kernel) rfl (fun ls hl => ?_)
          have t_v16 : v16.toInt = kx.toInt + 1 := by rw [e_v16]; exact i_add rfl (by decide) (by omega) (by omega)
          have hl : lv_has ls 4 [(3, .int v16), (0, .ref h0), (1, .int x), (2, .int y)] := hl
          refine lv_goto (tgt := 22) hx hb d_PartsReader_takeName_47 (by decide) ?_
          have hP := hP.sub (ws' := [(h0, .inr (6, [.ref im, .ref fo, .int nm, .int co, .int ta, .int lc])), (fo, .inr (2, [.ref a1, .ref a2, .int pa, .int de, .int so, .int si, .int se, .int mo, .int ow, .int gr, .int l2_13, .int tl, .int mk])), (a1, .inl (cB, 60, .inl g_14)), (im, .inr (1, [.ref iq, .int L])), (iq, .inl (cB, n, .inl f))]) [0, 3, 4, 1, 2] rfl
          have hD := hD.sub (ws' := [(h0, .inr (6, [.ref im, .ref fo, .int nm, .int co, .int ta, .int lc])), (fo, .inr (2, [.ref a1, .ref a2, .int pa, .int de, .int so, .int si, .int se, .int mo, .int ow, .int gr, .int l2_13, .int tl, .int mk])), (a1, .inl (cB, 60, .inl g_14)), (im, .inr (1, [.ref iq, .int L])), (iq, .inl (cB, n, .inl f))]) [0, 3, 4, 1, 2] (by decide +kernel) rfl
          have hl := lv_sub hl [1, 2, 3, 0] rfl
          exact ih22 _ (by first | omega | (dsimp only; omega)) v16 l2_13 g_14 _ _ _ rfl ((by (try dsimp only); first | assumption | omega | trivial)) ((by (try dsimp only); first | assumption | omega | trivial)) hP hD hS hl
      · skip
        intro kk22
        have hP := hP.sub (ws' := [(h0, .inr (6, [.ref im, .ref fo, .int nm, .int co, .int ta, .int lc])), (fo, .inr (2, [.ref a1, .ref a2, .int pa, .int de, .int so, .int si, .int se, .int mo, .int ow, .int gr, .int nl, .int tl, .int mk])), (a1, .inl (cB, 60, .inl f1)), (im, .inr (1, [.ref iq, .int L])), (iq, .inl (cB, n, .inl f))]) [0, 1, 2, 3, 4] rfl
        have hD := hD.sub (ws' := [(h0, .inr (6, [.ref im, .ref fo, .int nm, .int co, .int ta, .int lc])), (fo, .inr (2, [.ref a1, .ref a2, .int pa, .int de, .int so, .int si, .int se, .int mo, .int ow, .int gr, .int nl, .int tl, .int mk])), (a1, .inl (cB, 60, .inl f1)), (im, .inr (1, [.ref iq, .int L])), (iq, .inl (cB, n, .inl f))]) [0, 1, 2, 3, 4] (by decide +kernel) rfl
        have hl := lv_sub hl [1, 2, 3, 0] rfl
        exact kk22 _ 5 nl f1 _ _ _ rfl ((by (try dsimp only); first | assumption | omega | trivial)) ((by (try dsimp only); first | assumption | omega | trivial)) hP hD hS hl
    · skip
      have g15_12 : ¬ r2.toInt = 0 := fun h8 => h_9 ((i_eq rfl (by decide)).mpr h8)
      refine lv_iconst (v := 0) hx hb d_PartsReader_takeName_18 (by decide) ?_
      have hP9 := hP.sub (ws' := [(h0, .inr (6, [.ref im, .ref fo, .int nm, .int co, .int ta, .int lc])), (im, .inr (1, [.ref iq, .int L])), (iq, .inl (cB, n, .inl f)), (fo, .inr (2, [.ref a1, .ref a2, .int pa, .int de, .int so, .int si, .int se, .int mo, .int ow, .int gr, .int nl, .int tl, .int mk])), (a1, .inl (cB, 60, .inl f1))]) [0, 3, 4, 1, 2] rfl
      have hD9 := hD.sub (ws' := [(h0, .inr (6, [.ref im, .ref fo, .int nm, .int co, .int ta, .int lc])), (im, .inr (1, [.ref iq, .int L])), (iq, .inl (cB, n, .inl f)), (fo, .inr (2, [.ref a1, .ref a2, .int pa, .int de, .int so, .int si, .int se, .int mo, .int ow, .int gr, .int nl, .int tl, .int mk])), (a1, .inl (cB, 60, .inl f1))]) [0, 3, 4, 1, 2] (by decide +kernel) rfl
      exact W.zret (v := 0) hx hb hr (by first | rfl | decide | exact i_narZ (by omega)) (fun t ht hW => ⟨⟨0, (nm, nl, f1), rfl, ⟨(by (try dsimp only); first | assumption | omega | trivial), (by (try dsimp only); intro h7; first | (exfalso; omega) | omega | assumption)⟩, by rw [ht]; exact hP9, hD9⟩, hS.F ht⟩) hS.2.2 d_PartsReader_takeName_19

theorem d_PartsReader_takeOwnership_0 : decode b_PartsReader_takeOwnership 0 = .ok (.iload_n 2, 1) := by decide +kernel
theorem d_PartsReader_takeOwnership_1 : decode b_PartsReader_takeOwnership 1 = .ok (.bipush 36, 2) := by decide +kernel
theorem d_PartsReader_takeOwnership_3 : decode b_PartsReader_takeOwnership 3 = .ok (.if_icmp .eq 5, 3) := by decide +kernel
theorem d_PartsReader_takeOwnership_6 : decode b_PartsReader_takeOwnership 6 = .ok (.iconst 0, 1) := by decide +kernel
theorem d_PartsReader_takeOwnership_7 : decode b_PartsReader_takeOwnership 7 = .ok (.ireturn, 1) := by decide +kernel
theorem d_PartsReader_takeOwnership_8 : decode b_PartsReader_takeOwnership 8 = .ok (.iconst 4, 1) := by decide +kernel
theorem d_PartsReader_takeOwnership_9 : decode b_PartsReader_takeOwnership 9 = .ok (.istore_n 3, 1) := by decide +kernel
theorem d_PartsReader_takeOwnership_10 : decode b_PartsReader_takeOwnership 10 = .ok (.iload_n 3, 1) := by decide +kernel
theorem d_PartsReader_takeOwnership_11 : decode b_PartsReader_takeOwnership 11 = .ok (.bipush 36, 2) := by decide +kernel
theorem d_PartsReader_takeOwnership_13 : decode b_PartsReader_takeOwnership 13 = .ok (.if_icmp .ge 25, 3) := by decide +kernel
theorem d_PartsReader_takeOwnership_16 : decode b_PartsReader_takeOwnership 16 = .ok (.aload_n 0, 1) := by decide +kernel
theorem d_PartsReader_takeOwnership_17 : decode b_PartsReader_takeOwnership 17 = .ok (.getfield 9, 3) := by decide +kernel
theorem d_PartsReader_takeOwnership_20 : decode b_PartsReader_takeOwnership 20 = .ok (.iload_n 1, 1) := by decide +kernel
theorem d_PartsReader_takeOwnership_21 : decode b_PartsReader_takeOwnership 21 = .ok (.iload_n 3, 1) := by decide +kernel
theorem d_PartsReader_takeOwnership_22 : decode b_PartsReader_takeOwnership 22 = .ok (.iadd, 1) := by decide +kernel
theorem d_PartsReader_takeOwnership_23 : decode b_PartsReader_takeOwnership 23 = .ok (.iconst 4, 1) := by decide +kernel
theorem d_PartsReader_takeOwnership_24 : decode b_PartsReader_takeOwnership 24 = .ok (.invokevirtual 80, 3) := by decide +kernel
theorem d_PartsReader_takeOwnership_27 : decode b_PartsReader_takeOwnership 27 = .ok (.ifCond .ne 5, 3) := by decide +kernel
theorem d_PartsReader_takeOwnership_30 : decode b_PartsReader_takeOwnership 30 = .ok (.iconst 0, 1) := by decide +kernel
theorem d_PartsReader_takeOwnership_31 : decode b_PartsReader_takeOwnership 31 = .ok (.ireturn, 1) := by decide +kernel
theorem d_PartsReader_takeOwnership_32 : decode b_PartsReader_takeOwnership 32 = .ok (.iinc 3 8, 3) := by decide +kernel
theorem d_PartsReader_takeOwnership_35 : decode b_PartsReader_takeOwnership 35 = .ok (.goto (-25), 3) := by decide +kernel
theorem d_PartsReader_takeOwnership_38 : decode b_PartsReader_takeOwnership 38 = .ok (.aload_n 0, 1) := by decide +kernel
theorem d_PartsReader_takeOwnership_39 : decode b_PartsReader_takeOwnership 39 = .ok (.getfield 15, 3) := by decide +kernel
theorem d_PartsReader_takeOwnership_42 : decode b_PartsReader_takeOwnership 42 = .ok (.aload_n 0, 1) := by decide +kernel
theorem d_PartsReader_takeOwnership_43 : decode b_PartsReader_takeOwnership 43 = .ok (.getfield 9, 3) := by decide +kernel
theorem d_PartsReader_takeOwnership_46 : decode b_PartsReader_takeOwnership 46 = .ok (.iload_n 1, 1) := by decide +kernel
theorem d_PartsReader_takeOwnership_47 : decode b_PartsReader_takeOwnership 47 = .ok (.iconst 4, 1) := by decide +kernel
theorem d_PartsReader_takeOwnership_48 : decode b_PartsReader_takeOwnership 48 = .ok (.iadd, 1) := by decide +kernel
theorem d_PartsReader_takeOwnership_49 : decode b_PartsReader_takeOwnership 49 = .ok (.iconst 4, 1) := by decide +kernel
theorem d_PartsReader_takeOwnership_50 : decode b_PartsReader_takeOwnership 50 = .ok (.invokevirtual 43, 3) := by decide +kernel
theorem d_PartsReader_takeOwnership_53 : decode b_PartsReader_takeOwnership 53 = .ok (.putfield 53, 3) := by decide +kernel
theorem d_PartsReader_takeOwnership_56 : decode b_PartsReader_takeOwnership 56 = .ok (.aload_n 0, 1) := by decide +kernel
theorem d_PartsReader_takeOwnership_57 : decode b_PartsReader_takeOwnership 57 = .ok (.getfield 15, 3) := by decide +kernel
theorem d_PartsReader_takeOwnership_60 : decode b_PartsReader_takeOwnership 60 = .ok (.aload_n 0, 1) := by decide +kernel
theorem d_PartsReader_takeOwnership_61 : decode b_PartsReader_takeOwnership 61 = .ok (.getfield 9, 3) := by decide +kernel
theorem d_PartsReader_takeOwnership_64 : decode b_PartsReader_takeOwnership 64 = .ok (.iload_n 1, 1) := by decide +kernel
theorem d_PartsReader_takeOwnership_65 : decode b_PartsReader_takeOwnership 65 = .ok (.bipush 20, 2) := by decide +kernel
theorem d_PartsReader_takeOwnership_67 : decode b_PartsReader_takeOwnership 67 = .ok (.iadd, 1) := by decide +kernel
theorem d_PartsReader_takeOwnership_68 : decode b_PartsReader_takeOwnership 68 = .ok (.iconst 4, 1) := by decide +kernel
theorem d_PartsReader_takeOwnership_69 : decode b_PartsReader_takeOwnership 69 = .ok (.invokevirtual 43, 3) := by decide +kernel
theorem d_PartsReader_takeOwnership_72 : decode b_PartsReader_takeOwnership 72 = .ok (.putfield 83, 3) := by decide +kernel
theorem d_PartsReader_takeOwnership_75 : decode b_PartsReader_takeOwnership 75 = .ok (.aload_n 0, 1) := by decide +kernel
theorem d_PartsReader_takeOwnership_76 : decode b_PartsReader_takeOwnership 76 = .ok (.getfield 15, 3) := by decide +kernel
theorem d_PartsReader_takeOwnership_79 : decode b_PartsReader_takeOwnership 79 = .ok (.aload_n 0, 1) := by decide +kernel
theorem d_PartsReader_takeOwnership_80 : decode b_PartsReader_takeOwnership 80 = .ok (.getfield 9, 3) := by decide +kernel
theorem d_PartsReader_takeOwnership_83 : decode b_PartsReader_takeOwnership 83 = .ok (.iload_n 1, 1) := by decide +kernel
theorem d_PartsReader_takeOwnership_84 : decode b_PartsReader_takeOwnership 84 = .ok (.bipush 28, 2) := by decide +kernel
theorem d_PartsReader_takeOwnership_86 : decode b_PartsReader_takeOwnership 86 = .ok (.iadd, 1) := by decide +kernel
theorem d_PartsReader_takeOwnership_87 : decode b_PartsReader_takeOwnership 87 = .ok (.iconst 4, 1) := by decide +kernel
theorem d_PartsReader_takeOwnership_88 : decode b_PartsReader_takeOwnership 88 = .ok (.invokevirtual 43, 3) := by decide +kernel
theorem d_PartsReader_takeOwnership_91 : decode b_PartsReader_takeOwnership 91 = .ok (.putfield 86, 3) := by decide +kernel
theorem d_PartsReader_takeOwnership_94 : decode b_PartsReader_takeOwnership 94 = .ok (.iconst 1, 1) := by decide +kernel
theorem d_PartsReader_takeOwnership_95 : decode b_PartsReader_takeOwnership 95 = .ok (.ireturn, 1) := by decide +kernel
set_option maxHeartbeats 4000000 in
set_option maxRecDepth 100000 in
theorem c3_takeOwnership (l : Launch) (D : va_G) (cB cI cJ cZ cN cF : ClassId) (sz : Nat) (h0 : Nat) (fo : Nat) (im : Nat) (iq : Nat) (n : Nat) (L : Int32) (f : Nat → Int32) (nm : Int32) (co : Int32) (ta : Int32) (lc : Int32) (a1 : Nat) (a2 : Nat) (pa : Int32) (de : Int32) (so : Int32) (si : Int32) (se : Int32) (mo : Int32) (ow : Int32) (gr : Int32) (nl : Int32) (tl : Int32) (mk : Int32) (x : Int32) (y : Int32) (hL : 0 ≤ L.toInt ∧ L.toInt ≤ n) (hn : n ≤ 3000000) (hx : 0 ≤ x.toInt ∧ x.toInt ≤ 4000000) (hy : 4 ≤ y.toInt ∧ y.toInt ≤ 255) : Met l y_PartsReader_takeOwnership w_PartsReader_takeOwnership ({ frames := 1, cells := 0, slots := 0, locals := 30 }) (va_Pc [.ref h0, .int x, .int y] (fun U => U.heap.size = sz ∧ va_P D CL [(h0, .inr (6, [.ref im, .ref fo, .int nm, .int co, .int ta, .int lc])), (im, .inr (1, [.ref iq, .int L])), (iq, .inl (cB, n, .inl f)), (fo, .inr (2, [.ref a1, .ref a2, .int pa, .int de, .int so, .int si, .int se, .int mo, .int ow, .int gr, .int nl, .int tl, .int mk]))] U.heap ∧ va_K D CL (TY cB cI cJ cZ cN cF) U ∧ NN U ∧ va_D (fun _ => True) [(h0, .inr (6, [.ref im, .ref fo, .int nm, .int co, .int ta, .int lc])), (im, .inr (1, [.ref iq, .int L])), (iq, .inl (cB, n, .inl f)), (fo, .inr (2, [.ref a1, .ref a2, .int pa, .int de, .int so, .int si, .int se, .int mo, .int ow, .int gr, .int nl, .int tl, .int mk]))])) (va_Qi (fun (r : Int32) (u : Int32 × Int32 × Int32) => match u with | (mo2, ow2, gr2) => (0 ≤ r.toInt ∧ r.toInt ≤ 1)) (fun (u : Int32 × Int32 × Int32) (t : State) => match u with | (mo2, ow2, gr2) => va_P D CL [(h0, .inr (6, [.ref im, .ref fo, .int nm, .int co, .int ta, .int lc])), (im, .inr (1, [.ref iq, .int L])), (iq, .inl (cB, n, .inl f)), (fo, .inr (2, [.ref a1, .ref a2, .int pa, .int de, .int so, .int si, .int se, .int mo2, .int ow2, .int gr2, .int nl, .int tl, .int mk]))] t.heap ∧ va_D (va_A [(h0, .inr (6, [.ref im, .ref fo, .int nm, .int co, .int ta, .int lc])), (im, .inr (1, [.ref iq, .int L])), (iq, .inl (cB, n, .inl f)), (fo, .inr (2, [.ref a1, .ref a2, .int pa, .int de, .int so, .int si, .int se, .int mo, .int ow, .int gr, .int nl, .int tl, .int mk]))] sz) [(h0, .inr (6, [.ref im, .ref fo, .int nm, .int co, .int ta, .int lc])), (im, .inr (1, [.ref iq, .int L])), (iq, .inl (cB, n, .inl f)), (fo, .inr (2, [.ref a1, .ref a2, .int pa, .int de, .int so, .int si, .int se, .int mo2, .int ow2, .int gr2, .int nl, .int tl, .int mk]))]) (va_A [(h0, .inr (6, [.ref im, .ref fo, .int nm, .int co, .int ta, .int lc])), (im, .inr (1, [.ref iq, .int L])), (iq, .inl (cB, n, .inl f)), (fo, .inr (2, [.ref a1, .ref a2, .int pa, .int de, .int so, .int si, .int se, .int mo, .int ow, .int gr, .int nl, .int tl, .int mk]))] sz)) 0 0 (va_A [(h0, .inr (6, [.ref im, .ref fo, .int nm, .int co, .int ta, .int lc])), (im, .inr (1, [.ref iq, .int L])), (iq, .inl (cB, n, .inl f)), (fo, .inr (2, [.ref a1, .ref a2, .int pa, .int de, .int so, .int si, .int se, .int mo, .int ow, .int gr, .int nl, .int tl, .int mk]))] sz) := by
  refine Met.ofW (cc := b_PartsReader_takeOwnership) (maxL := 4) (ret := some .boolean) (by decide +kernel) rfl ?_
  intro p e s m args below meth c s₁ B hml hv
  obtain ⟨rfl, hsz, hP, hK, hN, hD0⟩ := hv
  have hx := B.exec
  have hb := B.bytes
  have hr := B.returns
  have hts := atoms_spec (ws := w_PartsReader_takeOwnership) B.pre
  have ht9 := fun (w : Cond) (h : w ∈ lw_g) => hts w (List.mem_cons_of_mem _ h)
  have hown : s.vm.findClass "DiscMaker$PartsReader" = some m.cls := findClass_of_methodNamed B.named
  have hlocks := B.notSynchronized
  subst hsz
  have hD := hD0.self (sz := s.heap.size)
  generalize hAe : va_A [(h0, .inr (6, [.ref im, .ref fo, .int nm, .int co, .int ta, .int lc])), (im, .inr (1, [.ref iq, .int L])), (iq, .inl (cB, n, .inl f)), (fo, .inr (2, [.ref a1, .ref a2, .int pa, .int de, .int so, .int si, .int se, .int mo, .int ow, .int gr, .int nl, .int tl, .int mk]))] s.heap.size = A at hD ⊢
  have hA : ∀ q : Nat, s.heap.size ≤ q → A q := fun q h => by rw [← hAe]; exact Or.inr h
  have hS : va_S A s.heap s.heap [] := va_S.rf
  have hP : va_P D CL [(h0, .inr (6, [.ref im, .ref fo, .int nm, .int co, .int ta, .int lc])), (im, .inr (1, [.ref iq, .int L])), (iq, .inl (cB, n, .inl f)), (fo, .inr (2, [.ref a1, .ref a2, .int pa, .int de, .int so, .int si, .int se, .int mo, .int ow, .int gr, .int nl, .int tl, .int mk]))] s.heap := hP
  have hl := lv_entry [.ref h0, .int x, .int y] (n := 4) (Nat.le_of_ble_eq_true rfl)
  rw [lg_entry_eq]
  generalize (lg_sl [.ref h0, .int x, .int y] ++ List.replicate (4 - (lg_sl [.ref h0, .int x, .int y]).length) Slot.unset).toArray = ls at hl ⊢
  have hl : lv_has ls 4 [(0, .ref h0), (1, .int x), (2, .int y)] := hl
  have L_m1 : ((-1) : Int32).toInt = (-1) := by decide
  have L_0 : (0 : Int32).toInt = 0 := by decide
  have L_1 : (1 : Int32).toInt = 1 := by decide
  have L_4 : (4 : Int32).toInt = 4 := by decide
  have L_8 : (8 : Int32).toInt = 8 := by decide
  have L_12 : (12 : Int32).toInt = 12 := by decide
  have L_20 : (20 : Int32).toInt = 20 := by decide
  have L_28 : (28 : Int32).toInt = 28 := by decide
  have L_36 : (36 : Int32).toInt = 36 := by decide
  refine lv_iload_n hx hb d_PartsReader_takeOwnership_0 rfl (lv_at hl 2 rfl) ?_
  refine lv_bipush (v := 36) hx hb d_PartsReader_takeOwnership_1 (by decide) ?_
  refine lv_icmp_eq (tgt := 8) hx hb d_PartsReader_takeOwnership_3 (by decide) (fun h_9 => ?_) (fun h_9 => ?_)
  · skip
    have g3_3 : y.toInt = 36 := (i_eq rfl (by decide)).mp h_9
    refine lv_iconst (v := 4) hx hb d_PartsReader_takeOwnership_8 (by decide) ?_
    refine lv_istore_n hx hb d_PartsReader_takeOwnership_9 rfl hl (by decide) rfl (fun ls hl => ?_)
    have hl : lv_has ls 4 [(3, .int 4), (0, .ref h0), (1, .int x), (2, .int y)] := hl
    refine lv_iload_n hx hb d_PartsReader_takeOwnership_10 rfl (lv_at hl 0 rfl) ?_
    refine lv_bipush (v := 36) hx hb d_PartsReader_takeOwnership_11 (by decide) ?_
    refine lv_icmp_ge (tgt := 38) hx hb d_PartsReader_takeOwnership_13 (by decide) (fun h_9 => absurd h_9 (by decide)) (fun _ => ?_)
    refine lv_aload_n hx hb d_PartsReader_takeOwnership_16 rfl (lv_at hl 1 rfl) ?_
    refine va_get (D := D) (ci := 6) (v := .ref im) (C := "DiscMaker$PartsReader") (T := F_PartsReader) (N := 6) hx hb ht9 in_PartsReader hown hK hP 0 rfl rfl 0 (by decide) (ht9 _ k392) (fun _ h9 => h9) rfl d_PartsReader_takeOwnership_17 ?_
    refine lv_iload_n hx hb d_PartsReader_takeOwnership_20 rfl (lv_at hl 2 rfl) ?_
    refine lv_iload_n hx hb d_PartsReader_takeOwnership_21 rfl (lv_at hl 0 rfl) ?_
    refine lv_iadd hx hb d_PartsReader_takeOwnership_22 ?_
    refine lv_topi (fun v1 e_v1 => ?_)
    have t_v1 : v1.toInt = x.toInt + 4 := by rw [e_v1]; exact i_add rfl (by decide) (by omega) (by omega)
    refine lv_iconst (v := 4) hx hb d_PartsReader_takeOwnership_23 (by decide) ?_
    have hPc := hP.sub (ws' := [(im, .inr (1, [.ref iq, .int L])), (iq, .inl (cB, n, .inl f))]) [1, 2] rfl
    have hDc := hD.sub (ws' := [(im, .inr (1, [.ref iq, .int L])), (iq, .inl (cB, n, .inl f))]) [1, 2] (by decide +kernel) rfl
    have hFc := va_free (wc := [(im, .inr (1, [.ref iq, .int L])), (iq, .inl (cB, n, .inl f))]) hD hS hA [1, 2] rfl
    have hkc : 0 ≤ 0 := by decide
    have hks : 0 ≤ 0 := by decide
    refine va_calli (va_runV (C := "DiscMaker$Bytes") (As := [.int v1, .int 4]) (rest := []) ⟨hx, hb, hml, hown, hts⟩ (c3_halvesAgree l D cB cI cJ cZ cN cF s.heap.size im iq n L f v1 4 (by (try dsimp only); first | assumption | omega | trivial) (by (try dsimp only); first | assumption | omega | trivial) (by (try dsimp only); first | assumption | omega | trivial) (by (try dsimp only); first | assumption | omega | trivial)) (cwV 2 hts (lg_goodV k1336 k1194 k1195 k119 kc_Bytes_halvesAgree) rfl rfl rfl (by decide +kernel) ⟨Nat.le_of_ble_eq_true rfl, Nat.le_of_ble_eq_true rfl⟩) ⟨fun a U g mk q => by obtain ⟨q0, q1, qP, qK, qN, qD⟩ := q; exact ⟨q0, q1, qP, va_K.moved (u := U) (U := U.calling g mk a) (Vm.Alike.refl U.vm) qK, qN.calling, qD⟩, va_recv hK hP (ci := 1) (q0 := 1) rfl rfl, fun U hU hW => ⟨rfl, by rw [hU], by rw [hU]; exact hPc, va_K.moved hW.alike hK, NN.warm hW hN, hDc.weaken (fun _ _ _ _ => trivial)⟩⟩ rfl rfl hl.1 rfl (lv_room (Nat.le_of_ble_eq_true rfl)) d_PartsReader_takeOwnership_24 ⟨hkc, hks⟩) hS (fun q _ h => hFc q h) hFc (fun r2 u t H1 locs ht hvm hp_r2 hB hz1 hk1 hS => ?_)
    obtain ⟨hP1, hD1⟩ := hB
    rw [ht] at hP1
    obtain ⟨hP, hD⟩ := va_join (wr := [(h0, .inr (6, [.ref im, .ref fo, .int nm, .int co, .int ta, .int lc])), (fo, .inr (2, [.ref a1, .ref a2, .int pa, .int de, .int so, .int si, .int se, .int mo, .int ow, .int gr, .int nl, .int tl, .int mk]))]) (w1 := [(im, .inr (1, [.ref iq, .int L])), (iq, .inl (cB, n, .inl f))]) hP hD [1, 2] [0, 3] rfl rfl (by decide +kernel) (by decide +kernel) hk1 hFc hP1 hD1
    clear hPc hDc hFc hP1 hD1 hk1 hz1 hkc hks
    generalize H1 = H at hP hS ⊢
    have hP : va_P D CL [(h0, .inr (6, [.ref im, .ref fo, .int nm, .int co, .int ta, .int lc])), (fo, .inr (2, [.ref a1, .ref a2, .int pa, .int de, .int so, .int si, .int se, .int mo, .int ow, .int gr, .int nl, .int tl, .int mk])), (im, .inr (1, [.ref iq, .int L])), (iq, .inl (cB, n, .inl f))] H := hP
    have hD : va_D A [(h0, .inr (6, [.ref im, .ref fo, .int nm, .int co, .int ta, .int lc])), (fo, .inr (2, [.ref a1, .ref a2, .int pa, .int de, .int so, .int si, .int se, .int mo, .int ow, .int gr, .int nl, .int tl, .int mk])), (im, .inr (1, [.ref iq, .int L])), (iq, .inl (cB, n, .inl f))] := hD
    try dsimp only at hp_r2
    have hr_3 := hp_r2
    refine lv_if_ne (tgt := 32) hx hb d_PartsReader_takeOwnership_27 (by decide) (fun h_9 => ?_) (fun h_9 => ?_)
    · skip
      have g27_16 : ¬ r2.toInt = 0 := fun h8 => h_9 ((i_eq rfl (by decide)).mpr h8)
      refine lv_iinc (v := 12) hx hb d_PartsReader_takeOwnership_32 hl (k := 0) rfl (by decide) (by decide +kernel) rfl (fun ls hl => ?_)
      have hl : lv_has ls 4 [(3, .int 12), (0, .ref h0), (1, .int x), (2, .int y)] := hl
      refine lv_goto (tgt := 10) hx hb d_PartsReader_takeOwnership_35 (by decide) ?_
      refine lv_iload_n hx hb d_PartsReader_takeOwnership_10 rfl (lv_at hl 0 rfl) ?_
      refine lv_bipush (v := 36) hx hb d_PartsReader_takeOwnership_11 (by decide) ?_
      refine lv_icmp_ge (tgt := 38) hx hb d_PartsReader_takeOwnership_13 (by decide) (fun h_9 => absurd h_9 (by decide)) (fun _ => ?_)
      refine lv_aload_n hx hb d_PartsReader_takeOwnership_16 rfl (lv_at hl 1 rfl) ?_
      refine va_get (D := D) (ci := 6) (v := .ref im) (C := "DiscMaker$PartsReader") (T := F_PartsReader) (N := 6) hx hb ht9 in_PartsReader hown hK hP 0 rfl rfl 0 (by decide) (ht9 _ k392) (fun _ h9 => h9) rfl d_PartsReader_takeOwnership_17 ?_
      refine lv_iload_n hx hb d_PartsReader_takeOwnership_20 rfl (lv_at hl 2 rfl) ?_
      refine lv_iload_n hx hb d_PartsReader_takeOwnership_21 rfl (lv_at hl 0 rfl) ?_
      refine lv_iadd hx hb d_PartsReader_takeOwnership_22 ?_
      refine lv_topi (fun v4 e_v4 => ?_)
      have t_v4 : v4.toInt = x.toInt + 12 := by rw [e_v4]; exact i_add rfl (by decide) (by omega) (by omega)
      refine lv_iconst (v := 4) hx hb d_PartsReader_takeOwnership_23 (by decide) ?_
      have hPc := hP.sub (ws' := [(im, .inr (1, [.ref iq, .int L])), (iq, .inl (cB, n, .inl f))]) [2, 3] rfl
      have hDc := hD.sub (ws' := [(im, .inr (1, [.ref iq, .int L])), (iq, .inl (cB, n, .inl f))]) [2, 3] (by decide +kernel) rfl
      have hFc := va_free (wc := [(im, .inr (1, [.ref iq, .int L])), (iq, .inl (cB, n, .inl f))]) hD hS hA [2, 3] rfl
      have hkc : 0 ≤ 0 := by decide
      have hks : 0 ≤ 0 := by decide
      refine va_calli (va_runV (C := "DiscMaker$Bytes") (As := [.int v4, .int 4]) (rest := []) ⟨hx, hb, hml, hown, hts⟩ (c3_halvesAgree l D cB cI cJ cZ cN cF H.size im iq n L f v4 4 (by (try dsimp only); first | assumption | omega | trivial) (by (try dsimp only); first | assumption | omega | trivial) (by (try dsimp only); first | assumption | omega | trivial) (by (try dsimp only); first | assumption | omega | trivial)) (cwV 2 hts (lg_goodV k1336 k1194 k1195 k119 kc_Bytes_halvesAgree) rfl rfl rfl (by decide +kernel) ⟨Nat.le_of_ble_eq_true rfl, Nat.le_of_ble_eq_true rfl⟩) ⟨fun a U g mk q => by obtain ⟨q0, q1, qP, qK, qN, qD⟩ := q; exact ⟨q0, q1, qP, va_K.moved (u := U) (U := U.calling g mk a) (Vm.Alike.refl U.vm) qK, qN.calling, qD⟩, va_recv hK hP (ci := 1) (q0 := 2) rfl rfl, fun U hU hW => ⟨rfl, by rw [hU], by rw [hU]; exact hPc, va_K.moved hW.alike hK, NN.warm hW hN, hDc.weaken (fun _ _ _ _ => trivial)⟩⟩ rfl rfl hl.1 rfl (lv_room (Nat.le_of_ble_eq_true rfl)) d_PartsReader_takeOwnership_24 ⟨hkc, hks⟩) hS (fun q _ h => hFc q h) hFc (fun r5 u t H1 locs ht hvm hp_r5 hB hz1 hk1 hS => ?_)
      obtain ⟨hP1, hD1⟩ := hB
      rw [ht] at hP1
      obtain ⟨hP, hD⟩ := va_join (wr := [(h0, .inr (6, [.ref im, .ref fo, .int nm, .int co, .int ta, .int lc])), (fo, .inr (2, [.ref a1, .ref a2, .int pa, .int de, .int so, .int si, .int se, .int mo, .int ow, .int gr, .int nl, .int tl, .int mk]))]) (w1 := [(im, .inr (1, [.ref iq, .int L])), (iq, .inl (cB, n, .inl f))]) hP hD [2, 3] [0, 1] rfl rfl (by decide +kernel) (by decide +kernel) hk1 hFc hP1 hD1
      clear hPc hDc hFc hP1 hD1 hk1 hz1 hkc hks
      generalize H1 = H at hP hS ⊢
      have hP : va_P D CL [(h0, .inr (6, [.ref im, .ref fo, .int nm, .int co, .int ta, .int lc])), (fo, .inr (2, [.ref a1, .ref a2, .int pa, .int de, .int so, .int si, .int se, .int mo, .int ow, .int gr, .int nl, .int tl, .int mk])), (im, .inr (1, [.ref iq, .int L])), (iq, .inl (cB, n, .inl f))] H := hP
      have hD : va_D A [(h0, .inr (6, [.ref im, .ref fo, .int nm, .int co, .int ta, .int lc])), (fo, .inr (2, [.ref a1, .ref a2, .int pa, .int de, .int so, .int si, .int se, .int mo, .int ow, .int gr, .int nl, .int tl, .int mk])), (im, .inr (1, [.ref iq, .int L])), (iq, .inl (cB, n, .inl f))] := hD
      try dsimp only at hp_r5
      have hr_6 := hp_r5
      refine lv_if_ne (tgt := 32) hx hb d_PartsReader_takeOwnership_27 (by decide) (fun h_9 => ?_) (fun h_9 => ?_)
      · skip
        have g27_29 : ¬ r5.toInt = 0 := fun h8 => h_9 ((i_eq rfl (by decide)).mpr h8)
        refine lv_iinc (v := 20) hx hb d_PartsReader_takeOwnership_32 hl (k := 0) rfl (by decide) (by decide +kernel) rfl (fun ls hl => ?_)
        have hl : lv_has ls 4 [(3, .int 20), (0, .ref h0), (1, .int x), (2, .int y)] := hl
        refine lv_goto (tgt := 10) hx hb d_PartsReader_takeOwnership_35 (by decide) ?_
        refine lv_iload_n hx hb d_PartsReader_takeOwnership_10 rfl (lv_at hl 0 rfl) ?_
        refine lv_bipush (v := 36) hx hb d_PartsReader_takeOwnership_11 (by decide) ?_
        refine lv_icmp_ge (tgt := 38) hx hb d_PartsReader_takeOwnership_13 (by decide) (fun h_9 => absurd h_9 (by decide)) (fun _ => ?_)
        refine lv_aload_n hx hb d_PartsReader_takeOwnership_16 rfl (lv_at hl 1 rfl) ?_
        refine va_get (D := D) (ci := 6) (v := .ref im) (C := "DiscMaker$PartsReader") (T := F_PartsReader) (N := 6) hx hb ht9 in_PartsReader hown hK hP 0 rfl rfl 0 (by decide) (ht9 _ k392) (fun _ h9 => h9) rfl d_PartsReader_takeOwnership_17 ?_
        refine lv_iload_n hx hb d_PartsReader_takeOwnership_20 rfl (lv_at hl 2 rfl) ?_
        refine lv_iload_n hx hb d_PartsReader_takeOwnership_21 rfl (lv_at hl 0 rfl) ?_
        refine lv_iadd hx hb d_PartsReader_takeOwnership_22 ?_
        refine lv_topi (fun v7 e_v7 => ?_)
        have t_v7 : v7.toInt = x.toInt + 20 := by rw [e_v7]; exact i_add rfl (by decide) (by omega) (by omega)
        refine lv_iconst (v := 4) hx hb d_PartsReader_takeOwnership_23 (by decide) ?_
        have hPc := hP.sub (ws' := [(im, .inr (1, [.ref iq, .int L])), (iq, .inl (cB, n, .inl f))]) [2, 3] rfl
        have hDc := hD.sub (ws' := [(im, .inr (1, [.ref iq, .int L])), (iq, .inl (cB, n, .inl f))]) [2, 3] (by decide +kernel) rfl
        have hFc := va_free (wc := [(im, .inr (1, [.ref iq, .int L])), (iq, .inl (cB, n, .inl f))]) hD hS hA [2, 3] rfl
        have hkc : 0 ≤ 0 := by decide
        have hks : 0 ≤ 0 := by decide
        refine va_calli (va_runV (C := "DiscMaker$Bytes") (As := [.int v7, .int 4]) (rest := []) ⟨hx, hb, hml, hown, hts⟩ (c3_halvesAgree l D cB cI cJ cZ cN cF H.size im iq n L f v7 4 (by (try dsimp only); first | assumption | omega | trivial) (by (try dsimp only); first | assumption | omega | trivial) (by (try dsimp only); first | assumption | omega | trivial) (by (try dsimp only); first | assumption | omega | trivial)) (cwV 2 hts (lg_goodV k1336 k1194 k1195 k119 kc_Bytes_halvesAgree) rfl rfl rfl (by decide +kernel) ⟨Nat.le_of_ble_eq_true rfl, Nat.le_of_ble_eq_true rfl⟩) ⟨fun a U g mk q => by obtain ⟨q0, q1, qP, qK, qN, qD⟩ := q; exact ⟨q0, q1, qP, va_K.moved (u := U) (U := U.calling g mk a) (Vm.Alike.refl U.vm) qK, qN.calling, qD⟩, va_recv hK hP (ci := 1) (q0 := 2) rfl rfl, fun U hU hW => ⟨rfl, by rw [hU], by rw [hU]; exact hPc, va_K.moved hW.alike hK, NN.warm hW hN, hDc.weaken (fun _ _ _ _ => trivial)⟩⟩ rfl rfl hl.1 rfl (lv_room (Nat.le_of_ble_eq_true rfl)) d_PartsReader_takeOwnership_24 ⟨hkc, hks⟩) hS (fun q _ h => hFc q h) hFc (fun r8 u t H1 locs ht hvm hp_r8 hB hz1 hk1 hS => ?_)
        obtain ⟨hP1, hD1⟩ := hB
        rw [ht] at hP1
        obtain ⟨hP, hD⟩ := va_join (wr := [(h0, .inr (6, [.ref im, .ref fo, .int nm, .int co, .int ta, .int lc])), (fo, .inr (2, [.ref a1, .ref a2, .int pa, .int de, .int so, .int si, .int se, .int mo, .int ow, .int gr, .int nl, .int tl, .int mk]))]) (w1 := [(im, .inr (1, [.ref iq, .int L])), (iq, .inl (cB, n, .inl f))]) hP hD [2, 3] [0, 1] rfl rfl (by decide +kernel) (by decide +kernel) hk1 hFc hP1 hD1
        clear hPc hDc hFc hP1 hD1 hk1 hz1 hkc hks
        generalize H1 = H at hP hS ⊢
        have hP : va_P D CL [(h0, .inr (6, [.ref im, .ref fo, .int nm, .int co, .int ta, .int lc])), (fo, .inr (2, [.ref a1, .ref a2, .int pa, .int de, .int so, .int si, .int se, .int mo, .int ow, .int gr, .int nl, .int tl, .int mk])), (im, .inr (1, [.ref iq, .int L])), (iq, .inl (cB, n, .inl f))] H := hP
        have hD : va_D A [(h0, .inr (6, [.ref im, .ref fo, .int nm, .int co, .int ta, .int lc])), (fo, .inr (2, [.ref a1, .ref a2, .int pa, .int de, .int so, .int si, .int se, .int mo, .int ow, .int gr, .int nl, .int tl, .int mk])), (im, .inr (1, [.ref iq, .int L])), (iq, .inl (cB, n, .inl f))] := hD
        try dsimp only at hp_r8
        have hr_9 := hp_r8
        refine lv_if_ne (tgt := 32) hx hb d_PartsReader_takeOwnership_27 (by decide) (fun h_9 => ?_) (fun h_9 => ?_)
        · skip
          have g27_42 : ¬ r8.toInt = 0 := fun h8 => h_9 ((i_eq rfl (by decide)).mpr h8)
          refine lv_iinc (v := 28) hx hb d_PartsReader_takeOwnership_32 hl (k := 0) rfl (by decide) (by decide +kernel) rfl (fun ls hl => ?_)
          have hl : lv_has ls 4 [(3, .int 28), (0, .ref h0), (1, .int x), (2, .int y)] := hl
          refine lv_goto (tgt := 10) hx hb d_PartsReader_takeOwnership_35 (by decide) ?_
          refine lv_iload_n hx hb d_PartsReader_takeOwnership_10 rfl (lv_at hl 0 rfl) ?_
          refine lv_bipush (v := 36) hx hb d_PartsReader_takeOwnership_11 (by decide) ?_
          refine lv_icmp_ge (tgt := 38) hx hb d_PartsReader_takeOwnership_13 (by decide) (fun h_9 => absurd h_9 (by decide)) (fun _ => ?_)
          refine lv_aload_n hx hb d_PartsReader_takeOwnership_16 rfl (lv_at hl 1 rfl) ?_
          refine va_get (D := D) (ci := 6) (v := .ref im) (C := "DiscMaker$PartsReader") (T := F_PartsReader) (N := 6) hx hb ht9 in_PartsReader hown hK hP 0 rfl rfl 0 (by decide) (ht9 _ k392) (fun _ h9 => h9) rfl d_PartsReader_takeOwnership_17 ?_
          refine lv_iload_n hx hb d_PartsReader_takeOwnership_20 rfl (lv_at hl 2 rfl) ?_
          refine lv_iload_n hx hb d_PartsReader_takeOwnership_21 rfl (lv_at hl 0 rfl) ?_
          refine lv_iadd hx hb d_PartsReader_takeOwnership_22 ?_
          refine lv_topi (fun v10 e_v10 => ?_)
          have t_v10 : v10.toInt = x.toInt + 28 := by rw [e_v10]; exact i_add rfl (by decide) (by omega) (by omega)
          refine lv_iconst (v := 4) hx hb d_PartsReader_takeOwnership_23 (by decide) ?_
          have hPc := hP.sub (ws' := [(im, .inr (1, [.ref iq, .int L])), (iq, .inl (cB, n, .inl f))]) [2, 3] rfl
          have hDc := hD.sub (ws' := [(im, .inr (1, [.ref iq, .int L])), (iq, .inl (cB, n, .inl f))]) [2, 3] (by decide +kernel) rfl
          have hFc := va_free (wc := [(im, .inr (1, [.ref iq, .int L])), (iq, .inl (cB, n, .inl f))]) hD hS hA [2, 3] rfl
          have hkc : 0 ≤ 0 := by decide
          have hks : 0 ≤ 0 := by decide
          refine va_calli (va_runV (C := "DiscMaker$Bytes") (As := [.int v10, .int 4]) (rest := []) ⟨hx, hb, hml, hown, hts⟩ (c3_halvesAgree l D cB cI cJ cZ cN cF H.size im iq n L f v10 4 (by (try dsimp only); first | assumption | omega | trivial) (by (try dsimp only); first | assumption | omega | trivial) (by (try dsimp only); first | assumption | omega | trivial) (by (try dsimp only); first | assumption | omega | trivial)) (cwV 2 hts (lg_goodV k1336 k1194 k1195 k119 kc_Bytes_halvesAgree) rfl rfl rfl (by decide +kernel) ⟨Nat.le_of_ble_eq_true rfl, Nat.le_of_ble_eq_true rfl⟩) ⟨fun a U g mk q => by obtain ⟨q0, q1, qP, qK, qN, qD⟩ := q; exact ⟨q0, q1, qP, va_K.moved (u := U) (U := U.calling g mk a) (Vm.Alike.refl U.vm) qK, qN.calling, qD⟩, va_recv hK hP (ci := 1) (q0 := 2) rfl rfl, fun U hU hW => ⟨rfl, by rw [hU], by rw [hU]; exact hPc, va_K.moved hW.alike hK, NN.warm hW hN, hDc.weaken (fun _ _ _ _ => trivial)⟩⟩ rfl rfl hl.1 rfl (lv_room (Nat.le_of_ble_eq_true rfl)) d_PartsReader_takeOwnership_24 ⟨hkc, hks⟩) hS (fun q _ h => hFc q h) hFc (fun r11 u t H1 locs ht hvm hp_r11 hB hz1 hk1 hS => ?_)
          obtain ⟨hP1, hD1⟩ := hB
          rw [ht] at hP1
          obtain ⟨hP, hD⟩ := va_join (wr := [(h0, .inr (6, [.ref im, .ref fo, .int nm, .int co, .int ta, .int lc])), (fo, .inr (2, [.ref a1, .ref a2, .int pa, .int de, .int so, .int si, .int se, .int mo, .int ow, .int gr, .int nl, .int tl, .int mk]))]) (w1 := [(im, .inr (1, [.ref iq, .int L])), (iq, .inl (cB, n, .inl f))]) hP hD [2, 3] [0, 1] rfl rfl (by decide +kernel) (by decide +kernel) hk1 hFc hP1 hD1
          clear hPc hDc hFc hP1 hD1 hk1 hz1 hkc hks
          generalize H1 = H at hP hS ⊢
          have hP : va_P D CL [(h0, .inr (6, [.ref im, .ref fo, .int nm, .int co, .int ta, .int lc])), (fo, .inr (2, [.ref a1, .ref a2, .int pa, .int de, .int so, .int si, .int se, .int mo, .int ow, .int gr, .int nl, .int tl, .int mk])), (im, .inr (1, [.ref iq, .int L])), (iq, .inl (cB, n, .inl f))] H := hP
          have hD : va_D A [(h0, .inr (6, [.ref im, .ref fo, .int nm, .int co, .int ta, .int lc])), (fo, .inr (2, [.ref a1, .ref a2, .int pa, .int de, .int so, .int si, .int se, .int mo, .int ow, .int gr, .int nl, .int tl, .int mk])), (im, .inr (1, [.ref iq, .int L])), (iq, .inl (cB, n, .inl f))] := hD
          try dsimp only at hp_r11
          have hr_12 := hp_r11
          refine lv_if_ne (tgt := 32) hx hb d_PartsReader_takeOwnership_27 (by decide) (fun h_9 => ?_) (fun h_9 => ?_)
          · skip
            have g27_55 : ¬ r11.toInt = 0 := fun h8 => h_9 ((i_eq rfl (by decide)).mpr h8)
            refine lv_iinc (v := 36) hx hb d_PartsReader_takeOwnership_32 hl (k := 0) rfl (by decide) (by decide +kernel) rfl (fun ls hl => ?_)
            have hl : lv_has ls 4 [(3, .int 36), (0, .ref h0), (1, .int x), (2, .int y)] := hl
            refine lv_goto (tgt := 10) hx hb d_PartsReader_takeOwnership_35 (by decide) ?_
            refine lv_iload_n hx hb d_PartsReader_takeOwnership_10 rfl (lv_at hl 0 rfl) ?_
            refine lv_bipush (v := 36) hx hb d_PartsReader_takeOwnership_11 (by decide) ?_
            refine lv_icmp_ge (tgt := 38) hx hb d_PartsReader_takeOwnership_13 (by decide) (fun _ => ?_) (fun h_9 => absurd (by decide) h_9)
            refine lv_aload_n hx hb d_PartsReader_takeOwnership_38 rfl (lv_at hl 1 rfl) ?_
            refine va_get (D := D) (ci := 6) (v := .ref fo) (C := "DiscMaker$PartsReader") (T := F_PartsReader) (N := 6) hx hb ht9 in_PartsReader hown hK hP 0 rfl rfl 1 (by decide) (ht9 _ k393) (fun _ h9 => h9) rfl d_PartsReader_takeOwnership_39 ?_
            refine lv_aload_n hx hb d_PartsReader_takeOwnership_42 rfl (lv_at hl 1 rfl) ?_
            refine va_get (D := D) (ci := 6) (v := .ref im) (C := "DiscMaker$PartsReader") (T := F_PartsReader) (N := 6) hx hb ht9 in_PartsReader hown hK hP 0 rfl rfl 0 (by decide) (ht9 _ k392) (fun _ h9 => h9) rfl d_PartsReader_takeOwnership_43 ?_
            refine lv_iload_n hx hb d_PartsReader_takeOwnership_46 rfl (lv_at hl 2 rfl) ?_
            refine lv_iconst (v := 4) hx hb d_PartsReader_takeOwnership_47 (by decide) ?_
            refine lv_iadd hx hb d_PartsReader_takeOwnership_48 ?_
            refine lv_topi (fun v13 e_v13 => ?_)
            have t_v13 : v13.toInt = x.toInt + 4 := by rw [e_v13]; exact i_add rfl (by decide) (by omega) (by omega)
            refine lv_iconst (v := 4) hx hb d_PartsReader_takeOwnership_49 (by decide) ?_
            have hPc := hP.sub (ws' := [(im, .inr (1, [.ref iq, .int L])), (iq, .inl (cB, n, .inl f))]) [2, 3] rfl
            have hDc := hD.sub (ws' := [(im, .inr (1, [.ref iq, .int L])), (iq, .inl (cB, n, .inl f))]) [2, 3] (by decide +kernel) rfl
            have hFc := va_free (wc := [(im, .inr (1, [.ref iq, .int L])), (iq, .inl (cB, n, .inl f))]) hD hS hA [2, 3] rfl
            have hkc : 0 ≤ 0 := by decide
            have hks : 0 ≤ 0 := by decide
            refine va_calli (va_runV (C := "DiscMaker$Bytes") (As := [.int v13, .int 4]) (rest := [.ref fo]) ⟨hx, hb, hml, hown, hts⟩ (c3_low4 l D cB cI cJ cZ cN cF H.size im iq n L f v13 (by (try dsimp only); first | assumption | omega | trivial) (by (try dsimp only); first | assumption | omega | trivial) (by (try dsimp only); first | assumption | omega | trivial)) (cwV 2 hts (lg_goodV k1337 k1190 k1191 k119 kc_Bytes_low) rfl rfl rfl (by decide +kernel) ⟨Nat.le_of_ble_eq_true rfl, Nat.le_of_ble_eq_true rfl⟩) ⟨fun a U g mk q => by obtain ⟨q0, q1, qP, qK, qN, qD⟩ := q; exact ⟨q0, q1, qP, va_K.moved (u := U) (U := U.calling g mk a) (Vm.Alike.refl U.vm) qK, qN.calling, qD⟩, va_recv hK hP (ci := 1) (q0 := 2) rfl rfl, fun U hU hW => ⟨rfl, by rw [hU], by rw [hU]; exact hPc, va_K.moved hW.alike hK, NN.warm hW hN, hDc.weaken (fun _ _ _ _ => trivial)⟩⟩ rfl rfl hl.1 rfl (lv_room (Nat.le_of_ble_eq_true rfl)) d_PartsReader_takeOwnership_50 ⟨hkc, hks⟩) hS (fun q _ h => hFc q h) hFc (fun r14 u t H1 locs ht hvm hp_r14 hB hz1 hk1 hS => ?_)
            obtain ⟨hP1, hD1⟩ := hB
            rw [ht] at hP1
            obtain ⟨hP, hD⟩ := va_join (wr := [(h0, .inr (6, [.ref im, .ref fo, .int nm, .int co, .int ta, .int lc])), (fo, .inr (2, [.ref a1, .ref a2, .int pa, .int de, .int so, .int si, .int se, .int mo, .int ow, .int gr, .int nl, .int tl, .int mk]))]) (w1 := [(im, .inr (1, [.ref iq, .int L])), (iq, .inl (cB, n, .inl f))]) hP hD [2, 3] [0, 1] rfl rfl (by decide +kernel) (by decide +kernel) hk1 hFc hP1 hD1
            clear hPc hDc hFc hP1 hD1 hk1 hz1 hkc hks
            generalize H1 = H at hP hS ⊢
            have hP : va_P D CL [(h0, .inr (6, [.ref im, .ref fo, .int nm, .int co, .int ta, .int lc])), (fo, .inr (2, [.ref a1, .ref a2, .int pa, .int de, .int so, .int si, .int se, .int mo, .int ow, .int gr, .int nl, .int tl, .int mk])), (im, .inr (1, [.ref iq, .int L])), (iq, .inl (cB, n, .inl f))] H := hP
            have hD : va_D A [(h0, .inr (6, [.ref im, .ref fo, .int nm, .int co, .int ta, .int lc])), (fo, .inr (2, [.ref a1, .ref a2, .int pa, .int de, .int so, .int si, .int se, .int mo, .int ow, .int gr, .int nl, .int tl, .int mk])), (im, .inr (1, [.ref iq, .int L])), (iq, .inl (cB, n, .inl f))] := hD
            try dsimp only at hp_r14
            have hv_15 := hp_r14
            refine va_putN (D := D) (ci := 2) (v := .int r14) (ty := .int) (C := "DiscMaker$Found") (T := F_Found) (N := 13) hx hb ht9 in_Found t_Found t_Found_ok n_Found hown hK hP hD hS 1 rfl rfl 7 (by decide) (va_Nw.use rfl (hN _ k1241)) (fun _ h9 => h9) rfl (by decide +kernel) rfl rfl (Nat.le_of_ble_eq_true rfl) d_PartsReader_takeOwnership_53 (fun H locs hP hD hS => ?_)
            have hP : va_P D CL [(h0, .inr (6, [.ref im, .ref fo, .int nm, .int co, .int ta, .int lc])), (fo, .inr (2, [.ref a1, .ref a2, .int pa, .int de, .int so, .int si, .int se, .int r14, .int ow, .int gr, .int nl, .int tl, .int mk])), (im, .inr (1, [.ref iq, .int L])), (iq, .inl (cB, n, .inl f))] H := hP
            have hD : va_D A [(h0, .inr (6, [.ref im, .ref fo, .int nm, .int co, .int ta, .int lc])), (fo, .inr (2, [.ref a1, .ref a2, .int pa, .int de, .int so, .int si, .int se, .int r14, .int ow, .int gr, .int nl, .int tl, .int mk])), (im, .inr (1, [.ref iq, .int L])), (iq, .inl (cB, n, .inl f))] := hD
            refine lv_aload_n hx hb d_PartsReader_takeOwnership_56 rfl (lv_at hl 1 rfl) ?_
            refine va_get (D := D) (ci := 6) (v := .ref fo) (C := "DiscMaker$PartsReader") (T := F_PartsReader) (N := 6) hx hb ht9 in_PartsReader hown hK hP 0 rfl rfl 1 (by decide) (ht9 _ k393) (fun _ h9 => h9) rfl d_PartsReader_takeOwnership_57 ?_
            refine lv_aload_n hx hb d_PartsReader_takeOwnership_60 rfl (lv_at hl 1 rfl) ?_
            refine va_get (D := D) (ci := 6) (v := .ref im) (C := "DiscMaker$PartsReader") (T := F_PartsReader) (N := 6) hx hb ht9 in_PartsReader hown hK hP 0 rfl rfl 0 (by decide) (ht9 _ k392) (fun _ h9 => h9) rfl d_PartsReader_takeOwnership_61 ?_
            refine lv_iload_n hx hb d_PartsReader_takeOwnership_64 rfl (lv_at hl 2 rfl) ?_
            refine lv_bipush (v := 20) hx hb d_PartsReader_takeOwnership_65 (by decide) ?_
            refine lv_iadd hx hb d_PartsReader_takeOwnership_67 ?_
            refine lv_topi (fun v16 e_v16 => ?_)
            have t_v16 : v16.toInt = x.toInt + 20 := by rw [e_v16]; exact i_add rfl (by decide) (by omega) (by omega)
            refine lv_iconst (v := 4) hx hb d_PartsReader_takeOwnership_68 (by decide) ?_
            have hPc := hP.sub (ws' := [(im, .inr (1, [.ref iq, .int L])), (iq, .inl (cB, n, .inl f))]) [2, 3] rfl
            have hDc := hD.sub (ws' := [(im, .inr (1, [.ref iq, .int L])), (iq, .inl (cB, n, .inl f))]) [2, 3] (by decide +kernel) rfl
            have hFc := va_free (wc := [(im, .inr (1, [.ref iq, .int L])), (iq, .inl (cB, n, .inl f))]) hD hS hA [2, 3] rfl
            have hkc : 0 ≤ 0 := by decide
            have hks : 0 ≤ 0 := by decide
            refine va_calli (va_runV (C := "DiscMaker$Bytes") (As := [.int v16, .int 4]) (rest := [.ref fo]) ⟨hx, hb, hml, hown, hts⟩ (c3_low4 l D cB cI cJ cZ cN cF H.size im iq n L f v16 (by (try dsimp only); first | assumption | omega | trivial) (by (try dsimp only); first | assumption | omega | trivial) (by (try dsimp only); first | assumption | omega | trivial)) (cwV 2 hts (lg_goodV k1337 k1190 k1191 k119 kc_Bytes_low) rfl rfl rfl (by decide +kernel) ⟨Nat.le_of_ble_eq_true rfl, Nat.le_of_ble_eq_true rfl⟩) ⟨fun a U g mk q => by obtain ⟨q0, q1, qP, qK, qN, qD⟩ := q; exact ⟨q0, q1, qP, va_K.moved (u := U) (U := U.calling g mk a) (Vm.Alike.refl U.vm) qK, qN.calling, qD⟩, va_recv hK hP (ci := 1) (q0 := 2) rfl rfl, fun U hU hW => ⟨rfl, by rw [hU], by rw [hU]; exact hPc, va_K.moved hW.alike hK, NN.warm hW hN, hDc.weaken (fun _ _ _ _ => trivial)⟩⟩ rfl rfl hl.1 rfl (lv_room (Nat.le_of_ble_eq_true rfl)) d_PartsReader_takeOwnership_69 ⟨hkc, hks⟩) hS (fun q _ h => hFc q h) hFc (fun r17 u t H1 locs ht hvm hp_r17 hB hz1 hk1 hS => ?_)
            obtain ⟨hP1, hD1⟩ := hB
            rw [ht] at hP1
            obtain ⟨hP, hD⟩ := va_join (wr := [(h0, .inr (6, [.ref im, .ref fo, .int nm, .int co, .int ta, .int lc])), (fo, .inr (2, [.ref a1, .ref a2, .int pa, .int de, .int so, .int si, .int se, .int r14, .int ow, .int gr, .int nl, .int tl, .int mk]))]) (w1 := [(im, .inr (1, [.ref iq, .int L])), (iq, .inl (cB, n, .inl f))]) hP hD [2, 3] [0, 1] rfl rfl (by decide +kernel) (by decide +kernel) hk1 hFc hP1 hD1
            clear hPc hDc hFc hP1 hD1 hk1 hz1 hkc hks
            generalize H1 = H at hP hS ⊢
            have hP : va_P D CL [(h0, .inr (6, [.ref im, .ref fo, .int nm, .int co, .int ta, .int lc])), (fo, .inr (2, [.ref a1, .ref a2, .int pa, .int de, .int so, .int si, .int se, .int r14, .int ow, .int gr, .int nl, .int tl, .int mk])), (im, .inr (1, [.ref iq, .int L])), (iq, .inl (cB, n, .inl f))] H := hP
            have hD : va_D A [(h0, .inr (6, [.ref im, .ref fo, .int nm, .int co, .int ta, .int lc])), (fo, .inr (2, [.ref a1, .ref a2, .int pa, .int de, .int so, .int si, .int se, .int r14, .int ow, .int gr, .int nl, .int tl, .int mk])), (im, .inr (1, [.ref iq, .int L])), (iq, .inl (cB, n, .inl f))] := hD
            try dsimp only at hp_r17
            have hv_18 := hp_r17
            refine va_putN (D := D) (ci := 2) (v := .int r17) (ty := .int) (C := "DiscMaker$Found") (T := F_Found) (N := 13) hx hb ht9 in_Found t_Found t_Found_ok n_Found hown hK hP hD hS 1 rfl rfl 8 (by decide) (va_Nw.use rfl (hN _ k1243)) (fun _ h9 => h9) rfl (by decide +kernel) rfl rfl (Nat.le_of_ble_eq_true rfl) d_PartsReader_takeOwnership_72 (fun H locs hP hD hS => ?_)
            have hP : va_P D CL [(h0, .inr (6, [.ref im, .ref fo, .int nm, .int co, .int ta, .int lc])), (fo, .inr (2, [.ref a1, .ref a2, .int pa, .int de, .int so, .int si, .int se, .int r14, .int r17, .int gr, .int nl, .int tl, .int mk])), (im, .inr (1, [.ref iq, .int L])), (iq, .inl (cB, n, .inl f))] H := hP
            have hD : va_D A [(h0, .inr (6, [.ref im, .ref fo, .int nm, .int co, .int ta, .int lc])), (fo, .inr (2, [.ref a1, .ref a2, .int pa, .int de, .int so, .int si, .int se, .int r14, .int r17, .int gr, .int nl, .int tl, .int mk])), (im, .inr (1, [.ref iq, .int L])), (iq, .inl (cB, n, .inl f))] := hD
            refine lv_aload_n hx hb d_PartsReader_takeOwnership_75 rfl (lv_at hl 1 rfl) ?_
            refine va_get (D := D) (ci := 6) (v := .ref fo) (C := "DiscMaker$PartsReader") (T := F_PartsReader) (N := 6) hx hb ht9 in_PartsReader hown hK hP 0 rfl rfl 1 (by decide) (ht9 _ k393) (fun _ h9 => h9) rfl d_PartsReader_takeOwnership_76 ?_
            refine lv_aload_n hx hb d_PartsReader_takeOwnership_79 rfl (lv_at hl 1 rfl) ?_
            refine va_get (D := D) (ci := 6) (v := .ref im) (C := "DiscMaker$PartsReader") (T := F_PartsReader) (N := 6) hx hb ht9 in_PartsReader hown hK hP 0 rfl rfl 0 (by decide) (ht9 _ k392) (fun _ h9 => h9) rfl d_PartsReader_takeOwnership_80 ?_
            refine lv_iload_n hx hb d_PartsReader_takeOwnership_83 rfl (lv_at hl 2 rfl) ?_
            refine lv_bipush (v := 28) hx hb d_PartsReader_takeOwnership_84 (by decide) ?_
            refine lv_iadd hx hb d_PartsReader_takeOwnership_86 ?_
            refine lv_topi (fun v19 e_v19 => ?_)
            have t_v19 : v19.toInt = x.toInt + 28 := by rw [e_v19]; exact i_add rfl (by decide) (by omega) (by omega)
            refine lv_iconst (v := 4) hx hb d_PartsReader_takeOwnership_87 (by decide) ?_
            have hPc := hP.sub (ws' := [(im, .inr (1, [.ref iq, .int L])), (iq, .inl (cB, n, .inl f))]) [2, 3] rfl
            have hDc := hD.sub (ws' := [(im, .inr (1, [.ref iq, .int L])), (iq, .inl (cB, n, .inl f))]) [2, 3] (by decide +kernel) rfl
            have hFc := va_free (wc := [(im, .inr (1, [.ref iq, .int L])), (iq, .inl (cB, n, .inl f))]) hD hS hA [2, 3] rfl
            have hkc : 0 ≤ 0 := by decide
            have hks : 0 ≤ 0 := by decide
            refine va_calli (va_runV (C := "DiscMaker$Bytes") (As := [.int v19, .int 4]) (rest := [.ref fo]) ⟨hx, hb, hml, hown, hts⟩ (c3_low4 l D cB cI cJ cZ cN cF H.size im iq n L f v19 (by (try dsimp only); first | assumption | omega | trivial) (by (try dsimp only); first | assumption | omega | trivial) (by (try dsimp only); first | assumption | omega | trivial)) (cwV 2 hts (lg_goodV k1337 k1190 k1191 k119 kc_Bytes_low) rfl rfl rfl (by decide +kernel) ⟨Nat.le_of_ble_eq_true rfl, Nat.le_of_ble_eq_true rfl⟩) ⟨fun a U g mk q => by obtain ⟨q0, q1, qP, qK, qN, qD⟩ := q; exact ⟨q0, q1, qP, va_K.moved (u := U) (U := U.calling g mk a) (Vm.Alike.refl U.vm) qK, qN.calling, qD⟩, va_recv hK hP (ci := 1) (q0 := 2) rfl rfl, fun U hU hW => ⟨rfl, by rw [hU], by rw [hU]; exact hPc, va_K.moved hW.alike hK, NN.warm hW hN, hDc.weaken (fun _ _ _ _ => trivial)⟩⟩ rfl rfl hl.1 rfl (lv_room (Nat.le_of_ble_eq_true rfl)) d_PartsReader_takeOwnership_88 ⟨hkc, hks⟩) hS (fun q _ h => hFc q h) hFc (fun r20 u t H1 locs ht hvm hp_r20 hB hz1 hk1 hS => ?_)
            obtain ⟨hP1, hD1⟩ := hB
            rw [ht] at hP1
            obtain ⟨hP, hD⟩ := va_join (wr := [(h0, .inr (6, [.ref im, .ref fo, .int nm, .int co, .int ta, .int lc])), (fo, .inr (2, [.ref a1, .ref a2, .int pa, .int de, .int so, .int si, .int se, .int r14, .int r17, .int gr, .int nl, .int tl, .int mk]))]) (w1 := [(im, .inr (1, [.ref iq, .int L])), (iq, .inl (cB, n, .inl f))]) hP hD [2, 3] [0, 1] rfl rfl (by decide +kernel) (by decide +kernel) hk1 hFc hP1 hD1
            clear hPc hDc hFc hP1 hD1 hk1 hz1 hkc hks
            generalize H1 = H at hP hS ⊢
            have hP : va_P D CL [(h0, .inr (6, [.ref im, .ref fo, .int nm, .int co, .int ta, .int lc])), (fo, .inr (2, [.ref a1, .ref a2, .int pa, .int de, .int so, .int si, .int se, .int r14, .int r17, .int gr, .int nl, .int tl, .int mk])), (im, .inr (1, [.ref iq, .int L])), (iq, .inl (cB, n, .inl f))] H := hP
            have hD : va_D A [(h0, .inr (6, [.ref im, .ref fo, .int nm, .int co, .int ta, .int lc])), (fo, .inr (2, [.ref a1, .ref a2, .int pa, .int de, .int so, .int si, .int se, .int r14, .int r17, .int gr, .int nl, .int tl, .int mk])), (im, .inr (1, [.ref iq, .int L])), (iq, .inl (cB, n, .inl f))] := hD
            try dsimp only at hp_r20
            have hv_21 := hp_r20
            refine va_putN (D := D) (ci := 2) (v := .int r20) (ty := .int) (C := "DiscMaker$Found") (T := F_Found) (N := 13) hx hb ht9 in_Found t_Found t_Found_ok n_Found hown hK hP hD hS 1 rfl rfl 9 (by decide) (va_Nw.use rfl (hN _ k1245)) (fun _ h9 => h9) rfl (by decide +kernel) rfl rfl (Nat.le_of_ble_eq_true rfl) d_PartsReader_takeOwnership_91 (fun H locs hP hD hS => ?_)
            have hP : va_P D CL [(h0, .inr (6, [.ref im, .ref fo, .int nm, .int co, .int ta, .int lc])), (fo, .inr (2, [.ref a1, .ref a2, .int pa, .int de, .int so, .int si, .int se, .int r14, .int r17, .int r20, .int nl, .int tl, .int mk])), (im, .inr (1, [.ref iq, .int L])), (iq, .inl (cB, n, .inl f))] H := hP
            have hD : va_D A [(h0, .inr (6, [.ref im, .ref fo, .int nm, .int co, .int ta, .int lc])), (fo, .inr (2, [.ref a1, .ref a2, .int pa, .int de, .int so, .int si, .int se, .int r14, .int r17, .int r20, .int nl, .int tl, .int mk])), (im, .inr (1, [.ref iq, .int L])), (iq, .inl (cB, n, .inl f))] := hD
            refine lv_iconst (v := 1) hx hb d_PartsReader_takeOwnership_94 (by decide) ?_
            have hP9 := hP.sub (ws' := [(h0, .inr (6, [.ref im, .ref fo, .int nm, .int co, .int ta, .int lc])), (im, .inr (1, [.ref iq, .int L])), (iq, .inl (cB, n, .inl f)), (fo, .inr (2, [.ref a1, .ref a2, .int pa, .int de, .int so, .int si, .int se, .int r14, .int r17, .int r20, .int nl, .int tl, .int mk]))]) [0, 2, 3, 1] rfl
            have hD9 := hD.sub (ws' := [(h0, .inr (6, [.ref im, .ref fo, .int nm, .int co, .int ta, .int lc])), (im, .inr (1, [.ref iq, .int L])), (iq, .inl (cB, n, .inl f)), (fo, .inr (2, [.ref a1, .ref a2, .int pa, .int de, .int so, .int si, .int se, .int r14, .int r17, .int r20, .int nl, .int tl, .int mk]))]) [0, 2, 3, 1] (by decide +kernel) rfl
            exact W.zret (v := 1) hx hb hr (by first | rfl | decide | exact i_narZ (by omega)) (fun t ht hW => ⟨⟨1, (r14, r17, r20), rfl, (by (try dsimp only); first | assumption | omega | trivial), by rw [ht]; exact hP9, hD9⟩, hS.F ht⟩) hS.2.2 d_PartsReader_takeOwnership_95
          · skip
            have g27_55 : r11.toInt = 0 := (i_eq rfl (by decide)).mp h_9
            refine lv_iconst (v := 0) hx hb d_PartsReader_takeOwnership_30 (by decide) ?_
            have hP9 := hP.sub (ws' := [(h0, .inr (6, [.ref im, .ref fo, .int nm, .int co, .int ta, .int lc])), (im, .inr (1, [.ref iq, .int L])), (iq, .inl (cB, n, .inl f)), (fo, .inr (2, [.ref a1, .ref a2, .int pa, .int de, .int so, .int si, .int se, .int mo, .int ow, .int gr, .int nl, .int tl, .int mk]))]) [0, 2, 3, 1] rfl
            have hD9 := hD.sub (ws' := [(h0, .inr (6, [.ref im, .ref fo, .int nm, .int co, .int ta, .int lc])), (im, .inr (1, [.ref iq, .int L])), (iq, .inl (cB, n, .inl f)), (fo, .inr (2, [.ref a1, .ref a2, .int pa, .int de, .int so, .int si, .int se, .int mo, .int ow, .int gr, .int nl, .int tl, .int mk]))]) [0, 2, 3, 1] (by decide +kernel) rfl
            exact W.zret (v := 0) hx hb hr (by first | rfl | decide | exact i_narZ (by omega)) (fun t ht hW => ⟨⟨0, (mo, ow, gr), rfl, (by (try dsimp only); first | assumption | omega | trivial), by rw [ht]; exact hP9, hD9⟩, hS.F ht⟩) hS.2.2 d_PartsReader_takeOwnership_31
        · skip
          have g27_42 : r8.toInt = 0 := (i_eq rfl (by decide)).mp h_9
          refine lv_iconst (v := 0) hx hb d_PartsReader_takeOwnership_30 (by decide) ?_
          have hP9 := hP.sub (ws' := [(h0, .inr (6, [.ref im, .ref fo, .int nm, .int co, .int ta, .int lc])), (im, .inr (1, [.ref iq, .int L])), (iq, .inl (cB, n, .inl f)), (fo, .inr (2, [.ref a1, .ref a2, .int pa, .int de, .int so, .int si, .int se, .int mo, .int ow, .int gr, .int nl, .int tl, .int mk]))]) [0, 2, 3, 1] rfl
          have hD9 := hD.sub (ws' := [(h0, .inr (6, [.ref im, .ref fo, .int nm, .int co, .int ta, .int lc])), (im, .inr (1, [.ref iq, .int L])), (iq, .inl (cB, n, .inl f)), (fo, .inr (2, [.ref a1, .ref a2, .int pa, .int de, .int so, .int si, .int se, .int mo, .int ow, .int gr, .int nl, .int tl, .int mk]))]) [0, 2, 3, 1] (by decide +kernel) rfl
          exact W.zret (v := 0) hx hb hr (by first | rfl | decide | exact i_narZ (by omega)) (fun t ht hW => ⟨⟨0, (mo, ow, gr), rfl, (by (try dsimp only); first | assumption | omega | trivial), by rw [ht]; exact hP9, hD9⟩, hS.F ht⟩) hS.2.2 d_PartsReader_takeOwnership_31
      · skip
        have g27_29 : r5.toInt = 0 := (i_eq rfl (by decide)).mp h_9
        refine lv_iconst (v := 0) hx hb d_PartsReader_takeOwnership_30 (by decide) ?_
        have hP9 := hP.sub (ws' := [(h0, .inr (6, [.ref im, .ref fo, .int nm, .int co, .int ta, .int lc])), (im, .inr (1, [.ref iq, .int L])), (iq, .inl (cB, n, .inl f)), (fo, .inr (2, [.ref a1, .ref a2, .int pa, .int de, .int so, .int si, .int se, .int mo, .int ow, .int gr, .int nl, .int tl, .int mk]))]) [0, 2, 3, 1] rfl
        have hD9 := hD.sub (ws' := [(h0, .inr (6, [.ref im, .ref fo, .int nm, .int co, .int ta, .int lc])), (im, .inr (1, [.ref iq, .int L])), (iq, .inl (cB, n, .inl f)), (fo, .inr (2, [.ref a1, .ref a2, .int pa, .int de, .int so, .int si, .int se, .int mo, .int ow, .int gr, .int nl, .int tl, .int mk]))]) [0, 2, 3, 1] (by decide +kernel) rfl
        exact W.zret (v := 0) hx hb hr (by first | rfl | decide | exact i_narZ (by omega)) (fun t ht hW => ⟨⟨0, (mo, ow, gr), rfl, (by (try dsimp only); first | assumption | omega | trivial), by rw [ht]; exact hP9, hD9⟩, hS.F ht⟩) hS.2.2 d_PartsReader_takeOwnership_31
    · skip
      have g27_16 : r2.toInt = 0 := (i_eq rfl (by decide)).mp h_9
      refine lv_iconst (v := 0) hx hb d_PartsReader_takeOwnership_30 (by decide) ?_
      have hP9 := hP.sub (ws' := [(h0, .inr (6, [.ref im, .ref fo, .int nm, .int co, .int ta, .int lc])), (im, .inr (1, [.ref iq, .int L])), (iq, .inl (cB, n, .inl f)), (fo, .inr (2, [.ref a1, .ref a2, .int pa, .int de, .int so, .int si, .int se, .int mo, .int ow, .int gr, .int nl, .int tl, .int mk]))]) [0, 2, 3, 1] rfl
      have hD9 := hD.sub (ws' := [(h0, .inr (6, [.ref im, .ref fo, .int nm, .int co, .int ta, .int lc])), (im, .inr (1, [.ref iq, .int L])), (iq, .inl (cB, n, .inl f)), (fo, .inr (2, [.ref a1, .ref a2, .int pa, .int de, .int so, .int si, .int se, .int mo, .int ow, .int gr, .int nl, .int tl, .int mk]))]) [0, 2, 3, 1] (by decide +kernel) rfl
      exact W.zret (v := 0) hx hb hr (by first | rfl | decide | exact i_narZ (by omega)) (fun t ht hW => ⟨⟨0, (mo, ow, gr), rfl, (by (try dsimp only); first | assumption | omega | trivial), by rw [ht]; exact hP9, hD9⟩, hS.F ht⟩) hS.2.2 d_PartsReader_takeOwnership_31
  · skip
    have g3_3 : ¬ y.toInt = 36 := fun h8 => h_9 ((i_eq rfl (by decide)).mpr h8)
    refine lv_iconst (v := 0) hx hb d_PartsReader_takeOwnership_6 (by decide) ?_
    have hP9 := hP.sub (ws' := [(h0, .inr (6, [.ref im, .ref fo, .int nm, .int co, .int ta, .int lc])), (im, .inr (1, [.ref iq, .int L])), (iq, .inl (cB, n, .inl f)), (fo, .inr (2, [.ref a1, .ref a2, .int pa, .int de, .int so, .int si, .int se, .int mo, .int ow, .int gr, .int nl, .int tl, .int mk]))]) [0, 1, 2, 3] rfl
    have hD9 := hD.sub (ws' := [(h0, .inr (6, [.ref im, .ref fo, .int nm, .int co, .int ta, .int lc])), (im, .inr (1, [.ref iq, .int L])), (iq, .inl (cB, n, .inl f)), (fo, .inr (2, [.ref a1, .ref a2, .int pa, .int de, .int so, .int si, .int se, .int mo, .int ow, .int gr, .int nl, .int tl, .int mk]))]) [0, 1, 2, 3] (by decide +kernel) rfl
    exact W.zret (v := 0) hx hb hr (by first | rfl | decide | exact i_narZ (by omega)) (fun t ht hW => ⟨⟨0, (mo, ow, gr), rfl, (by (try dsimp only); first | assumption | omega | trivial), by rw [ht]; exact hP9, hD9⟩, hS.F ht⟩) hS.2.2 d_PartsReader_takeOwnership_7

theorem d_PartsReader_takeTarget_0 : decode b_PartsReader_takeTarget 0 = .ok (.iload_n 2, 1) := by decide +kernel
theorem d_PartsReader_takeTarget_1 : decode b_PartsReader_takeTarget 1 = .ok (.iconst 5, 1) := by decide +kernel
theorem d_PartsReader_takeTarget_2 : decode b_PartsReader_takeTarget 2 = .ok (.if_icmp .lt 16, 3) := by decide +kernel
theorem d_PartsReader_takeTarget_5 : decode b_PartsReader_takeTarget 5 = .ok (.aload_n 0, 1) := by decide +kernel
theorem d_PartsReader_takeTarget_6 : decode b_PartsReader_takeTarget 6 = .ok (.getfield 9, 3) := by decide +kernel
theorem d_PartsReader_takeTarget_9 : decode b_PartsReader_takeTarget 9 = .ok (.iload_n 1, 1) := by decide +kernel
theorem d_PartsReader_takeTarget_10 : decode b_PartsReader_takeTarget 10 = .ok (.iconst 4, 1) := by decide +kernel
theorem d_PartsReader_takeTarget_11 : decode b_PartsReader_takeTarget 11 = .ok (.iadd, 1) := by decide +kernel
theorem d_PartsReader_takeTarget_12 : decode b_PartsReader_takeTarget 12 = .ok (.invokevirtual 33, 3) := by decide +kernel
theorem d_PartsReader_takeTarget_15 : decode b_PartsReader_takeTarget 15 = .ok (.ifCond .eq 5, 3) := by decide +kernel
theorem d_PartsReader_takeTarget_18 : decode b_PartsReader_takeTarget 18 = .ok (.iconst 0, 1) := by decide +kernel
theorem d_PartsReader_takeTarget_19 : decode b_PartsReader_takeTarget 19 = .ok (.ireturn, 1) := by decide +kernel
theorem d_PartsReader_takeTarget_20 : decode b_PartsReader_takeTarget 20 = .ok (.iload_n 1, 1) := by decide +kernel
theorem d_PartsReader_takeTarget_21 : decode b_PartsReader_takeTarget 21 = .ok (.iload_n 2, 1) := by decide +kernel
theorem d_PartsReader_takeTarget_22 : decode b_PartsReader_takeTarget 22 = .ok (.iadd, 1) := by decide +kernel
theorem d_PartsReader_takeTarget_23 : decode b_PartsReader_takeTarget 23 = .ok (.istore_n 3, 1) := by decide +kernel
theorem d_PartsReader_takeTarget_24 : decode b_PartsReader_takeTarget 24 = .ok (.iload_n 1, 1) := by decide +kernel
theorem d_PartsReader_takeTarget_25 : decode b_PartsReader_takeTarget 25 = .ok (.iconst 5, 1) := by decide +kernel
theorem d_PartsReader_takeTarget_26 : decode b_PartsReader_takeTarget 26 = .ok (.iadd, 1) := by decide +kernel
theorem d_PartsReader_takeTarget_27 : decode b_PartsReader_takeTarget 27 = .ok (.istore 4, 2) := by decide +kernel
theorem d_PartsReader_takeTarget_29 : decode b_PartsReader_takeTarget 29 = .ok (.iload 4, 2) := by decide +kernel
theorem d_PartsReader_takeTarget_31 : decode b_PartsReader_takeTarget 31 = .ok (.iload_n 3, 1) := by decide +kernel
theorem d_PartsReader_takeTarget_32 : decode b_PartsReader_takeTarget 32 = .ok (.if_icmp .ge 175, 3) := by decide +kernel
theorem d_PartsReader_takeTarget_35 : decode b_PartsReader_takeTarget 35 = .ok (.aload_n 0, 1) := by decide +kernel
theorem d_PartsReader_takeTarget_36 : decode b_PartsReader_takeTarget 36 = .ok (.getfield 9, 3) := by decide +kernel
theorem d_PartsReader_takeTarget_39 : decode b_PartsReader_takeTarget 39 = .ok (.iload 4, 2) := by decide +kernel
theorem d_PartsReader_takeTarget_41 : decode b_PartsReader_takeTarget 41 = .ok (.invokevirtual 33, 3) := by decide +kernel
theorem d_PartsReader_takeTarget_44 : decode b_PartsReader_takeTarget 44 = .ok (.istore 5, 2) := by decide +kernel
theorem d_PartsReader_takeTarget_46 : decode b_PartsReader_takeTarget 46 = .ok (.aload_n 0, 1) := by decide +kernel
theorem d_PartsReader_takeTarget_47 : decode b_PartsReader_takeTarget 47 = .ok (.getfield 9, 3) := by decide +kernel
theorem d_PartsReader_takeTarget_50 : decode b_PartsReader_takeTarget 50 = .ok (.iload 4, 2) := by decide +kernel
theorem d_PartsReader_takeTarget_52 : decode b_PartsReader_takeTarget 52 = .ok (.iconst 1, 1) := by decide +kernel
theorem d_PartsReader_takeTarget_53 : decode b_PartsReader_takeTarget 53 = .ok (.iadd, 1) := by decide +kernel
theorem d_PartsReader_takeTarget_54 : decode b_PartsReader_takeTarget 54 = .ok (.invokevirtual 33, 3) := by decide +kernel
theorem d_PartsReader_takeTarget_57 : decode b_PartsReader_takeTarget 57 = .ok (.istore 6, 2) := by decide +kernel
theorem d_PartsReader_takeTarget_59 : decode b_PartsReader_takeTarget 59 = .ok (.iload 4, 2) := by decide +kernel
theorem d_PartsReader_takeTarget_61 : decode b_PartsReader_takeTarget 61 = .ok (.iconst 2, 1) := by decide +kernel
theorem d_PartsReader_takeTarget_62 : decode b_PartsReader_takeTarget 62 = .ok (.iadd, 1) := by decide +kernel
theorem d_PartsReader_takeTarget_63 : decode b_PartsReader_takeTarget 63 = .ok (.iload 6, 2) := by decide +kernel
theorem d_PartsReader_takeTarget_65 : decode b_PartsReader_takeTarget 65 = .ok (.iadd, 1) := by decide +kernel
theorem d_PartsReader_takeTarget_66 : decode b_PartsReader_takeTarget 66 = .ok (.iload_n 3, 1) := by decide +kernel
theorem d_PartsReader_takeTarget_67 : decode b_PartsReader_takeTarget 67 = .ok (.if_icmp .gt 13, 3) := by decide +kernel
theorem d_PartsReader_takeTarget_70 : decode b_PartsReader_takeTarget 70 = .ok (.iload 5, 2) := by decide +kernel
theorem d_PartsReader_takeTarget_72 : decode b_PartsReader_takeTarget 72 = .ok (.iload 6, 2) := by decide +kernel
theorem d_PartsReader_takeTarget_74 : decode b_PartsReader_takeTarget 74 = .ok (.invokestatic 89, 3) := by decide +kernel
theorem d_PartsReader_takeTarget_77 : decode b_PartsReader_takeTarget 77 = .ok (.ifCond .ne 5, 3) := by decide +kernel
theorem d_PartsReader_takeTarget_80 : decode b_PartsReader_takeTarget 80 = .ok (.iconst 0, 1) := by decide +kernel
theorem d_PartsReader_takeTarget_81 : decode b_PartsReader_takeTarget 81 = .ok (.ireturn, 1) := by decide +kernel
theorem d_PartsReader_takeTarget_82 : decode b_PartsReader_takeTarget 82 = .ok (.aload_n 0, 1) := by decide +kernel
theorem d_PartsReader_takeTarget_83 : decode b_PartsReader_takeTarget 83 = .ok (.aload_n 0, 1) := by decide +kernel
theorem d_PartsReader_takeTarget_84 : decode b_PartsReader_takeTarget 84 = .ok (.getfield 23, 3) := by decide +kernel
theorem d_PartsReader_takeTarget_87 : decode b_PartsReader_takeTarget 87 = .ok (.ifCond .ne 14, 3) := by decide +kernel
theorem d_PartsReader_takeTarget_90 : decode b_PartsReader_takeTarget 90 = .ok (.iload 5, 2) := by decide +kernel
theorem d_PartsReader_takeTarget_92 : decode b_PartsReader_takeTarget 92 = .ok (.bipush 8, 2) := by decide +kernel
theorem d_PartsReader_takeTarget_94 : decode b_PartsReader_takeTarget 94 = .ok (.if_icmp .ne 7, 3) := by decide +kernel
theorem d_PartsReader_takeTarget_97 : decode b_PartsReader_takeTarget 97 = .ok (.iconst 1, 1) := by decide +kernel
theorem d_PartsReader_takeTarget_98 : decode b_PartsReader_takeTarget 98 = .ok (.goto 4, 3) := by decide +kernel
theorem d_PartsReader_takeTarget_101 : decode b_PartsReader_takeTarget 101 = .ok (.iconst 0, 1) := by decide +kernel
theorem d_PartsReader_takeTarget_102 : decode b_PartsReader_takeTarget 102 = .ok (.putfield 27, 3) := by decide +kernel
theorem d_PartsReader_takeTarget_105 : decode b_PartsReader_takeTarget 105 = .ok (.aload_n 0, 1) := by decide +kernel
theorem d_PartsReader_takeTarget_106 : decode b_PartsReader_takeTarget 106 = .ok (.getfield 23, 3) := by decide +kernel
theorem d_PartsReader_takeTarget_109 : decode b_PartsReader_takeTarget 109 = .ok (.ifCond .le 12, 3) := by decide +kernel
theorem d_PartsReader_takeTarget_112 : decode b_PartsReader_takeTarget 112 = .ok (.aload_n 0, 1) := by decide +kernel
theorem d_PartsReader_takeTarget_113 : decode b_PartsReader_takeTarget 113 = .ok (.getfield 15, 3) := by decide +kernel
theorem d_PartsReader_takeTarget_116 : decode b_PartsReader_takeTarget 116 = .ok (.bipush 47, 2) := by decide +kernel
theorem d_PartsReader_takeTarget_118 : decode b_PartsReader_takeTarget 118 = .ok (.invokevirtual 47, 3) := by decide +kernel
theorem d_PartsReader_takeTarget_121 : decode b_PartsReader_takeTarget 121 = .ok (.iload 5, 2) := by decide +kernel
theorem d_PartsReader_takeTarget_123 : decode b_PartsReader_takeTarget 123 = .ok (.invokestatic 92, 3) := by decide +kernel
theorem d_PartsReader_takeTarget_126 : decode b_PartsReader_takeTarget 126 = .ok (.istore 7, 2) := by decide +kernel
theorem d_PartsReader_takeTarget_128 : decode b_PartsReader_takeTarget 128 = .ok (.iload 7, 2) := by decide +kernel
theorem d_PartsReader_takeTarget_130 : decode b_PartsReader_takeTarget 130 = .ok (.ifCond .le 18, 3) := by decide +kernel
theorem d_PartsReader_takeTarget_133 : decode b_PartsReader_takeTarget 133 = .ok (.aload_n 0, 1) := by decide +kernel
theorem d_PartsReader_takeTarget_134 : decode b_PartsReader_takeTarget 134 = .ok (.getfield 15, 3) := by decide +kernel
theorem d_PartsReader_takeTarget_137 : decode b_PartsReader_takeTarget 137 = .ok (.bipush 46, 2) := by decide +kernel
theorem d_PartsReader_takeTarget_139 : decode b_PartsReader_takeTarget 139 = .ok (.invokevirtual 47, 3) := by decide +kernel
theorem d_PartsReader_takeTarget_142 : decode b_PartsReader_takeTarget 142 = .ok (.iinc 7 (-1), 3) := by decide +kernel
theorem d_PartsReader_takeTarget_145 : decode b_PartsReader_takeTarget 145 = .ok (.goto (-17), 3) := by decide +kernel
theorem d_PartsReader_takeTarget_148 : decode b_PartsReader_takeTarget 148 = .ok (.iconst 0, 1) := by decide +kernel
theorem d_PartsReader_takeTarget_149 : decode b_PartsReader_takeTarget 149 = .ok (.istore 7, 2) := by decide +kernel
theorem d_PartsReader_takeTarget_151 : decode b_PartsReader_takeTarget 151 = .ok (.iload 7, 2) := by decide +kernel
theorem d_PartsReader_takeTarget_153 : decode b_PartsReader_takeTarget 153 = .ok (.iload 6, 2) := by decide +kernel
theorem d_PartsReader_takeTarget_155 : decode b_PartsReader_takeTarget 155 = .ok (.if_icmp .ge 30, 3) := by decide +kernel
theorem d_PartsReader_takeTarget_158 : decode b_PartsReader_takeTarget 158 = .ok (.aload_n 0, 1) := by decide +kernel
theorem d_PartsReader_takeTarget_159 : decode b_PartsReader_takeTarget 159 = .ok (.getfield 15, 3) := by decide +kernel
theorem d_PartsReader_takeTarget_162 : decode b_PartsReader_takeTarget 162 = .ok (.aload_n 0, 1) := by decide +kernel
theorem d_PartsReader_takeTarget_163 : decode b_PartsReader_takeTarget 163 = .ok (.getfield 9, 3) := by decide +kernel
theorem d_PartsReader_takeTarget_166 : decode b_PartsReader_takeTarget 166 = .ok (.iload 4, 2) := by decide +kernel
theorem d_PartsReader_takeTarget_168 : decode b_PartsReader_takeTarget 168 = .ok (.iconst 2, 1) := by decide +kernel
theorem d_PartsReader_takeTarget_169 : decode b_PartsReader_takeTarget 169 = .ok (.iadd, 1) := by decide +kernel
theorem d_PartsReader_takeTarget_170 : decode b_PartsReader_takeTarget 170 = .ok (.iload 7, 2) := by decide +kernel
theorem d_PartsReader_takeTarget_172 : decode b_PartsReader_takeTarget 172 = .ok (.iadd, 1) := by decide +kernel
theorem d_PartsReader_takeTarget_173 : decode b_PartsReader_takeTarget 173 = .ok (.invokevirtual 33, 3) := by decide +kernel
theorem d_PartsReader_takeTarget_176 : decode b_PartsReader_takeTarget 176 = .ok (.invokevirtual 47, 3) := by decide +kernel
theorem d_PartsReader_takeTarget_179 : decode b_PartsReader_takeTarget 179 = .ok (.iinc 7 1, 3) := by decide +kernel
theorem d_PartsReader_takeTarget_182 : decode b_PartsReader_takeTarget 182 = .ok (.goto (-31), 3) := by decide +kernel
theorem d_PartsReader_takeTarget_185 : decode b_PartsReader_takeTarget 185 = .ok (.aload_n 0, 1) := by decide +kernel
theorem d_PartsReader_takeTarget_186 : decode b_PartsReader_takeTarget 186 = .ok (.dup, 1) := by decide +kernel
theorem d_PartsReader_takeTarget_187 : decode b_PartsReader_takeTarget 187 = .ok (.getfield 23, 3) := by decide +kernel
theorem d_PartsReader_takeTarget_190 : decode b_PartsReader_takeTarget 190 = .ok (.iconst 1, 1) := by decide +kernel
theorem d_PartsReader_takeTarget_191 : decode b_PartsReader_takeTarget 191 = .ok (.iadd, 1) := by decide +kernel
theorem d_PartsReader_takeTarget_192 : decode b_PartsReader_takeTarget 192 = .ok (.putfield 23, 3) := by decide +kernel
theorem d_PartsReader_takeTarget_195 : decode b_PartsReader_takeTarget 195 = .ok (.iload 4, 2) := by decide +kernel
theorem d_PartsReader_takeTarget_197 : decode b_PartsReader_takeTarget 197 = .ok (.iconst 2, 1) := by decide +kernel
theorem d_PartsReader_takeTarget_198 : decode b_PartsReader_takeTarget 198 = .ok (.iload 6, 2) := by decide +kernel
theorem d_PartsReader_takeTarget_200 : decode b_PartsReader_takeTarget 200 = .ok (.iadd, 1) := by decide +kernel
theorem d_PartsReader_takeTarget_201 : decode b_PartsReader_takeTarget 201 = .ok (.iadd, 1) := by decide +kernel
theorem d_PartsReader_takeTarget_202 : decode b_PartsReader_takeTarget 202 = .ok (.istore 4, 2) := by decide +kernel
theorem d_PartsReader_takeTarget_204 : decode b_PartsReader_takeTarget 204 = .ok (.goto (-175), 3) := by decide +kernel
theorem d_PartsReader_takeTarget_207 : decode b_PartsReader_takeTarget 207 = .ok (.aload_n 0, 1) := by decide +kernel
theorem d_PartsReader_takeTarget_208 : decode b_PartsReader_takeTarget 208 = .ok (.getfield 15, 3) := by decide +kernel
theorem d_PartsReader_takeTarget_211 : decode b_PartsReader_takeTarget 211 = .ok (.invokevirtual 95, 3) := by decide +kernel
theorem d_PartsReader_takeTarget_214 : decode b_PartsReader_takeTarget 214 = .ok (.ifCond .ne 7, 3) := by decide +kernel
theorem d_PartsReader_takeTarget_217 : decode b_PartsReader_takeTarget 217 = .ok (.iconst 1, 1) := by decide +kernel
theorem d_PartsReader_takeTarget_218 : decode b_PartsReader_takeTarget 218 = .ok (.goto 4, 3) := by decide +kernel
theorem d_PartsReader_takeTarget_221 : decode b_PartsReader_takeTarget 221 = .ok (.iconst 0, 1) := by decide +kernel
theorem d_PartsReader_takeTarget_222 : decode b_PartsReader_takeTarget 222 = .ok (.ireturn, 1) := by decide +kernel
set_option maxHeartbeats 4000000 in
set_option maxRecDepth 100000 in
theorem c3_takeTarget (l : Launch) (D : va_G) (cB cI cJ cZ cN cF : ClassId) (sz : Nat) (h0 : Nat) (fo : Nat) (im : Nat) (iq : Nat) (n : Nat) (L : Int32) (f : Nat → Int32) (nm : Int32) (co : Int32) (ta : Int32) (lc : Int32) (a1 : Nat) (a2 : Nat) (pa : Int32) (de : Int32) (so : Int32) (si : Int32) (se : Int32) (mo : Int32) (ow : Int32) (gr : Int32) (nl : Int32) (tl : Int32) (mk : Int32) (f2 : Nat → Int32) (x : Int32) (y : Int32) (hL : 0 ≤ L.toInt ∧ L.toInt ≤ n) (hn : n ≤ 3000000) (hx : 0 ≤ x.toInt ∧ x.toInt ≤ 4000000) (hy : 4 ≤ y.toInt ∧ y.toInt ≤ 255) (hc0 : co.toInt = 0 → tl.toInt = 0) (ht0 : ta.toInt ≠ 0 → tl.toInt = 0) (hta : 0 ≤ ta.toInt ∧ ta.toInt ≤ 1) (htl : 0 ≤ tl.toInt ∧ tl.toInt ≤ 400) (hco : 0 ≤ co.toInt ∧ co.toInt ≤ 1000000000) : Met l y_PartsReader_takeTarget w_PartsReader_takeTarget ({ frames := 1, cells := 0, slots := 0, locals := 27 }) (va_Pc [.ref h0, .int x, .int y] (fun U => U.heap.size = sz ∧ va_P D CL [(h0, .inr (6, [.ref im, .ref fo, .int nm, .int co, .int ta, .int lc])), (im, .inr (1, [.ref iq, .int L])), (iq, .inl (cB, n, .inl f)), (fo, .inr (2, [.ref a1, .ref a2, .int pa, .int de, .int so, .int si, .int se, .int mo, .int ow, .int gr, .int nl, .int tl, .int mk])), (a2, .inl (cB, 400, .inl f2))] U.heap ∧ va_K D CL (TY cB cI cJ cZ cN cF) U ∧ NN U ∧ va_D (fun _ => True) [(h0, .inr (6, [.ref im, .ref fo, .int nm, .int co, .int ta, .int lc])), (im, .inr (1, [.ref iq, .int L])), (iq, .inl (cB, n, .inl f)), (fo, .inr (2, [.ref a1, .ref a2, .int pa, .int de, .int so, .int si, .int se, .int mo, .int ow, .int gr, .int nl, .int tl, .int mk])), (a2, .inl (cB, 400, .inl f2))])) (va_Qi (fun (r : Int32) (u : Int32 × Int32 × Int32 × (Nat → Int32)) => match u with | (co2, ta2, tl2, g) => (0 ≤ r.toInt ∧ r.toInt ≤ 1) ∧ (r.toInt ≠ 0 → (co2.toInt = 0 → tl2.toInt = 0)) ∧ (r.toInt ≠ 0 → (ta2.toInt ≠ 0 → tl2.toInt = 0)) ∧ (r.toInt ≠ 0 → (0 ≤ ta2.toInt ∧ ta2.toInt ≤ 1)) ∧ (r.toInt ≠ 0 → (0 ≤ tl2.toInt ∧ tl2.toInt ≤ 400)) ∧ (r.toInt ≠ 0 → (0 ≤ co2.toInt ∧ co2.toInt ≤ co.toInt + y.toInt))) (fun (u : Int32 × Int32 × Int32 × (Nat → Int32)) (t : State) => match u with | (co2, ta2, tl2, g) => va_P D CL [(h0, .inr (6, [.ref im, .ref fo, .int nm, .int co2, .int ta2, .int lc])), (im, .inr (1, [.ref iq, .int L])), (iq, .inl (cB, n, .inl f)), (fo, .inr (2, [.ref a1, .ref a2, .int pa, .int de, .int so, .int si, .int se, .int mo, .int ow, .int gr, .int nl, .int tl2, .int mk])), (a2, .inl (cB, 400, .inl g))] t.heap ∧ va_D (va_A [(h0, .inr (6, [.ref im, .ref fo, .int nm, .int co, .int ta, .int lc])), (im, .inr (1, [.ref iq, .int L])), (iq, .inl (cB, n, .inl f)), (fo, .inr (2, [.ref a1, .ref a2, .int pa, .int de, .int so, .int si, .int se, .int mo, .int ow, .int gr, .int nl, .int tl, .int mk])), (a2, .inl (cB, 400, .inl f2))] sz) [(h0, .inr (6, [.ref im, .ref fo, .int nm, .int co2, .int ta2, .int lc])), (im, .inr (1, [.ref iq, .int L])), (iq, .inl (cB, n, .inl f)), (fo, .inr (2, [.ref a1, .ref a2, .int pa, .int de, .int so, .int si, .int se, .int mo, .int ow, .int gr, .int nl, .int tl2, .int mk])), (a2, .inl (cB, 400, .inl g))]) (va_A [(h0, .inr (6, [.ref im, .ref fo, .int nm, .int co, .int ta, .int lc])), (im, .inr (1, [.ref iq, .int L])), (iq, .inl (cB, n, .inl f)), (fo, .inr (2, [.ref a1, .ref a2, .int pa, .int de, .int so, .int si, .int se, .int mo, .int ow, .int gr, .int nl, .int tl, .int mk])), (a2, .inl (cB, 400, .inl f2))] sz)) 0 0 (va_A [(h0, .inr (6, [.ref im, .ref fo, .int nm, .int co, .int ta, .int lc])), (im, .inr (1, [.ref iq, .int L])), (iq, .inl (cB, n, .inl f)), (fo, .inr (2, [.ref a1, .ref a2, .int pa, .int de, .int so, .int si, .int se, .int mo, .int ow, .int gr, .int nl, .int tl, .int mk])), (a2, .inl (cB, 400, .inl f2))] sz) := by
  refine Met.ofW (cc := b_PartsReader_takeTarget) (maxL := 8) (ret := some .boolean) (by decide +kernel) rfl ?_
  intro p e s m args below meth c s₁ B hml hv
  obtain ⟨rfl, hsz, hP, hK, hN, hD0⟩ := hv
  have hx := B.exec
  have hb := B.bytes
  have hr := B.returns
  have hts := atoms_spec (ws := w_PartsReader_takeTarget) B.pre
  have ht9 := fun (w : Cond) (h : w ∈ lw_g) => hts w (List.mem_cons_of_mem _ h)
  have hown : s.vm.findClass "DiscMaker$PartsReader" = some m.cls := findClass_of_methodNamed B.named
  have hlocks := B.notSynchronized
  subst hsz
  have hD := hD0.self (sz := s.heap.size)
  generalize hAe : va_A [(h0, .inr (6, [.ref im, .ref fo, .int nm, .int co, .int ta, .int lc])), (im, .inr (1, [.ref iq, .int L])), (iq, .inl (cB, n, .inl f)), (fo, .inr (2, [.ref a1, .ref a2, .int pa, .int de, .int so, .int si, .int se, .int mo, .int ow, .int gr, .int nl, .int tl, .int mk])), (a2, .inl (cB, 400, .inl f2))] s.heap.size = A at hD ⊢
  have hA : ∀ q : Nat, s.heap.size ≤ q → A q := fun q h => by rw [← hAe]; exact Or.inr h
  have hS : va_S A s.heap s.heap [] := va_S.rf
  have hP : va_P D CL [(h0, .inr (6, [.ref im, .ref fo, .int nm, .int co, .int ta, .int lc])), (im, .inr (1, [.ref iq, .int L])), (iq, .inl (cB, n, .inl f)), (fo, .inr (2, [.ref a1, .ref a2, .int pa, .int de, .int so, .int si, .int se, .int mo, .int ow, .int gr, .int nl, .int tl, .int mk])), (a2, .inl (cB, 400, .inl f2))] s.heap := hP
  have hl := lv_entry [.ref h0, .int x, .int y] (n := 8) (Nat.le_of_ble_eq_true rfl)
  rw [lg_entry_eq]
  generalize (lg_sl [.ref h0, .int x, .int y] ++ List.replicate (8 - (lg_sl [.ref h0, .int x, .int y]).length) Slot.unset).toArray = ls at hl ⊢
  have hl : lv_has ls 8 [(0, .ref h0), (1, .int x), (2, .int y)] := hl
  have L_m1 : ((-1) : Int32).toInt = (-1) := by decide
  have L_0 : (0 : Int32).toInt = 0 := by decide
  have L_1 : (1 : Int32).toInt = 1 := by decide
  have L_2 : (2 : Int32).toInt = 2 := by decide
  have L_4 : (4 : Int32).toInt = 4 := by decide
  have L_5 : (5 : Int32).toInt = 5 := by decide
  have L_8 : (8 : Int32).toInt = 8 := by decide
  have L_46 : (46 : Int32).toInt = 46 := by decide
  have L_47 : (47 : Int32).toInt = 47 := by decide
  refine lv_iload_n hx hb d_PartsReader_takeTarget_0 rfl (lv_at hl 2 rfl) ?_
  refine lv_iconst (v := 5) hx hb d_PartsReader_takeTarget_1 (by decide) ?_
  refine lv_icmp_lt (tgt := 18) hx hb d_PartsReader_takeTarget_2 (by decide) (fun h_9 => ?_) (fun h_9 => ?_)
  · skip
    have g2_3 : y.toInt < 5 := (i_lt rfl (by decide)).mp h_9
    refine lv_iconst (v := 0) hx hb d_PartsReader_takeTarget_18 (by decide) ?_
    have hP9 := hP.sub (ws' := [(h0, .inr (6, [.ref im, .ref fo, .int nm, .int co, .int ta, .int lc])), (im, .inr (1, [.ref iq, .int L])), (iq, .inl (cB, n, .inl f)), (fo, .inr (2, [.ref a1, .ref a2, .int pa, .int de, .int so, .int si, .int se, .int mo, .int ow, .int gr, .int nl, .int tl, .int mk])), (a2, .inl (cB, 400, .inl f2))]) [0, 1, 2, 3, 4] rfl
    have hD9 := hD.sub (ws' := [(h0, .inr (6, [.ref im, .ref fo, .int nm, .int co, .int ta, .int lc])), (im, .inr (1, [.ref iq, .int L])), (iq, .inl (cB, n, .inl f)), (fo, .inr (2, [.ref a1, .ref a2, .int pa, .int de, .int so, .int si, .int se, .int mo, .int ow, .int gr, .int nl, .int tl, .int mk])), (a2, .inl (cB, 400, .inl f2))]) [0, 1, 2, 3, 4] (by decide +kernel) rfl
    exact W.zret (v := 0) hx hb hr (by first | rfl | decide | exact i_narZ (by omega)) (fun t ht hW => ⟨⟨0, (co, ta, tl, f2), rfl, ⟨(by (try dsimp only); first | assumption | omega | trivial), (by (try dsimp only); intro h7; first | (exfalso; omega) | omega | assumption), (by (try dsimp only); intro h7; first | (exfalso; omega) | omega | assumption), (by (try dsimp only); intro h7; first | (exfalso; omega) | omega | assumption), (by (try dsimp only); intro h7; first | (exfalso; omega) | omega | assumption), (by (try dsimp only); intro h7; first | (exfalso; omega) | omega | assumption)⟩, by rw [ht]; exact hP9, hD9⟩, hS.F ht⟩) hS.2.2 d_PartsReader_takeTarget_19
  · skip
    have g2_3 : ¬ y.toInt < 5 := fun h8 => h_9 ((i_lt rfl (by decide)).mpr h8)
    refine lv_aload_n hx hb d_PartsReader_takeTarget_5 rfl (lv_at hl 0 rfl) ?_
    refine va_get (D := D) (ci := 6) (v := .ref im) (C := "DiscMaker$PartsReader") (T := F_PartsReader) (N := 6) hx hb ht9 in_PartsReader hown hK hP 0 rfl rfl 0 (by decide) (ht9 _ k392) (fun _ h9 => h9) rfl d_PartsReader_takeTarget_6 ?_
    refine lv_iload_n hx hb d_PartsReader_takeTarget_9 rfl (lv_at hl 1 rfl) ?_
    refine lv_iconst (v := 4) hx hb d_PartsReader_takeTarget_10 (by decide) ?_
    refine lv_iadd hx hb d_PartsReader_takeTarget_11 ?_
    refine lv_topi (fun v1 e_v1 => ?_)
    have t_v1 : v1.toInt = x.toInt + 4 := by rw [e_v1]; exact i_add rfl (by decide) (by omega) (by omega)
    have hPc := hP.sub (ws' := [(im, .inr (1, [.ref iq, .int L])), (iq, .inl (cB, n, .inl f))]) [1, 2] rfl
    have hDc := hD.sub (ws' := [(im, .inr (1, [.ref iq, .int L])), (iq, .inl (cB, n, .inl f))]) [1, 2] (by decide +kernel) rfl
    have hFc := va_free (wc := [(im, .inr (1, [.ref iq, .int L])), (iq, .inl (cB, n, .inl f))]) hD hS hA [1, 2] rfl
    have hkc : 0 ≤ 0 := by decide
    have hks : 0 ≤ 0 := by decide
    refine va_calli (va_runV (C := "DiscMaker$Bytes") (As := [.int v1]) (rest := []) ⟨hx, hb, hml, hown, hts⟩ (c3_at l D cB cI cJ cZ cN cF s.heap.size im iq n L f v1 (by (try dsimp only); first | assumption | omega | trivial) (by (try dsimp only); first | assumption | omega | trivial)) (cwV 1 hts (lg_goodV k1321 k1065 k1066 k119 kc_Bytes_at) rfl rfl rfl (by decide +kernel) ⟨Nat.le_of_ble_eq_true rfl, Nat.le_of_ble_eq_true rfl⟩) ⟨fun a U g mk q => by obtain ⟨q0, q1, qP, qK, qN, qD⟩ := q; exact ⟨q0, q1, qP, va_K.moved (u := U) (U := U.calling g mk a) (Vm.Alike.refl U.vm) qK, qN.calling, qD⟩, va_recv hK hP (ci := 1) (q0 := 1) rfl rfl, fun U hU hW => ⟨rfl, by rw [hU], by rw [hU]; exact hPc, va_K.moved hW.alike hK, NN.warm hW hN, hDc.weaken (fun _ _ _ _ => trivial)⟩⟩ rfl rfl hl.1 rfl (lv_room (Nat.le_of_ble_eq_true rfl)) d_PartsReader_takeTarget_12 ⟨hkc, hks⟩) hS (fun q _ h => hFc q h) hFc (fun r2 u t H1 locs ht hvm hp_r2 hB hz1 hk1 hS => ?_)
    obtain ⟨hP1, hD1⟩ := hB
    rw [ht] at hP1
    obtain ⟨hP, hD⟩ := va_join (wr := [(h0, .inr (6, [.ref im, .ref fo, .int nm, .int co, .int ta, .int lc])), (fo, .inr (2, [.ref a1, .ref a2, .int pa, .int de, .int so, .int si, .int se, .int mo, .int ow, .int gr, .int nl, .int tl, .int mk])), (a2, .inl (cB, 400, .inl f2))]) (w1 := [(im, .inr (1, [.ref iq, .int L])), (iq, .inl (cB, n, .inl f))]) hP hD [1, 2] [0, 3, 4] rfl rfl (by decide +kernel) (by decide +kernel) hk1 hFc hP1 hD1
    clear hPc hDc hFc hP1 hD1 hk1 hz1 hkc hks
    generalize H1 = H at hP hS ⊢
    have hP : va_P D CL [(h0, .inr (6, [.ref im, .ref fo, .int nm, .int co, .int ta, .int lc])), (fo, .inr (2, [.ref a1, .ref a2, .int pa, .int de, .int so, .int si, .int se, .int mo, .int ow, .int gr, .int nl, .int tl, .int mk])), (a2, .inl (cB, 400, .inl f2)), (im, .inr (1, [.ref iq, .int L])), (iq, .inl (cB, n, .inl f))] H := hP
    have hD : va_D A [(h0, .inr (6, [.ref im, .ref fo, .int nm, .int co, .int ta, .int lc])), (fo, .inr (2, [.ref a1, .ref a2, .int pa, .int de, .int so, .int si, .int se, .int mo, .int ow, .int gr, .int nl, .int tl, .int mk])), (a2, .inl (cB, 400, .inl f2)), (im, .inr (1, [.ref iq, .int L])), (iq, .inl (cB, n, .inl f))] := hD
    try dsimp only at hp_r2
    obtain ⟨hr_3, hv_4⟩ := hp_r2
    refine lv_if_eq (tgt := 20) hx hb d_PartsReader_takeTarget_15 (by decide) (fun h_9 => ?_) (fun h_9 => ?_)
    · skip
      have g15_12 : r2.toInt = 0 := (i_eq rfl (by decide)).mp h_9
      refine lv_iload_n hx hb d_PartsReader_takeTarget_20 rfl (lv_at hl 1 rfl) ?_
      refine lv_iload_n hx hb d_PartsReader_takeTarget_21 rfl (lv_at hl 2 rfl) ?_
      refine lv_iadd hx hb d_PartsReader_takeTarget_22 ?_
      refine lv_topi (fun v5 e_v5 => ?_)
      have t_v5 : v5.toInt = x.toInt + y.toInt := by rw [e_v5]; exact i_add rfl rfl (by omega) (by omega)
      refine lv_istore_n hx hb d_PartsReader_takeTarget_23 rfl hl (by decide) rfl (fun ls hl => ?_)
      have hl : lv_has ls 8 [(3, .int v5), (0, .ref h0), (1, .int x), (2, .int y)] := hl
      refine lv_iload_n hx hb d_PartsReader_takeTarget_24 rfl (lv_at hl 2 rfl) ?_
      refine lv_iconst (v := 5) hx hb d_PartsReader_takeTarget_25 (by decide) ?_
      refine lv_iadd hx hb d_PartsReader_takeTarget_26 ?_
      refine lv_topi (fun v6 e_v6 => ?_)
      have t_v6 : v6.toInt = x.toInt + 5 := by rw [e_v6]; exact i_add rfl (by decide) (by omega) (by omega)
      refine lv_istore hx hb d_PartsReader_takeTarget_27 hl (by decide) rfl (fun ls hl => ?_)
      have hl : lv_has ls 8 [(4, .int v6), (3, .int v5), (0, .ref h0), (1, .int x), (2, .int y)] := hl
      refine zz_labM (B := fun (lk : Nat) (K : Heap → List Loc → Array Slot → List Value → Prop) => ∀ (nx : Int32) (lco : Int32) (lta : Int32) (ltl : Int32) (lf : Nat → Int32) (H : Heap) (locs : List Loc) (ls : Array Slot), lk = (x.toInt + y.toInt - nx.toInt).toNat → (x.toInt + 5 ≤ nx.toInt ∧ nx.toInt ≤ x.toInt + y.toInt) → (0 ≤ ltl.toInt ∧ ltl.toInt ≤ 400 + 2 * (nx.toInt - x.toInt - 5)) → (0 ≤ lco.toInt ∧ lco.toInt ≤ co.toInt + (nx.toInt - x.toInt - 5)) → (lco.toInt = 0 → ltl.toInt = 0) → (lta.toInt ≠ 0 → ltl.toInt = 0) → (0 ≤ lta.toInt ∧ lta.toInt ≤ 1) → va_P D CL [(h0, .inr (6, [.ref im, .ref fo, .int nm, .int lco, .int lta, .int lc])), (fo, .inr (2, [.ref a1, .ref a2, .int pa, .int de, .int so, .int si, .int se, .int mo, .int ow, .int gr, .int nl, .int ltl, .int mk])), (a2, .inl (cB, 400, .inl lf)), (im, .inr (1, [.ref iq, .int L])), (iq, .inl (cB, n, .inl f))] H → va_D A [(h0, .inr (6, [.ref im, .ref fo, .int nm, .int lco, .int lta, .int lc])), (fo, .inr (2, [.ref a1, .ref a2, .int pa, .int de, .int so, .int si, .int se, .int mo, .int ow, .int gr, .int nl, .int ltl, .int mk])), (a2, .inl (cB, 400, .inl lf)), (im, .inr (1, [.ref iq, .int L])), (iq, .inl (cB, n, .inl f))] → va_S A s.heap H locs → lv_has ls 8 [(0, .ref h0), (1, .int x), (2, .int y), (3, .int v5), (4, .int nx)] → K H locs ls []) 29 ?_ ?_
      · skip
        intro lk ih29 nx lco lta ltl lf H locs ls hm29 e1 e2 e3 e4 e5 e6 hP hD hS hl
        refine lv_iload hx hb d_PartsReader_takeTarget_29 (lv_at hl 4 rfl) ?_
        refine lv_iload_n hx hb d_PartsReader_takeTarget_31 rfl (lv_at hl 3 rfl) ?_
        refine lv_icmp_ge (tgt := 207) hx hb d_PartsReader_takeTarget_32 (by decide) (fun h_9 => ?_) (fun h_9 => ?_)
        · skip
          have g32_23 : v5.toInt ≤ nx.toInt := (i_le rfl rfl).mp h_9
          refine lv_aload_n hx hb d_PartsReader_takeTarget_207 rfl (lv_at hl 0 rfl) ?_
          refine va_get (D := D) (ci := 6) (v := .ref fo) (C := "DiscMaker$PartsReader") (T := F_PartsReader) (N := 6) hx hb ht9 in_PartsReader hown hK hP 0 rfl rfl 1 (by decide) (ht9 _ k393) (fun _ h9 => h9) rfl d_PartsReader_takeTarget_208 ?_
          have hPc := hP.sub (ws' := [(fo, .inr (2, [.ref a1, .ref a2, .int pa, .int de, .int so, .int si, .int se, .int mo, .int ow, .int gr, .int nl, .int ltl, .int mk])), (a2, .inl (cB, 400, .inl lf))]) [1, 2] rfl
          have hDc := hD.sub (ws' := [(fo, .inr (2, [.ref a1, .ref a2, .int pa, .int de, .int so, .int si, .int se, .int mo, .int ow, .int gr, .int nl, .int ltl, .int mk])), (a2, .inl (cB, 400, .inl lf))]) [1, 2] (by decide +kernel) rfl
          have hFc := va_free (wc := [(fo, .inr (2, [.ref a1, .ref a2, .int pa, .int de, .int so, .int si, .int se, .int mo, .int ow, .int gr, .int nl, .int ltl, .int mk])), (a2, .inl (cB, 400, .inl lf))]) hD hS hA [1, 2] rfl
          have hkc : 0 ≤ 0 := by decide
          have hks : 0 ≤ 0 := by decide
          refine va_calli (va_runV (C := "DiscMaker$Found") (As := []) (rest := []) ⟨hx, hb, hml, hown, hts⟩ (c3_isTargetTooLong l D cB cI cJ cZ cN cF H.size fo a1 a2 pa de so si se mo ow gr nl ltl mk lf) (cwV 0 hts (lg_goodV k1352 k1353 k1354 k141 kc_Found_isTargetTooLong) rfl rfl rfl (by decide +kernel) ⟨Nat.le_of_ble_eq_true rfl, Nat.le_of_ble_eq_true rfl⟩) ⟨fun a U g mk q => by obtain ⟨q0, q1, qP, qK, qN, qD⟩ := q; exact ⟨q0, q1, qP, va_K.moved (u := U) (U := U.calling g mk a) (Vm.Alike.refl U.vm) qK, qN.calling, qD⟩, va_recv hK hP (ci := 2) (q0 := 1) rfl rfl, fun U hU hW => ⟨rfl, by rw [hU], by rw [hU]; exact hPc, va_K.moved hW.alike hK, NN.warm hW hN, hDc.weaken (fun _ _ _ _ => trivial)⟩⟩ rfl rfl hl.1 rfl (lv_room (Nat.le_of_ble_eq_true rfl)) d_PartsReader_takeTarget_211 ⟨hkc, hks⟩) hS (fun q _ h => hFc q h) hFc (fun r7 u t H1 locs ht hvm hp_r7 hB hz1 hk1 hS => ?_)
          obtain ⟨hP1, hD1⟩ := hB
          rw [ht] at hP1
          obtain ⟨hP, hD⟩ := va_join (wr := [(h0, .inr (6, [.ref im, .ref fo, .int nm, .int lco, .int lta, .int lc])), (im, .inr (1, [.ref iq, .int L])), (iq, .inl (cB, n, .inl f))]) (w1 := [(fo, .inr (2, [.ref a1, .ref a2, .int pa, .int de, .int so, .int si, .int se, .int mo, .int ow, .int gr, .int nl, .int ltl, .int mk])), (a2, .inl (cB, 400, .inl lf))]) hP hD [1, 2] [0, 3, 4] rfl rfl (by decide +kernel) (by decide +kernel) hk1 hFc hP1 hD1
          clear hPc hDc hFc hP1 hD1 hk1 hz1 hkc hks
          generalize H1 = H at hP hS ⊢
          have hP : va_P D CL [(h0, .inr (6, [.ref im, .ref fo, .int nm, .int lco, .int lta, .int lc])), (im, .inr (1, [.ref iq, .int L])), (iq, .inl (cB, n, .inl f)), (fo, .inr (2, [.ref a1, .ref a2, .int pa, .int de, .int so, .int si, .int se, .int mo, .int ow, .int gr, .int nl, .int ltl, .int mk])), (a2, .inl (cB, 400, .inl lf))] H := hP
          have hD : va_D A [(h0, .inr (6, [.ref im, .ref fo, .int nm, .int lco, .int lta, .int lc])), (im, .inr (1, [.ref iq, .int L])), (iq, .inl (cB, n, .inl f)), (fo, .inr (2, [.ref a1, .ref a2, .int pa, .int de, .int so, .int si, .int se, .int mo, .int ow, .int gr, .int nl, .int ltl, .int mk])), (a2, .inl (cB, 400, .inl lf))] := hD
          try dsimp only at hp_r7
          obtain ⟨hr_8, hv_9⟩ := hp_r7
          refine lv_if_ne (tgt := 221) hx hb d_PartsReader_takeTarget_214 (by decide) (fun h_9 => ?_) (fun h_9 => ?_)
          · skip
            have g214_27 : ¬ r7.toInt = 0 := fun h8 => h_9 ((i_eq rfl (by decide)).mpr h8)
            refine lv_iconst (v := 0) hx hb d_PartsReader_takeTarget_221 (by decide) ?_
            have hP9 := hP.sub (ws' := [(h0, .inr (6, [.ref im, .ref fo, .int nm, .int lco, .int lta, .int lc])), (im, .inr (1, [.ref iq, .int L])), (iq, .inl (cB, n, .inl f)), (fo, .inr (2, [.ref a1, .ref a2, .int pa, .int de, .int so, .int si, .int se, .int mo, .int ow, .int gr, .int nl, .int ltl, .int mk])), (a2, .inl (cB, 400, .inl lf))]) [0, 1, 2, 3, 4] rfl
            have hD9 := hD.sub (ws' := [(h0, .inr (6, [.ref im, .ref fo, .int nm, .int lco, .int lta, .int lc])), (im, .inr (1, [.ref iq, .int L])), (iq, .inl (cB, n, .inl f)), (fo, .inr (2, [.ref a1, .ref a2, .int pa, .int de, .int so, .int si, .int se, .int mo, .int ow, .int gr, .int nl, .int ltl, .int mk])), (a2, .inl (cB, 400, .inl lf))]) [0, 1, 2, 3, 4] (by decide +kernel) rfl
            exact W.zret (v := 0) hx hb hr (by first | rfl | decide | exact i_narZ (by omega)) (fun t ht hW => ⟨⟨0, (lco, lta, ltl, lf), rfl, ⟨(by (try dsimp only); first | assumption | omega | trivial), (by (try dsimp only); intro h7; first | (exfalso; omega) | omega | assumption), (by (try dsimp only); intro h7; first | (exfalso; omega) | omega | assumption), (by (try dsimp only); intro h7; first | (exfalso; omega) | omega | assumption), (by (try dsimp only); intro h7; first | (exfalso; omega) | omega | assumption), (by (try dsimp only); intro h7; first | (exfalso; omega) | omega | assumption)⟩, by rw [ht]; exact hP9, hD9⟩, hS.F ht⟩) hS.2.2 d_PartsReader_takeTarget_222
          · skip
            have g214_27 : r7.toInt = 0 := (i_eq rfl (by decide)).mp h_9
            refine lv_iconst (v := 1) hx hb d_PartsReader_takeTarget_217 (by decide) ?_
            refine lv_goto (tgt := 222) hx hb d_PartsReader_takeTarget_218 (by decide) ?_
            have hP9 := hP.sub (ws' := [(h0, .inr (6, [.ref im, .ref fo, .int nm, .int lco, .int lta, .int lc])), (im, .inr (1, [.ref iq, .int L])), (iq, .inl (cB, n, .inl f)), (fo, .inr (2, [.ref a1, .ref a2, .int pa, .int de, .int so, .int si, .int se, .int mo, .int ow, .int gr, .int nl, .int ltl, .int mk])), (a2, .inl (cB, 400, .inl lf))]) [0, 1, 2, 3, 4] rfl
            have hD9 := hD.sub (ws' := [(h0, .inr (6, [.ref im, .ref fo, .int nm, .int lco, .int lta, .int lc])), (im, .inr (1, [.ref iq, .int L])), (iq, .inl (cB, n, .inl f)), (fo, .inr (2, [.ref a1, .ref a2, .int pa, .int de, .int so, .int si, .int se, .int mo, .int ow, .int gr, .int nl, .int ltl, .int mk])), (a2, .inl (cB, 400, .inl lf))]) [0, 1, 2, 3, 4] (by decide +kernel) rfl
            exact W.zret (v := 1) hx hb hr (by first | rfl | decide | exact i_narZ (by omega)) (fun t ht hW => ⟨⟨1, (lco, lta, ltl, lf), rfl, ⟨(by (try dsimp only); first | assumption | omega | trivial), (by (try dsimp only); intro h7; first | (exfalso; omega) | omega | assumption), (by (try dsimp only); intro h7; first | (exfalso; omega) | omega | assumption), (by (try dsimp only); intro h7; first | (exfalso; omega) | omega | assumption), (by (try dsimp only); intro h7; first | (exfalso; omega) | omega | assumption), (by (try dsimp only); intro h7; first | (exfalso; omega) | omega | assumption)⟩, by rw [ht]; exact hP9, hD9⟩, hS.F ht⟩) hS.2.2 d_PartsReader_takeTarget_222
        · skip
          have g32_23 : ¬ v5.toInt ≤ nx.toInt := fun h8 => h_9 ((i_le rfl rfl).mpr h8)
          refine lv_aload_n hx hb d_PartsReader_takeTarget_35 rfl (lv_at hl 0 rfl) ?_
          refine va_get (D := D) (ci := 6) (v := .ref im) (C := "DiscMaker$PartsReader") (T := F_PartsReader) (N := 6) hx hb ht9 in_PartsReader hown hK hP 0 rfl rfl 0 (by decide) (ht9 _ k392) (fun _ h9 => h9) rfl d_PartsReader_takeTarget_36 ?_
          refine lv_iload hx hb d_PartsReader_takeTarget_39 (lv_at hl 4 rfl) ?_
          have hPc := hP.sub (ws' := [(im, .inr (1, [.ref iq, .int L])), (iq, .inl (cB, n, .inl f))]) [3, 4] rfl
          have hDc := hD.sub (ws' := [(im, .inr (1, [.ref iq, .int L])), (iq, .inl (cB, n, .inl f))]) [3, 4] (by decide +kernel) rfl
          have hFc := va_free (wc := [(im, .inr (1, [.ref iq, .int L])), (iq, .inl (cB, n, .inl f))]) hD hS hA [3, 4] rfl
          have hkc : 0 ≤ 0 := by decide
          have hks : 0 ≤ 0 := by decide
          refine va_calli (va_runV (C := "DiscMaker$Bytes") (As := [.int nx]) (rest := []) ⟨hx, hb, hml, hown, hts⟩ (c3_at l D cB cI cJ cZ cN cF H.size im iq n L f nx (by (try dsimp only); first | assumption | omega | trivial) (by (try dsimp only); first | assumption | omega | trivial)) (cwV 1 hts (lg_goodV k1321 k1065 k1066 k119 kc_Bytes_at) rfl rfl rfl (by decide +kernel) ⟨Nat.le_of_ble_eq_true rfl, Nat.le_of_ble_eq_true rfl⟩) ⟨fun a U g mk q => by obtain ⟨q0, q1, qP, qK, qN, qD⟩ := q; exact ⟨q0, q1, qP, va_K.moved (u := U) (U := U.calling g mk a) (Vm.Alike.refl U.vm) qK, qN.calling, qD⟩, va_recv hK hP (ci := 1) (q0 := 3) rfl rfl, fun U hU hW => ⟨rfl, by rw [hU], by rw [hU]; exact hPc, va_K.moved hW.alike hK, NN.warm hW hN, hDc.weaken (fun _ _ _ _ => trivial)⟩⟩ rfl rfl hl.1 rfl (lv_room (Nat.le_of_ble_eq_true rfl)) d_PartsReader_takeTarget_41 ⟨hkc, hks⟩) hS (fun q _ h => hFc q h) hFc (fun r10 u t H1 locs ht hvm hp_r10 hB hz1 hk1 hS => ?_)
          obtain ⟨hP1, hD1⟩ := hB
          rw [ht] at hP1
          obtain ⟨hP, hD⟩ := va_join (wr := [(h0, .inr (6, [.ref im, .ref fo, .int nm, .int lco, .int lta, .int lc])), (fo, .inr (2, [.ref a1, .ref a2, .int pa, .int de, .int so, .int si, .int se, .int mo, .int ow, .int gr, .int nl, .int ltl, .int mk])), (a2, .inl (cB, 400, .inl lf))]) (w1 := [(im, .inr (1, [.ref iq, .int L])), (iq, .inl (cB, n, .inl f))]) hP hD [3, 4] [0, 1, 2] rfl rfl (by decide +kernel) (by decide +kernel) hk1 hFc hP1 hD1
          clear hPc hDc hFc hP1 hD1 hk1 hz1 hkc hks
          generalize H1 = H at hP hS ⊢
          have hP : va_P D CL [(h0, .inr (6, [.ref im, .ref fo, .int nm, .int lco, .int lta, .int lc])), (fo, .inr (2, [.ref a1, .ref a2, .int pa, .int de, .int so, .int si, .int se, .int mo, .int ow, .int gr, .int nl, .int ltl, .int mk])), (a2, .inl (cB, 400, .inl lf)), (im, .inr (1, [.ref iq, .int L])), (iq, .inl (cB, n, .inl f))] H := hP
          have hD : va_D A [(h0, .inr (6, [.ref im, .ref fo, .int nm, .int lco, .int lta, .int lc])), (fo, .inr (2, [.ref a1, .ref a2, .int pa, .int de, .int so, .int si, .int se, .int mo, .int ow, .int gr, .int nl, .int ltl, .int mk])), (a2, .inl (cB, 400, .inl lf)), (im, .inr (1, [.ref iq, .int L])), (iq, .inl (cB, n, .inl f))] := hD
          try dsimp only at hp_r10
          obtain ⟨hr_11, hv_12⟩ := hp_r10
          refine lv_istore hx hb d_PartsReader_takeTarget_44 hl (by decide) rfl (fun ls hl => ?_)
          have hl : lv_has ls 8 [(5, .int r10), (0, .ref h0), (1, .int x), (2, .int y), (3, .int v5), (4, .int nx)] := hl
          refine lv_aload_n hx hb d_PartsReader_takeTarget_46 rfl (lv_at hl 1 rfl) ?_
          refine va_get (D := D) (ci := 6) (v := .ref im) (C := "DiscMaker$PartsReader") (T := F_PartsReader) (N := 6) hx hb ht9 in_PartsReader hown hK hP 0 rfl rfl 0 (by decide) (ht9 _ k392) (fun _ h9 => h9) rfl d_PartsReader_takeTarget_47 ?_
          refine lv_iload hx hb d_PartsReader_takeTarget_50 (lv_at hl 5 rfl) ?_
          refine lv_iconst (v := 1) hx hb d_PartsReader_takeTarget_52 (by decide) ?_
          refine lv_iadd hx hb d_PartsReader_takeTarget_53 ?_
          refine lv_topi (fun v13 e_v13 => ?_)
          have t_v13 : v13.toInt = nx.toInt + 1 := by rw [e_v13]; exact i_add rfl (by decide) (by omega) (by omega)
          have hPc := hP.sub (ws' := [(im, .inr (1, [.ref iq, .int L])), (iq, .inl (cB, n, .inl f))]) [3, 4] rfl
          have hDc := hD.sub (ws' := [(im, .inr (1, [.ref iq, .int L])), (iq, .inl (cB, n, .inl f))]) [3, 4] (by decide +kernel) rfl
          have hFc := va_free (wc := [(im, .inr (1, [.ref iq, .int L])), (iq, .inl (cB, n, .inl f))]) hD hS hA [3, 4] rfl
          have hkc : 0 ≤ 0 := by decide
          have hks : 0 ≤ 0 := by decide
          refine va_calli (va_runV (C := "DiscMaker$Bytes") (As := [.int v13]) (rest := []) ⟨hx, hb, hml, hown, hts⟩ (c3_at l D cB cI cJ cZ cN cF H.size im iq n L f v13 (by (try dsimp only); first | assumption | omega | trivial) (by (try dsimp only); first | assumption | omega | trivial)) (cwV 1 hts (lg_goodV k1321 k1065 k1066 k119 kc_Bytes_at) rfl rfl rfl (by decide +kernel) ⟨Nat.le_of_ble_eq_true rfl, Nat.le_of_ble_eq_true rfl⟩) ⟨fun a U g mk q => by obtain ⟨q0, q1, qP, qK, qN, qD⟩ := q; exact ⟨q0, q1, qP, va_K.moved (u := U) (U := U.calling g mk a) (Vm.Alike.refl U.vm) qK, qN.calling, qD⟩, va_recv hK hP (ci := 1) (q0 := 3) rfl rfl, fun U hU hW => ⟨rfl, by rw [hU], by rw [hU]; exact hPc, va_K.moved hW.alike hK, NN.warm hW hN, hDc.weaken (fun _ _ _ _ => trivial)⟩⟩ rfl rfl hl.1 rfl (lv_room (Nat.le_of_ble_eq_true rfl)) d_PartsReader_takeTarget_54 ⟨hkc, hks⟩) hS (fun q _ h => hFc q h) hFc (fun r14 u t H1 locs ht hvm hp_r14 hB hz1 hk1 hS => ?_)
          obtain ⟨hP1, hD1⟩ := hB
          rw [ht] at hP1
          obtain ⟨hP, hD⟩ := va_join (wr := [(h0, .inr (6, [.ref im, .ref fo, .int nm, .int lco, .int lta, .int lc])), (fo, .inr (2, [.ref a1, .ref a2, .int pa, .int de, .int so, .int si, .int se, .int mo, .int ow, .int gr, .int nl, .int ltl, .int mk])), (a2, .inl (cB, 400, .inl lf))]) (w1 := [(im, .inr (1, [.ref iq, .int L])), (iq, .inl (cB, n, .inl f))]) hP hD [3, 4] [0, 1, 2] rfl rfl (by decide +kernel) (by decide +kernel) hk1 hFc hP1 hD1
          clear hPc hDc hFc hP1 hD1 hk1 hz1 hkc hks
          generalize H1 = H at hP hS ⊢
          have hP : va_P D CL [(h0, .inr (6, [.ref im, .ref fo, .int nm, .int lco, .int lta, .int lc])), (fo, .inr (2, [.ref a1, .ref a2, .int pa, .int de, .int so, .int si, .int se, .int mo, .int ow, .int gr, .int nl, .int ltl, .int mk])), (a2, .inl (cB, 400, .inl lf)), (im, .inr (1, [.ref iq, .int L])), (iq, .inl (cB, n, .inl f))] H := hP
          have hD : va_D A [(h0, .inr (6, [.ref im, .ref fo, .int nm, .int lco, .int lta, .int lc])), (fo, .inr (2, [.ref a1, .ref a2, .int pa, .int de, .int so, .int si, .int se, .int mo, .int ow, .int gr, .int nl, .int ltl, .int mk])), (a2, .inl (cB, 400, .inl lf)), (im, .inr (1, [.ref iq, .int L])), (iq, .inl (cB, n, .inl f))] := hD
          try dsimp only at hp_r14
          obtain ⟨hr_15, hv_16⟩ := hp_r14
          refine lv_istore hx hb d_PartsReader_takeTarget_57 hl (by decide) rfl (fun ls hl => ?_)
          have hl : lv_has ls 8 [(6, .int r14), (5, .int r10), (0, .ref h0), (1, .int x), (2, .int y), (3, .int v5), (4, .int nx)] := hl
          refine lv_iload hx hb d_PartsReader_takeTarget_59 (lv_at hl 6 rfl) ?_
          refine lv_iconst (v := 2) hx hb d_PartsReader_takeTarget_61 (by decide) ?_
          refine lv_iadd hx hb d_PartsReader_takeTarget_62 ?_
          refine lv_topi (fun v17 e_v17 => ?_)
          have t_v17 : v17.toInt = nx.toInt + 2 := by rw [e_v17]; exact i_add rfl (by decide) (by omega) (by omega)
          refine lv_iload hx hb d_PartsReader_takeTarget_63 (lv_at hl 0 rfl) ?_
          refine lv_iadd hx hb d_PartsReader_takeTarget_65 ?_
          refine lv_topi (fun v18 e_v18 => ?_)
          have t_v18 : v18.toInt = v17.toInt + r14.toInt := by rw [e_v18]; exact i_add rfl rfl (by omega) (by omega)
          refine lv_iload_n hx hb d_PartsReader_takeTarget_66 rfl (lv_at hl 5 rfl) ?_
          refine lv_icmp_gt (tgt := 80) hx hb d_PartsReader_takeTarget_67 (by decide) (fun h_9 => ?_) (fun h_9 => ?_)
          · skip
            have g67_51 : v5.toInt < v18.toInt := (i_lt rfl rfl).mp h_9
            refine lv_iconst (v := 0) hx hb d_PartsReader_takeTarget_80 (by decide) ?_
            have hP9 := hP.sub (ws' := [(h0, .inr (6, [.ref im, .ref fo, .int nm, .int lco, .int lta, .int lc])), (im, .inr (1, [.ref iq, .int L])), (iq, .inl (cB, n, .inl f)), (fo, .inr (2, [.ref a1, .ref a2, .int pa, .int de, .int so, .int si, .int se, .int mo, .int ow, .int gr, .int nl, .int ltl, .int mk])), (a2, .inl (cB, 400, .inl lf))]) [0, 3, 4, 1, 2] rfl
            have hD9 := hD.sub (ws' := [(h0, .inr (6, [.ref im, .ref fo, .int nm, .int lco, .int lta, .int lc])), (im, .inr (1, [.ref iq, .int L])), (iq, .inl (cB, n, .inl f)), (fo, .inr (2, [.ref a1, .ref a2, .int pa, .int de, .int so, .int si, .int se, .int mo, .int ow, .int gr, .int nl, .int ltl, .int mk])), (a2, .inl (cB, 400, .inl lf))]) [0, 3, 4, 1, 2] (by decide +kernel) rfl
            exact W.zret (v := 0) hx hb hr (by first | rfl | decide | exact i_narZ (by omega)) (fun t ht hW => ⟨⟨0, (lco, lta, ltl, lf), rfl, ⟨(by (try dsimp only); first | assumption | omega | trivial), (by (try dsimp only); intro h7; first | (exfalso; omega) | omega | assumption), (by (try dsimp only); intro h7; first | (exfalso; omega) | omega | assumption), (by (try dsimp only); intro h7; first | (exfalso; omega) | omega | assumption), (by (try dsimp only); intro h7; first | (exfalso; omega) | omega | assumption), (by (try dsimp only); intro h7; first | (exfalso; omega) | omega | assumption)⟩, by rw [ht]; exact hP9, hD9⟩, hS.F ht⟩) hS.2.2 d_PartsReader_takeTarget_81
          · skip
            have g67_51 : ¬ v5.toInt < v18.toInt := fun h8 => h_9 ((i_lt rfl rfl).mpr h8)
            refine lv_iload hx hb d_PartsReader_takeTarget_70 (lv_at hl 1 rfl) ?_
            refine lv_iload hx hb d_PartsReader_takeTarget_72 (lv_at hl 0 rfl) ?_
            have hPc := hP.sub (ws' := []) [] rfl
            have hDc := hD.sub (ws' := []) [] (by decide +kernel) rfl
            have hFc := va_free (wc := []) hD hS hA [] rfl
            have hkc : 0 ≤ 0 := by decide
            have hks : 0 ≤ 0 := by decide
            refine va_calli (va_runS (As := [.int r10, .int r14]) (rest := []) ⟨hx, hb, hml, hown, hts⟩ (c3_isComponent l D cB cI cJ cZ cN cF H.size r10 r14) (cwS 2 hts (lg_goodS k1342 k1343 k124 kc_PartsReader_isComponent) rfl rfl rfl (by decide +kernel) ⟨Nat.le_of_ble_eq_true rfl, Nat.le_of_ble_eq_true rfl⟩) ⟨fun a U g mk q => by obtain ⟨q0, q1, qP, qK, qN, qD⟩ := q; exact ⟨q0, q1, qP, va_K.moved (u := U) (U := U.calling g mk a) (Vm.Alike.refl U.vm) qK, qN.calling, qD⟩, fun U hU hW => ⟨rfl, by rw [hU], by rw [hU]; exact hPc, va_K.moved hW.alike hK, NN.warm hW hN, hDc.weaken (fun _ _ _ _ => trivial)⟩⟩ rfl rfl hl.1 rfl (lv_room (Nat.le_of_ble_eq_true rfl)) d_PartsReader_takeTarget_74 ⟨hkc, hks⟩) hS (fun q _ h => hFc q h) hFc (fun r19 u t H1 locs ht hvm hp_r19 hB hz1 hk1 hS => ?_)
            obtain ⟨hP1, hD1⟩ := hB
            rw [ht] at hP1
            obtain ⟨hP, hD⟩ := va_join (wr := [(h0, .inr (6, [.ref im, .ref fo, .int nm, .int lco, .int lta, .int lc])), (fo, .inr (2, [.ref a1, .ref a2, .int pa, .int de, .int so, .int si, .int se, .int mo, .int ow, .int gr, .int nl, .int ltl, .int mk])), (a2, .inl (cB, 400, .inl lf)), (im, .inr (1, [.ref iq, .int L])), (iq, .inl (cB, n, .inl f))]) (w1 := []) hP hD [] [0, 1, 2, 3, 4] rfl rfl (by decide +kernel) (by decide +kernel) hk1 hFc hP1 hD1
            clear hPc hDc hFc hP1 hD1 hk1 hz1 hkc hks
            generalize H1 = H at hP hS ⊢
            have hP : va_P D CL [(h0, .inr (6, [.ref im, .ref fo, .int nm, .int lco, .int lta, .int lc])), (fo, .inr (2, [.ref a1, .ref a2, .int pa, .int de, .int so, .int si, .int se, .int mo, .int ow, .int gr, .int nl, .int ltl, .int mk])), (a2, .inl (cB, 400, .inl lf)), (im, .inr (1, [.ref iq, .int L])), (iq, .inl (cB, n, .inl f))] H := hP
            have hD : va_D A [(h0, .inr (6, [.ref im, .ref fo, .int nm, .int lco, .int lta, .int lc])), (fo, .inr (2, [.ref a1, .ref a2, .int pa, .int de, .int so, .int si, .int se, .int mo, .int ow, .int gr, .int nl, .int ltl, .int mk])), (a2, .inl (cB, 400, .inl lf)), (im, .inr (1, [.ref iq, .int L])), (iq, .inl (cB, n, .inl f))] := hD
            try dsimp only at hp_r19
            obtain ⟨hr_20, hv_21⟩ := hp_r19
            refine lv_if_ne (tgt := 82) hx hb d_PartsReader_takeTarget_77 (by decide) (fun h_9 => ?_) (fun h_9 => ?_)
            · skip
              have g77_57 : ¬ r19.toInt = 0 := fun h8 => h_9 ((i_eq rfl (by decide)).mpr h8)
              refine zz_labM (B := fun (lk : Nat) (K : Heap → List Loc → Array Slot → List Value → Prop) => ∀ (mk9 : Int32) (ln9 : Int32) (H : Heap) (locs : List Loc) (ls : Array Slot), lk = 0 → (0 ≤ ln9.toInt ∧ ln9.toInt ≤ 255 ∧ nx.toInt + 2 + ln9.toInt ≤ x.toInt + y.toInt) → (mk9.toInt = 0 ∨ (ln9.toInt = 0 ∧ (mk9.toInt = 2 ∨ mk9.toInt = 4 ∨ mk9.toInt = 8))) → va_P D CL [(h0, .inr (6, [.ref im, .ref fo, .int nm, .int lco, .int lta, .int lc])), (fo, .inr (2, [.ref a1, .ref a2, .int pa, .int de, .int so, .int si, .int se, .int mo, .int ow, .int gr, .int nl, .int ltl, .int mk])), (a2, .inl (cB, 400, .inl lf)), (im, .inr (1, [.ref iq, .int L])), (iq, .inl (cB, n, .inl f))] H → va_D A [(h0, .inr (6, [.ref im, .ref fo, .int nm, .int lco, .int lta, .int lc])), (fo, .inr (2, [.ref a1, .ref a2, .int pa, .int de, .int so, .int si, .int se, .int mo, .int ow, .int gr, .int nl, .int ltl, .int mk])), (a2, .inl (cB, 400, .inl lf)), (im, .inr (1, [.ref iq, .int L])), (iq, .inl (cB, n, .inl f))] → va_S A s.heap H locs → lv_has ls 8 [(0, .ref h0), (1, .int x), (2, .int y), (3, .int v5), (4, .int nx), (5, .int mk9), (6, .int ln9)] → K H locs ls []) 82 ?_ ?_
              · skip
                intro lk ih82 mk9 ln9 H locs ls hm82 e7 e8 hP hD hS hl
                refine lv_aload_n hx hb d_PartsReader_takeTarget_82 rfl (lv_at hl 0 rfl) ?_
                refine zz_labM (B := fun (lk : Nat) (K : Heap → List Loc → Array Slot → List Value → Prop) => ∀ (tz : Int32) (H : Heap) (locs : List Loc) (ls : Array Slot), lk = 0 → (0 ≤ tz.toInt ∧ tz.toInt ≤ 1) → (tz.toInt ≠ 0 → lco.toInt = 0 ∧ mk9.toInt = 8) → va_P D CL [(h0, .inr (6, [.ref im, .ref fo, .int nm, .int lco, .int lta, .int lc])), (fo, .inr (2, [.ref a1, .ref a2, .int pa, .int de, .int so, .int si, .int se, .int mo, .int ow, .int gr, .int nl, .int ltl, .int mk])), (a2, .inl (cB, 400, .inl lf)), (im, .inr (1, [.ref iq, .int L])), (iq, .inl (cB, n, .inl f))] H → va_D A [(h0, .inr (6, [.ref im, .ref fo, .int nm, .int lco, .int lta, .int lc])), (fo, .inr (2, [.ref a1, .ref a2, .int pa, .int de, .int so, .int si, .int se, .int mo, .int ow, .int gr, .int nl, .int ltl, .int mk])), (a2, .inl (cB, 400, .inl lf)), (im, .inr (1, [.ref iq, .int L])), (iq, .inl (cB, n, .inl f))] → va_S A s.heap H locs → lv_has ls 8 [(0, .ref h0), (1, .int x), (2, .int y), (3, .int v5), (4, .int nx), (5, .int mk9), (6, .int ln9)] → K H locs ls [.int tz, .ref h0]) 102 ?_ ?_
                · skip
                  intro lk ih102 tz H locs ls hm102 e9 e10 hP hD hS hl
                  refine va_put (D := D) (ci := 6) (v := .int tz) (ty := .boolean) (C := "DiscMaker$PartsReader") (T := F_PartsReader) (N := 6) hx hb ht9 in_PartsReader t_PartsReader t_PartsReader_ok n_PartsReader hown hK hP hD hS 0 rfl rfl 4 (by decide) (ht9 _ k397) (fun _ h9 => h9) rfl (by decide +kernel) (i_narZ (by omega)) (i_fitZ (by omega)) (Nat.le_of_ble_eq_true rfl) d_PartsReader_takeTarget_102 (fun H locs hP hD hS => ?_)
                  have hP : va_P D CL [(h0, .inr (6, [.ref im, .ref fo, .int nm, .int lco, .int tz, .int lc])), (fo, .inr (2, [.ref a1, .ref a2, .int pa, .int de, .int so, .int si, .int se, .int mo, .int ow, .int gr, .int nl, .int ltl, .int mk])), (a2, .inl (cB, 400, .inl lf)), (im, .inr (1, [.ref iq, .int L])), (iq, .inl (cB, n, .inl f))] H := hP
                  have hD : va_D A [(h0, .inr (6, [.ref im, .ref fo, .int nm, .int lco, .int tz, .int lc])), (fo, .inr (2, [.ref a1, .ref a2, .int pa, .int de, .int so, .int si, .int se, .int mo, .int ow, .int gr, .int nl, .int ltl, .int mk])), (a2, .inl (cB, 400, .inl lf)), (im, .inr (1, [.ref iq, .int L])), (iq, .inl (cB, n, .inl f))] := hD
                  refine zz_labM (B := fun (lk : Nat) (K : Heap → List Loc → Array Slot → List Value → Prop) => ∀ (jt : Int32) (jf : Nat → Int32) (H : Heap) (locs : List Loc) (ls : Array Slot), lk = 0 → (jt.toInt = ltl.toInt ∨ (0 < lco.toInt ∧ jt.toInt = ltl.toInt + 1)) → va_P D CL [(h0, .inr (6, [.ref im, .ref fo, .int nm, .int lco, .int tz, .int lc])), (fo, .inr (2, [.ref a1, .ref a2, .int pa, .int de, .int so, .int si, .int se, .int mo, .int ow, .int gr, .int nl, .int jt, .int mk])), (a2, .inl (cB, 400, .inl jf)), (im, .inr (1, [.ref iq, .int L])), (iq, .inl (cB, n, .inl f))] H → va_D A [(h0, .inr (6, [.ref im, .ref fo, .int nm, .int lco, .int tz, .int lc])), (fo, .inr (2, [.ref a1, .ref a2, .int pa, .int de, .int so, .int si, .int se, .int mo, .int ow, .int gr, .int nl, .int jt, .int mk])), (a2, .inl (cB, 400, .inl jf)), (im, .inr (1, [.ref iq, .int L])), (iq, .inl (cB, n, .inl f))] → va_S A s.heap H locs → lv_has ls 8 [(0, .ref h0), (1, .int x), (2, .int y), (3, .int v5), (4, .int nx), (5, .int mk9), (6, .int ln9)] → K H locs ls []) 121 ?_ ?_
                  · skip
                    intro lk ih121 jt jf H locs ls hm121 e11 hP hD hS hl
                    refine lv_iload hx hb d_PartsReader_takeTarget_121 (lv_at hl 5 rfl) ?_
                    have hPc := hP.sub (ws' := []) [] rfl
                    have hDc := hD.sub (ws' := []) [] (by decide +kernel) rfl
                    have hFc := va_free (wc := []) hD hS hA [] rfl
                    have hkc : 0 ≤ 0 := by decide
                    have hks : 0 ≤ 0 := by decide
                    refine va_calli (va_runS (As := [.int mk9]) (rest := []) ⟨hx, hb, hml, hown, hts⟩ (c3_dotsOf l D cB cI cJ cZ cN cF H.size mk9) (cwS 1 hts (lg_goodS k1349 k1350 k124 kc_PartsReader_dotsOf) rfl rfl rfl (by decide +kernel) ⟨Nat.le_of_ble_eq_true rfl, Nat.le_of_ble_eq_true rfl⟩) ⟨fun a U g mk q => by obtain ⟨q0, q1, qP, qK, qN, qD⟩ := q; exact ⟨q0, q1, qP, va_K.moved (u := U) (U := U.calling g mk a) (Vm.Alike.refl U.vm) qK, qN.calling, qD⟩, fun U hU hW => ⟨rfl, by rw [hU], by rw [hU]; exact hPc, va_K.moved hW.alike hK, NN.warm hW hN, hDc.weaken (fun _ _ _ _ => trivial)⟩⟩ rfl rfl hl.1 rfl (lv_room (Nat.le_of_ble_eq_true rfl)) d_PartsReader_takeTarget_123 ⟨hkc, hks⟩) hS (fun q _ h => hFc q h) hFc (fun r22 u t H1 locs ht hvm hp_r22 hB hz1 hk1 hS => ?_)
                    obtain ⟨hP1, hD1⟩ := hB
                    rw [ht] at hP1
                    obtain ⟨hP, hD⟩ := va_join (wr := [(h0, .inr (6, [.ref im, .ref fo, .int nm, .int lco, .int tz, .int lc])), (fo, .inr (2, [.ref a1, .ref a2, .int pa, .int de, .int so, .int si, .int se, .int mo, .int ow, .int gr, .int nl, .int jt, .int mk])), (a2, .inl (cB, 400, .inl jf)), (im, .inr (1, [.ref iq, .int L])), (iq, .inl (cB, n, .inl f))]) (w1 := []) hP hD [] [0, 1, 2, 3, 4] rfl rfl (by decide +kernel) (by decide +kernel) hk1 hFc hP1 hD1
                    clear hPc hDc hFc hP1 hD1 hk1 hz1 hkc hks
                    generalize H1 = H at hP hS ⊢
                    have hP : va_P D CL [(h0, .inr (6, [.ref im, .ref fo, .int nm, .int lco, .int tz, .int lc])), (fo, .inr (2, [.ref a1, .ref a2, .int pa, .int de, .int so, .int si, .int se, .int mo, .int ow, .int gr, .int nl, .int jt, .int mk])), (a2, .inl (cB, 400, .inl jf)), (im, .inr (1, [.ref iq, .int L])), (iq, .inl (cB, n, .inl f))] H := hP
                    have hD : va_D A [(h0, .inr (6, [.ref im, .ref fo, .int nm, .int lco, .int tz, .int lc])), (fo, .inr (2, [.ref a1, .ref a2, .int pa, .int de, .int so, .int si, .int se, .int mo, .int ow, .int gr, .int nl, .int jt, .int mk])), (a2, .inl (cB, 400, .inl jf)), (im, .inr (1, [.ref iq, .int L])), (iq, .inl (cB, n, .inl f))] := hD
                    try dsimp only at hp_r22
                    have hv_23 := hp_r22
                    refine lv_istore hx hb d_PartsReader_takeTarget_126 hl (by decide) rfl (fun ls hl => ?_)
                    have hl : lv_has ls 8 [(7, .int r22), (0, .ref h0), (1, .int x), (2, .int y), (3, .int v5), (4, .int nx), (5, .int mk9), (6, .int ln9)] := hl
                    refine zz_labM (B := fun (lk : Nat) (K : Heap → List Loc → Array Slot → List Value → Prop) => ∀ (dt : Int32) (dl : Int32) (df : Nat → Int32) (H : Heap) (locs : List Loc) (ls : Array Slot), lk = dt.toInt.toNat → (0 ≤ dt.toInt ∧ dt.toInt ≤ 2 ∧ jt.toInt ≤ dl.toInt ∧ dl.toInt + dt.toInt ≤ jt.toInt + 2) → (mk9.toInt = 8 → dt.toInt = 0 ∧ dl.toInt = jt.toInt) → va_P D CL [(h0, .inr (6, [.ref im, .ref fo, .int nm, .int lco, .int tz, .int lc])), (fo, .inr (2, [.ref a1, .ref a2, .int pa, .int de, .int so, .int si, .int se, .int mo, .int ow, .int gr, .int nl, .int dl, .int mk])), (a2, .inl (cB, 400, .inl df)), (im, .inr (1, [.ref iq, .int L])), (iq, .inl (cB, n, .inl f))] H → va_D A [(h0, .inr (6, [.ref im, .ref fo, .int nm, .int lco, .int tz, .int lc])), (fo, .inr (2, [.ref a1, .ref a2, .int pa, .int de, .int so, .int si, .int se, .int mo, .int ow, .int gr, .int nl, .int dl, .int mk])), (a2, .inl (cB, 400, .inl df)), (im, .inr (1, [.ref iq, .int L])), (iq, .inl (cB, n, .inl f))] → va_S A s.heap H locs → lv_has ls 8 [(0, .ref h0), (1, .int x), (2, .int y), (3, .int v5), (4, .int nx), (5, .int mk9), (6, .int ln9), (7, .int dt)] → K H locs ls []) 128 ?_ ?_
                    · skip
                      intro lk ih128 dt dl df H locs ls hm128 e12 e13 hP hD hS hl
                      refine lv_iload hx hb d_PartsReader_takeTarget_128 (lv_at hl 7 rfl) ?_
                      refine lv_if_le (tgt := 148) hx hb d_PartsReader_takeTarget_130 (by decide) (fun h_9 => ?_) (fun h_9 => ?_)
                      · skip
                        have g130_64 : dt.toInt ≤ 0 := (i_le rfl (by decide)).mp h_9
                        refine lv_iconst (v := 0) hx hb d_PartsReader_takeTarget_148 (by decide) ?_
                        refine lv_istore hx hb d_PartsReader_takeTarget_149 hl (by decide) rfl (fun ls hl => ?_)
                        have hl : lv_has ls 8 [(7, .int 0), (0, .ref h0), (1, .int x), (2, .int y), (3, .int v5), (4, .int nx), (5, .int mk9), (6, .int ln9)] := hl
                        refine zz_labM (B := fun (lk : Nat) (K : Heap → List Loc → Array Slot → List Value → Prop) => ∀ (ki : Int32) (kl : Int32) (kf : Nat → Int32) (H : Heap) (locs : List Loc) (ls : Array Slot), lk = (ln9.toInt - ki.toInt).toNat → (0 ≤ ki.toInt ∧ ki.toInt ≤ ln9.toInt) → (kl.toInt = dl.toInt + ki.toInt) → va_P D CL [(h0, .inr (6, [.ref im, .ref fo, .int nm, .int lco, .int tz, .int lc])), (fo, .inr (2, [.ref a1, .ref a2, .int pa, .int de, .int so, .int si, .int se, .int mo, .int ow, .int gr, .int nl, .int kl, .int mk])), (a2, .inl (cB, 400, .inl kf)), (im, .inr (1, [.ref iq, .int L])), (iq, .inl (cB, n, .inl f))] H → va_D A [(h0, .inr (6, [.ref im, .ref fo, .int nm, .int lco, .int tz, .int lc])), (fo, .inr (2, [.ref a1, .ref a2, .int pa, .int de, .int so, .int si, .int se, .int mo, .int ow, .int gr, .int nl, .int kl, .int mk])), (a2, .inl (cB, 400, .inl kf)), (im, .inr (1, [.ref iq, .int L])), (iq, .inl (cB, n, .inl f))] → va_S A s.heap H locs → lv_has ls 8 [(0, .ref h0), (1, .int x), (2, .int y), (3, .int v5), (4, .int nx), (5, .int mk9), (6, .int ln9), (7, .int ki)] → K H locs ls []) 151 ?_ ?_
                        · skip
                          intro lk ih151 ki kl kf H locs ls hm151 e14 e15 hP hD hS hl
                          refine lv_iload hx hb d_PartsReader_takeTarget_151 (lv_at hl 7 rfl) ?_
                          refine lv_iload hx hb d_PartsReader_takeTarget_153 (lv_at hl 6 rfl) ?_
                          refine lv_icmp_ge (tgt := 185) hx hb d_PartsReader_takeTarget_155 (by decide) (fun h_9 => ?_) (fun h_9 => ?_)
                          · skip
                            have g155_69 : ln9.toInt ≤ ki.toInt := (i_le rfl rfl).mp h_9
                            refine lv_aload_n hx hb d_PartsReader_takeTarget_185 rfl (lv_at hl 0 rfl) ?_
                            refine lv_dup hx hb d_PartsReader_takeTarget_186 rfl ?_
                            refine va_get (D := D) (ci := 6) (v := .int lco) (C := "DiscMaker$PartsReader") (T := F_PartsReader) (N := 6) hx hb ht9 in_PartsReader hown hK hP 0 rfl rfl 3 (by decide) (ht9 _ k396) (fun _ h9 => h9) rfl d_PartsReader_takeTarget_187 ?_
                            refine lv_iconst (v := 1) hx hb d_PartsReader_takeTarget_190 (by decide) ?_
                            refine lv_iadd hx hb d_PartsReader_takeTarget_191 ?_
                            refine lv_topi (fun v24 e_v24 => ?_)
                            have t_v24 : v24.toInt = lco.toInt + 1 := by rw [e_v24]; exact i_add rfl (by decide) (by omega) (by omega)
                            refine va_put (D := D) (ci := 6) (v := .int v24) (ty := .int) (C := "DiscMaker$PartsReader") (T := F_PartsReader) (N := 6) hx hb ht9 in_PartsReader t_PartsReader t_PartsReader_ok n_PartsReader hown hK hP hD hS 0 rfl rfl 3 (by decide) (ht9 _ k396) (fun _ h9 => h9) rfl (by decide +kernel) rfl rfl (Nat.le_of_ble_eq_true rfl) d_PartsReader_takeTarget_192 (fun H locs hP hD hS => ?_)
                            have hP : va_P D CL [(h0, .inr (6, [.ref im, .ref fo, .int nm, .int v24, .int tz, .int lc])), (fo, .inr (2, [.ref a1, .ref a2, .int pa, .int de, .int so, .int si, .int se, .int mo, .int ow, .int gr, .int nl, .int kl, .int mk])), (a2, .inl (cB, 400, .inl kf)), (im, .inr (1, [.ref iq, .int L])), (iq, .inl (cB, n, .inl f))] H := hP
                            have hD : va_D A [(h0, .inr (6, [.ref im, .ref fo, .int nm, .int v24, .int tz, .int lc])), (fo, .inr (2, [.ref a1, .ref a2, .int pa, .int de, .int so, .int si, .int se, .int mo, .int ow, .int gr, .int nl, .int kl, .int mk])), (a2, .inl (cB, 400, .inl kf)), (im, .inr (1, [.ref iq, .int L])), (iq, .inl (cB, n, .inl f))] := hD
                            refine lv_iload hx hb d_PartsReader_takeTarget_195 (lv_at hl 4 rfl) ?_
                            refine lv_iconst (v := 2) hx hb d_PartsReader_takeTarget_197 (by decide) ?_
                            refine lv_iload hx hb d_PartsReader_takeTarget_198 (lv_at hl 6 rfl) ?_
                            refine lv_iadd hx hb d_PartsReader_takeTarget_200 ?_
                            refine lv_topi (fun v25 e_v25 => ?_)
                            have t_v25 : v25.toInt = 2 + ln9.toInt := by rw [e_v25]; exact i_add (by decide) rfl (by omega) (by omega)
                            refine lv_iadd hx hb d_PartsReader_takeTarget_201 ?_
                            refine lv_topi (fun v26 e_v26 => ?_)
                            have t_v26 : v26.toInt = nx.toInt + v25.toInt := by rw [e_v26]; exact i_add rfl rfl (by omega) (by omega)
                            refine lv_istore hx hb d_PartsReader_takeTarget_202 hl (by decide) rfl (fun ls hl => ?_)
                            have hl : lv_has ls 8 [(4, .int v26), (0, .ref h0), (1, .int x), (2, .int y), (3, .int v5), (5, .int mk9), (6, .int ln9), (7, .int ki)] := hl
                            refine lv_goto (tgt := 29) hx hb d_PartsReader_takeTarget_204 (by decide) ?_
                            have hP := hP.sub (ws' := [(h0, .inr (6, [.ref im, .ref fo, .int nm, .int v24, .int tz, .int lc])), (fo, .inr (2, [.ref a1, .ref a2, .int pa, .int de, .int so, .int si, .int se, .int mo, .int ow, .int gr, .int nl, .int kl, .int mk])), (a2, .inl (cB, 400, .inl kf)), (im, .inr (1, [.ref iq, .int L])), (iq, .inl (cB, n, .inl f))]) [0, 1, 2, 3, 4] rfl
                            have hD := hD.sub (ws' := [(h0, .inr (6, [.ref im, .ref fo, .int nm, .int v24, .int tz, .int lc])), (fo, .inr (2, [.ref a1, .ref a2, .int pa, .int de, .int so, .int si, .int se, .int mo, .int ow, .int gr, .int nl, .int kl, .int mk])), (a2, .inl (cB, 400, .inl kf)), (im, .inr (1, [.ref iq, .int L])), (iq, .inl (cB, n, .inl f))]) [0, 1, 2, 3, 4] (by decide +kernel) rfl
                            have hl := lv_sub hl [1, 2, 3, 4, 0] rfl
                            exact ih29 _ (by first | omega | (dsimp only; omega)) v26 v24 tz kl kf _ _ _ rfl ((by (try dsimp only); first | assumption | omega | trivial)) ((by (try dsimp only); first | assumption | omega | trivial)) ((by (try dsimp only); first | assumption | omega | trivial)) ((by (try dsimp only); first | assumption | omega | trivial)) ((by (try dsimp only); first | assumption | omega | trivial)) ((by (try dsimp only); first | assumption | omega | trivial)) hP hD hS hl
                          · skip
                            have g155_69 : ¬ ln9.toInt ≤ ki.toInt := fun h8 => h_9 ((i_le rfl rfl).mpr h8)
                            refine lv_aload_n hx hb d_PartsReader_takeTarget_158 rfl (lv_at hl 0 rfl) ?_
                            refine va_get (D := D) (ci := 6) (v := .ref fo) (C := "DiscMaker$PartsReader") (T := F_PartsReader) (N := 6) hx hb ht9 in_PartsReader hown hK hP 0 rfl rfl 1 (by decide) (ht9 _ k393) (fun _ h9 => h9) rfl d_PartsReader_takeTarget_159 ?_
                            refine lv_aload_n hx hb d_PartsReader_takeTarget_162 rfl (lv_at hl 0 rfl) ?_
                            refine va_get (D := D) (ci := 6) (v := .ref im) (C := "DiscMaker$PartsReader") (T := F_PartsReader) (N := 6) hx hb ht9 in_PartsReader hown hK hP 0 rfl rfl 0 (by decide) (ht9 _ k392) (fun _ h9 => h9) rfl d_PartsReader_takeTarget_163 ?_
                            refine lv_iload hx hb d_PartsReader_takeTarget_166 (lv_at hl 4 rfl) ?_
                            refine lv_iconst (v := 2) hx hb d_PartsReader_takeTarget_168 (by decide) ?_
                            refine lv_iadd hx hb d_PartsReader_takeTarget_169 ?_
                            refine lv_topi (fun v27 e_v27 => ?_)
                            have t_v27 : v27.toInt = nx.toInt + 2 := by rw [e_v27]; exact i_add rfl (by decide) (by omega) (by omega)
                            refine lv_iload hx hb d_PartsReader_takeTarget_170 (lv_at hl 7 rfl) ?_
                            refine lv_iadd hx hb d_PartsReader_takeTarget_172 ?_
                            refine lv_topi (fun v28 e_v28 => ?_)
                            have t_v28 : v28.toInt = v27.toInt + ki.toInt := by rw [e_v28]; exact i_add rfl rfl (by omega) (by omega)
                            have hPc := hP.sub (ws' := [(im, .inr (1, [.ref iq, .int L])), (iq, .inl (cB, n, .inl f))]) [3, 4] rfl
                            have hDc := hD.sub (ws' := [(im, .inr (1, [.ref iq, .int L])), (iq, .inl (cB, n, .inl f))]) [3, 4] (by decide +kernel) rfl
                            have hFc := va_free (wc := [(im, .inr (1, [.ref iq, .int L])), (iq, .inl (cB, n, .inl f))]) hD hS hA [3, 4] rfl
                            have hkc : 0 ≤ 0 := by decide
                            have hks : 0 ≤ 0 := by decide
                            refine va_calli (va_runV (C := "DiscMaker$Bytes") (As := [.int v28]) (rest := [.ref fo]) ⟨hx, hb, hml, hown, hts⟩ (c3_at l D cB cI cJ cZ cN cF H.size im iq n L f v28 (by (try dsimp only); first | assumption | omega | trivial) (by (try dsimp only); first | assumption | omega | trivial)) (cwV 1 hts (lg_goodV k1321 k1065 k1066 k119 kc_Bytes_at) rfl rfl rfl (by decide +kernel) ⟨Nat.le_of_ble_eq_true rfl, Nat.le_of_ble_eq_true rfl⟩) ⟨fun a U g mk q => by obtain ⟨q0, q1, qP, qK, qN, qD⟩ := q; exact ⟨q0, q1, qP, va_K.moved (u := U) (U := U.calling g mk a) (Vm.Alike.refl U.vm) qK, qN.calling, qD⟩, va_recv hK hP (ci := 1) (q0 := 3) rfl rfl, fun U hU hW => ⟨rfl, by rw [hU], by rw [hU]; exact hPc, va_K.moved hW.alike hK, NN.warm hW hN, hDc.weaken (fun _ _ _ _ => trivial)⟩⟩ rfl rfl hl.1 rfl (lv_room (Nat.le_of_ble_eq_true rfl)) d_PartsReader_takeTarget_173 ⟨hkc, hks⟩) hS (fun q _ h => hFc q h) hFc (fun r29 u t H1 locs ht hvm hp_r29 hB hz1 hk1 hS => ?_)
                            obtain ⟨hP1, hD1⟩ := hB
                            rw [ht] at hP1
                            obtain ⟨hP, hD⟩ := va_join (wr := [(h0, .inr (6, [.ref im, .ref fo, .int nm, .int lco, .int tz, .int lc])), (fo, .inr (2, [.ref a1, .ref a2, .int pa, .int de, .int so, .int si, .int se, .int mo, .int ow, .int gr, .int nl, .int kl, .int mk])), (a2, .inl (cB, 400, .inl kf))]) (w1 := [(im, .inr (1, [.ref iq, .int L])), (iq, .inl (cB, n, .inl f))]) hP hD [3, 4] [0, 1, 2] rfl rfl (by decide +kernel) (by decide +kernel) hk1 hFc hP1 hD1
                            clear hPc hDc hFc hP1 hD1 hk1 hz1 hkc hks
                            generalize H1 = H at hP hS ⊢
                            have hP : va_P D CL [(h0, .inr (6, [.ref im, .ref fo, .int nm, .int lco, .int tz, .int lc])), (fo, .inr (2, [.ref a1, .ref a2, .int pa, .int de, .int so, .int si, .int se, .int mo, .int ow, .int gr, .int nl, .int kl, .int mk])), (a2, .inl (cB, 400, .inl kf)), (im, .inr (1, [.ref iq, .int L])), (iq, .inl (cB, n, .inl f))] H := hP
                            have hD : va_D A [(h0, .inr (6, [.ref im, .ref fo, .int nm, .int lco, .int tz, .int lc])), (fo, .inr (2, [.ref a1, .ref a2, .int pa, .int de, .int so, .int si, .int se, .int mo, .int ow, .int gr, .int nl, .int kl, .int mk])), (a2, .inl (cB, 400, .inl kf)), (im, .inr (1, [.ref iq, .int L])), (iq, .inl (cB, n, .inl f))] := hD
                            try dsimp only at hp_r29
                            obtain ⟨hr_30, hv_31⟩ := hp_r29
                            have hPc := hP.sub (ws' := [(fo, .inr (2, [.ref a1, .ref a2, .int pa, .int de, .int so, .int si, .int se, .int mo, .int ow, .int gr, .int nl, .int kl, .int mk])), (a2, .inl (cB, 400, .inl kf))]) [1, 2] rfl
                            have hDc := hD.sub (ws' := [(fo, .inr (2, [.ref a1, .ref a2, .int pa, .int de, .int so, .int si, .int se, .int mo, .int ow, .int gr, .int nl, .int kl, .int mk])), (a2, .inl (cB, 400, .inl kf))]) [1, 2] (by decide +kernel) rfl
                            have hFc := va_free (wc := [(fo, .inr (2, [.ref a1, .ref a2, .int pa, .int de, .int so, .int si, .int se, .int mo, .int ow, .int gr, .int nl, .int kl, .int mk])), (a2, .inl (cB, 400, .inl kf))]) hD hS hA [1, 2] rfl
                            have hkc : 0 ≤ 0 := by decide
                            have hks : 0 ≤ 0 := by decide
                            refine va_callv (va_runV (C := "DiscMaker$Found") (As := [.int r29]) (rest := []) ⟨hx, hb, hml, hown, hts⟩ (c3_addToTarget l D cB cI cJ cZ cN cF H.size fo a1 a2 pa de so si se mo ow gr nl kl mk kf r29 (by (try dsimp only); first | assumption | omega | trivial)) (cwV 1 hts (lg_goodV k1345 k1346 k1347 k141 kc_Found_addToTarget) rfl rfl rfl (by decide +kernel) ⟨Nat.le_of_ble_eq_true rfl, Nat.le_of_ble_eq_true rfl⟩) ⟨fun a U g mk q => by obtain ⟨q0, q1, qP, qK, qN, qD⟩ := q; exact ⟨q0, q1, qP, va_K.moved (u := U) (U := U.calling g mk a) (Vm.Alike.refl U.vm) qK, qN.calling, qD⟩, va_recv hK hP (ci := 2) (q0 := 1) rfl rfl, fun U hU hW => ⟨rfl, by rw [hU], by rw [hU]; exact hPc, va_K.moved hW.alike hK, NN.warm hW hN, hDc.weaken (fun _ _ _ _ => trivial)⟩⟩ rfl rfl hl.1 rfl (lv_room (Nat.le_of_ble_eq_true rfl)) d_PartsReader_takeTarget_176 ⟨hkc, hks⟩) hS (fun q _ h => hFc q h) hFc (fun u t H1 locs ht hvm hp_r32 hB hz1 hk1 hS => ?_)
                            obtain ⟨l2_33, g_34⟩ := u
                            obtain ⟨hP1, hD1⟩ := hB
                            rw [ht] at hP1
                            obtain ⟨hP, hD⟩ := va_join (wr := [(h0, .inr (6, [.ref im, .ref fo, .int nm, .int lco, .int tz, .int lc])), (im, .inr (1, [.ref iq, .int L])), (iq, .inl (cB, n, .inl f))]) (w1 := [(fo, .inr (2, [.ref a1, .ref a2, .int pa, .int de, .int so, .int si, .int se, .int mo, .int ow, .int gr, .int nl, .int l2_33, .int mk])), (a2, .inl (cB, 400, .inl g_34))]) hP hD [1, 2] [0, 3, 4] rfl rfl (by decide +kernel) (by decide +kernel) hk1 hFc hP1 hD1
                            clear hPc hDc hFc hP1 hD1 hk1 hz1 hkc hks
                            generalize H1 = H at hP hS ⊢
                            have hP : va_P D CL [(h0, .inr (6, [.ref im, .ref fo, .int nm, .int lco, .int tz, .int lc])), (im, .inr (1, [.ref iq, .int L])), (iq, .inl (cB, n, .inl f)), (fo, .inr (2, [.ref a1, .ref a2, .int pa, .int de, .int so, .int si, .int se, .int mo, .int ow, .int gr, .int nl, .int l2_33, .int mk])), (a2, .inl (cB, 400, .inl g_34))] H := hP
                            have hD : va_D A [(h0, .inr (6, [.ref im, .ref fo, .int nm, .int lco, .int tz, .int lc])), (im, .inr (1, [.ref iq, .int L])), (iq, .inl (cB, n, .inl f)), (fo, .inr (2, [.ref a1, .ref a2, .int pa, .int de, .int so, .int si, .int se, .int mo, .int ow, .int gr, .int nl, .int l2_33, .int mk])), (a2, .inl (cB, 400, .inl g_34))] := hD
                            try dsimp only at hp_r32
                            have hl2_35 := hp_r32
                            obtain ⟨v36, e_v36⟩ : ∃ z : Int32, z = ki + 1 := ⟨_, rfl⟩
                            refine lv_iinc (v := v36) hx hb d_PartsReader_takeTarget_179 hl (k := 7) rfl e_v36.symm (by decide +kernel) rfl (fun ls hl => ?_)
                            have t_v36 : v36.toInt = ki.toInt + 1 := by rw [e_v36]; exact i_add rfl (by decide) (by omega) (by omega)
                            have hl : lv_has ls 8 [(7, .int v36), (0, .ref h0), (1, .int x), (2, .int y), (3, .int v5), (4, .int nx), (5, .int mk9), (6, .int ln9)] := hl
                            refine lv_goto (tgt := 151) hx hb d_PartsReader_takeTarget_182 (by decide) ?_
                            have hP := hP.sub (ws' := [(h0, .inr (6, [.ref im, .ref fo, .int nm, .int lco, .int tz, .int lc])), (fo, .inr (2, [.ref a1, .ref a2, .int pa, .int de, .int so, .int si, .int se, .int mo, .int ow, .int gr, .int nl, .int l2_33, .int mk])), (a2, .inl (cB, 400, .inl g_34)), (im, .inr (1, [.ref iq, .int L])), (iq, .inl (cB, n, .inl f))]) [0, 3, 4, 1, 2] rfl
                            have hD := hD.sub (ws' := [(h0, .inr (6, [.ref im, .ref fo, .int nm, .int lco, .int tz, .int lc])), (fo, .inr (2, [.ref a1, .ref a2, .int pa, .int de, .int so, .int si, .int se, .int mo, .int ow, .int gr, .int nl, .int l2_33, .int mk])), (a2, .inl (cB, 400, .inl g_34)), (im, .inr (1, [.ref iq, .int L])), (iq, .inl (cB, n, .inl f))]) [0, 3, 4, 1, 2] (by decide +kernel) rfl
                            have hl := lv_sub hl [1, 2, 3, 4, 5, 6, 7, 0] rfl
                            exact ih151 _ (by first | omega | (dsimp only; omega)) v36 l2_33 g_34 _ _ _ rfl ((by (try dsimp only); first | assumption | omega | trivial)) ((by (try dsimp only); first | assumption | omega | trivial)) hP hD hS hl
                        · skip
                          intro kk151
                          have hP := hP.sub (ws' := [(h0, .inr (6, [.ref im, .ref fo, .int nm, .int lco, .int tz, .int lc])), (fo, .inr (2, [.ref a1, .ref a2, .int pa, .int de, .int so, .int si, .int se, .int mo, .int ow, .int gr, .int nl, .int dl, .int mk])), (a2, .inl (cB, 400, .inl df)), (im, .inr (1, [.ref iq, .int L])), (iq, .inl (cB, n, .inl f))]) [0, 1, 2, 3, 4] rfl
                          have hD := hD.sub (ws' := [(h0, .inr (6, [.ref im, .ref fo, .int nm, .int lco, .int tz, .int lc])), (fo, .inr (2, [.ref a1, .ref a2, .int pa, .int de, .int so, .int si, .int se, .int mo, .int ow, .int gr, .int nl, .int dl, .int mk])), (a2, .inl (cB, 400, .inl df)), (im, .inr (1, [.ref iq, .int L])), (iq, .inl (cB, n, .inl f))]) [0, 1, 2, 3, 4] (by decide +kernel) rfl
                          have hl := lv_sub hl [1, 2, 3, 4, 5, 6, 7, 0] rfl
                          exact kk151 _ 0 dl df _ _ _ rfl ((by (try dsimp only); first | assumption | omega | trivial)) ((by (try dsimp only); first | assumption | omega | trivial)) hP hD hS hl
                      · skip
                        have g130_64 : ¬ dt.toInt ≤ 0 := fun h8 => h_9 ((i_le rfl (by decide)).mpr h8)
                        refine lv_aload_n hx hb d_PartsReader_takeTarget_133 rfl (lv_at hl 0 rfl) ?_
                        refine va_get (D := D) (ci := 6) (v := .ref fo) (C := "DiscMaker$PartsReader") (T := F_PartsReader) (N := 6) hx hb ht9 in_PartsReader hown hK hP 0 rfl rfl 1 (by decide) (ht9 _ k393) (fun _ h9 => h9) rfl d_PartsReader_takeTarget_134 ?_
                        refine lv_bipush (v := 46) hx hb d_PartsReader_takeTarget_137 (by decide) ?_
                        have hPc := hP.sub (ws' := [(fo, .inr (2, [.ref a1, .ref a2, .int pa, .int de, .int so, .int si, .int se, .int mo, .int ow, .int gr, .int nl, .int dl, .int mk])), (a2, .inl (cB, 400, .inl df))]) [1, 2] rfl
                        have hDc := hD.sub (ws' := [(fo, .inr (2, [.ref a1, .ref a2, .int pa, .int de, .int so, .int si, .int se, .int mo, .int ow, .int gr, .int nl, .int dl, .int mk])), (a2, .inl (cB, 400, .inl df))]) [1, 2] (by decide +kernel) rfl
                        have hFc := va_free (wc := [(fo, .inr (2, [.ref a1, .ref a2, .int pa, .int de, .int so, .int si, .int se, .int mo, .int ow, .int gr, .int nl, .int dl, .int mk])), (a2, .inl (cB, 400, .inl df))]) hD hS hA [1, 2] rfl
                        have hkc : 0 ≤ 0 := by decide
                        have hks : 0 ≤ 0 := by decide
                        refine va_callv (va_runV (C := "DiscMaker$Found") (As := [.int 46]) (rest := []) ⟨hx, hb, hml, hown, hts⟩ (c3_addToTarget l D cB cI cJ cZ cN cF H.size fo a1 a2 pa de so si se mo ow gr nl dl mk df 46 (by (try dsimp only); first | assumption | omega | trivial)) (cwV 1 hts (lg_goodV k1345 k1346 k1347 k141 kc_Found_addToTarget) rfl rfl rfl (by decide +kernel) ⟨Nat.le_of_ble_eq_true rfl, Nat.le_of_ble_eq_true rfl⟩) ⟨fun a U g mk q => by obtain ⟨q0, q1, qP, qK, qN, qD⟩ := q; exact ⟨q0, q1, qP, va_K.moved (u := U) (U := U.calling g mk a) (Vm.Alike.refl U.vm) qK, qN.calling, qD⟩, va_recv hK hP (ci := 2) (q0 := 1) rfl rfl, fun U hU hW => ⟨rfl, by rw [hU], by rw [hU]; exact hPc, va_K.moved hW.alike hK, NN.warm hW hN, hDc.weaken (fun _ _ _ _ => trivial)⟩⟩ rfl rfl hl.1 rfl (lv_room (Nat.le_of_ble_eq_true rfl)) d_PartsReader_takeTarget_139 ⟨hkc, hks⟩) hS (fun q _ h => hFc q h) hFc (fun u t H1 locs ht hvm hp_r37 hB hz1 hk1 hS => ?_)
                        obtain ⟨l2_38, g_39⟩ := u
                        obtain ⟨hP1, hD1⟩ := hB
                        rw [ht] at hP1
                        obtain ⟨hP, hD⟩ := va_join (wr := [(h0, .inr (6, [.ref im, .ref fo, .int nm, .int lco, .int tz, .int lc])), (im, .inr (1, [.ref iq, .int L])), (iq, .inl (cB, n, .inl f))]) (w1 := [(fo, .inr (2, [.ref a1, .ref a2, .int pa, .int de, .int so, .int si, .int se, .int mo, .int ow, .int gr, .int nl, .int l2_38, .int mk])), (a2, .inl (cB, 400, .inl g_39))]) hP hD [1, 2] [0, 3, 4] rfl rfl (by decide +kernel) (by decide +kernel) hk1 hFc hP1 hD1
                        clear hPc hDc hFc hP1 hD1 hk1 hz1 hkc hks
                        generalize H1 = H at hP hS ⊢
                        have hP : va_P D CL [(h0, .inr (6, [.ref im, .ref fo, .int nm, .int lco, .int tz, .int lc])), (im, .inr (1, [.ref iq, .int L])), (iq, .inl (cB, n, .inl f)), (fo, .inr (2, [.ref a1, .ref a2, .int pa, .int de, .int so, .int si, .int se, .int mo, .int ow, .int gr, .int nl, .int l2_38, .int mk])), (a2, .inl (cB, 400, .inl g_39))] H := hP
                        have hD : va_D A [(h0, .inr (6, [.ref im, .ref fo, .int nm, .int lco, .int tz, .int lc])), (im, .inr (1, [.ref iq, .int L])), (iq, .inl (cB, n, .inl f)), (fo, .inr (2, [.ref a1, .ref a2, .int pa, .int de, .int so, .int si, .int se, .int mo, .int ow, .int gr, .int nl, .int l2_38, .int mk])), (a2, .inl (cB, 400, .inl g_39))] := hD
                        try dsimp only at hp_r37
                        have hl2_40 := hp_r37
                        obtain ⟨v41, e_v41⟩ : ∃ z : Int32, z = dt + (-1) := ⟨_, rfl⟩
                        refine lv_iinc (v := v41) hx hb d_PartsReader_takeTarget_142 hl (k := 7) rfl e_v41.symm (by decide +kernel) rfl (fun ls hl => ?_)
                        have t_v41 : v41.toInt = dt.toInt + (-1) := by rw [e_v41]; exact i_add rfl (by decide) (by omega) (by omega)
                        have hl : lv_has ls 8 [(7, .int v41), (0, .ref h0), (1, .int x), (2, .int y), (3, .int v5), (4, .int nx), (5, .int mk9), (6, .int ln9)] := hl
                        refine lv_goto (tgt := 128) hx hb d_PartsReader_takeTarget_145 (by decide) ?_
                        have hP := hP.sub (ws' := [(h0, .inr (6, [.ref im, .ref fo, .int nm, .int lco, .int tz, .int lc])), (fo, .inr (2, [.ref a1, .ref a2, .int pa, .int de, .int so, .int si, .int se, .int mo, .int ow, .int gr, .int nl, .int l2_38, .int mk])), (a2, .inl (cB, 400, .inl g_39)), (im, .inr (1, [.ref iq, .int L])), (iq, .inl (cB, n, .inl f))]) [0, 3, 4, 1, 2] rfl
                        have hD := hD.sub (ws' := [(h0, .inr (6, [.ref im, .ref fo, .int nm, .int lco, .int tz, .int lc])), (fo, .inr (2, [.ref a1, .ref a2, .int pa, .int de, .int so, .int si, .int se, .int mo, .int ow, .int gr, .int nl, .int l2_38, .int mk])), (a2, .inl (cB, 400, .inl g_39)), (im, .inr (1, [.ref iq, .int L])), (iq, .inl (cB, n, .inl f))]) [0, 3, 4, 1, 2] (by decide +kernel) rfl
                        have hl := lv_sub hl [1, 2, 3, 4, 5, 6, 7, 0] rfl
                        exact ih128 _ (by first | omega | (dsimp only; omega)) v41 l2_38 g_39 _ _ _ rfl ((by (try dsimp only); first | assumption | omega | trivial)) ((by (try dsimp only); first | assumption | omega | trivial)) hP hD hS hl
                    · skip
                      intro kk128
                      have hP := hP.sub (ws' := [(h0, .inr (6, [.ref im, .ref fo, .int nm, .int lco, .int tz, .int lc])), (fo, .inr (2, [.ref a1, .ref a2, .int pa, .int de, .int so, .int si, .int se, .int mo, .int ow, .int gr, .int nl, .int jt, .int mk])), (a2, .inl (cB, 400, .inl jf)), (im, .inr (1, [.ref iq, .int L])), (iq, .inl (cB, n, .inl f))]) [0, 1, 2, 3, 4] rfl
                      have hD := hD.sub (ws' := [(h0, .inr (6, [.ref im, .ref fo, .int nm, .int lco, .int tz, .int lc])), (fo, .inr (2, [.ref a1, .ref a2, .int pa, .int de, .int so, .int si, .int se, .int mo, .int ow, .int gr, .int nl, .int jt, .int mk])), (a2, .inl (cB, 400, .inl jf)), (im, .inr (1, [.ref iq, .int L])), (iq, .inl (cB, n, .inl f))]) [0, 1, 2, 3, 4] (by decide +kernel) rfl
                      have hl := lv_sub hl [1, 2, 3, 4, 5, 6, 7, 0] rfl
                      exact kk128 _ r22 jt jf _ _ _ rfl ((by (try dsimp only); first | assumption | omega | trivial)) ((by (try dsimp only); first | assumption | omega | trivial)) hP hD hS hl
                  · skip
                    intro kk121
                    refine lv_aload_n hx hb d_PartsReader_takeTarget_105 rfl (lv_at hl 0 rfl) ?_
                    refine va_get (D := D) (ci := 6) (v := .int lco) (C := "DiscMaker$PartsReader") (T := F_PartsReader) (N := 6) hx hb ht9 in_PartsReader hown hK hP 0 rfl rfl 3 (by decide) (ht9 _ k396) (fun _ h9 => h9) rfl d_PartsReader_takeTarget_106 ?_
                    refine lv_if_le (tgt := 121) hx hb d_PartsReader_takeTarget_109 (by decide) (fun h_9 => ?_) (fun h_9 => ?_)
                    · skip
                      have g109_107 : lco.toInt ≤ 0 := (i_le rfl (by decide)).mp h_9
                      have hP := hP.sub (ws' := [(h0, .inr (6, [.ref im, .ref fo, .int nm, .int lco, .int tz, .int lc])), (fo, .inr (2, [.ref a1, .ref a2, .int pa, .int de, .int so, .int si, .int se, .int mo, .int ow, .int gr, .int nl, .int ltl, .int mk])), (a2, .inl (cB, 400, .inl lf)), (im, .inr (1, [.ref iq, .int L])), (iq, .inl (cB, n, .inl f))]) [0, 1, 2, 3, 4] rfl
                      have hD := hD.sub (ws' := [(h0, .inr (6, [.ref im, .ref fo, .int nm, .int lco, .int tz, .int lc])), (fo, .inr (2, [.ref a1, .ref a2, .int pa, .int de, .int so, .int si, .int se, .int mo, .int ow, .int gr, .int nl, .int ltl, .int mk])), (a2, .inl (cB, 400, .inl lf)), (im, .inr (1, [.ref iq, .int L])), (iq, .inl (cB, n, .inl f))]) [0, 1, 2, 3, 4] (by decide +kernel) rfl
                      have hl := lv_sub hl [0, 1, 2, 3, 4, 5, 6] rfl
                      exact kk121 _ ltl lf _ _ _ rfl ((by (try dsimp only); first | assumption | omega | trivial)) hP hD hS hl
                    · skip
                      have g109_107 : ¬ lco.toInt ≤ 0 := fun h8 => h_9 ((i_le rfl (by decide)).mpr h8)
                      refine lv_aload_n hx hb d_PartsReader_takeTarget_112 rfl (lv_at hl 0 rfl) ?_
                      refine va_get (D := D) (ci := 6) (v := .ref fo) (C := "DiscMaker$PartsReader") (T := F_PartsReader) (N := 6) hx hb ht9 in_PartsReader hown hK hP 0 rfl rfl 1 (by decide) (ht9 _ k393) (fun _ h9 => h9) rfl d_PartsReader_takeTarget_113 ?_
                      refine lv_bipush (v := 47) hx hb d_PartsReader_takeTarget_116 (by decide) ?_
                      have hPc := hP.sub (ws' := [(fo, .inr (2, [.ref a1, .ref a2, .int pa, .int de, .int so, .int si, .int se, .int mo, .int ow, .int gr, .int nl, .int ltl, .int mk])), (a2, .inl (cB, 400, .inl lf))]) [1, 2] rfl
                      have hDc := hD.sub (ws' := [(fo, .inr (2, [.ref a1, .ref a2, .int pa, .int de, .int so, .int si, .int se, .int mo, .int ow, .int gr, .int nl, .int ltl, .int mk])), (a2, .inl (cB, 400, .inl lf))]) [1, 2] (by decide +kernel) rfl
                      have hFc := va_free (wc := [(fo, .inr (2, [.ref a1, .ref a2, .int pa, .int de, .int so, .int si, .int se, .int mo, .int ow, .int gr, .int nl, .int ltl, .int mk])), (a2, .inl (cB, 400, .inl lf))]) hD hS hA [1, 2] rfl
                      have hkc : 0 ≤ 0 := by decide
                      have hks : 0 ≤ 0 := by decide
                      refine va_callv (va_runV (C := "DiscMaker$Found") (As := [.int 47]) (rest := []) ⟨hx, hb, hml, hown, hts⟩ (c3_addToTarget l D cB cI cJ cZ cN cF H.size fo a1 a2 pa de so si se mo ow gr nl ltl mk lf 47 (by (try dsimp only); first | assumption | omega | trivial)) (cwV 1 hts (lg_goodV k1345 k1346 k1347 k141 kc_Found_addToTarget) rfl rfl rfl (by decide +kernel) ⟨Nat.le_of_ble_eq_true rfl, Nat.le_of_ble_eq_true rfl⟩) ⟨fun a U g mk q => by obtain ⟨q0, q1, qP, qK, qN, qD⟩ := q; exact ⟨q0, q1, qP, va_K.moved (u := U) (U := U.calling g mk a) (Vm.Alike.refl U.vm) qK, qN.calling, qD⟩, va_recv hK hP (ci := 2) (q0 := 1) rfl rfl, fun U hU hW => ⟨rfl, by rw [hU], by rw [hU]; exact hPc, va_K.moved hW.alike hK, NN.warm hW hN, hDc.weaken (fun _ _ _ _ => trivial)⟩⟩ rfl rfl hl.1 rfl (lv_room (Nat.le_of_ble_eq_true rfl)) d_PartsReader_takeTarget_118 ⟨hkc, hks⟩) hS (fun q _ h => hFc q h) hFc (fun u t H1 locs ht hvm hp_r42 hB hz1 hk1 hS => ?_)
                      obtain ⟨l2_43, g_44⟩ := u
                      obtain ⟨hP1, hD1⟩ := hB
                      rw [ht] at hP1
                      obtain ⟨hP, hD⟩ := va_join (wr := [(h0, .inr (6, [.ref im, .ref fo, .int nm, .int lco, .int tz, .int lc])), (im, .inr (1, [.ref iq, .int L])), (iq, .inl (cB, n, .inl f))]) (w1 := [(fo, .inr (2, [.ref a1, .ref a2, .int pa, .int de, .int so, .int si, .int se, .int mo, .int ow, .int gr, .int nl, .int l2_43, .int mk])), (a2, .inl (cB, 400, .inl g_44))]) hP hD [1, 2] [0, 3, 4] rfl rfl (by decide +kernel) (by decide +kernel) hk1 hFc hP1 hD1
                      clear hPc hDc hFc hP1 hD1 hk1 hz1 hkc hks
                      generalize H1 = H at hP hS ⊢
                      have hP : va_P D CL [(h0, .inr (6, [.ref im, .ref fo, .int nm, .int lco, .int tz, .int lc])), (im, .inr (1, [.ref iq, .int L])), (iq, .inl (cB, n, .inl f)), (fo, .inr (2, [.ref a1, .ref a2, .int pa, .int de, .int so, .int si, .int se, .int mo, .int ow, .int gr, .int nl, .int l2_43, .int mk])), (a2, .inl (cB, 400, .inl g_44))] H := hP
                      have hD : va_D A [(h0, .inr (6, [.ref im, .ref fo, .int nm, .int lco, .int tz, .int lc])), (im, .inr (1, [.ref iq, .int L])), (iq, .inl (cB, n, .inl f)), (fo, .inr (2, [.ref a1, .ref a2, .int pa, .int de, .int so, .int si, .int se, .int mo, .int ow, .int gr, .int nl, .int l2_43, .int mk])), (a2, .inl (cB, 400, .inl g_44))] := hD
                      try dsimp only at hp_r42
                      have hl2_45 := hp_r42
                      have hP := hP.sub (ws' := [(h0, .inr (6, [.ref im, .ref fo, .int nm, .int lco, .int tz, .int lc])), (fo, .inr (2, [.ref a1, .ref a2, .int pa, .int de, .int so, .int si, .int se, .int mo, .int ow, .int gr, .int nl, .int l2_43, .int mk])), (a2, .inl (cB, 400, .inl g_44)), (im, .inr (1, [.ref iq, .int L])), (iq, .inl (cB, n, .inl f))]) [0, 3, 4, 1, 2] rfl
                      have hD := hD.sub (ws' := [(h0, .inr (6, [.ref im, .ref fo, .int nm, .int lco, .int tz, .int lc])), (fo, .inr (2, [.ref a1, .ref a2, .int pa, .int de, .int so, .int si, .int se, .int mo, .int ow, .int gr, .int nl, .int l2_43, .int mk])), (a2, .inl (cB, 400, .inl g_44)), (im, .inr (1, [.ref iq, .int L])), (iq, .inl (cB, n, .inl f))]) [0, 3, 4, 1, 2] (by decide +kernel) rfl
                      have hl := lv_sub hl [0, 1, 2, 3, 4, 5, 6] rfl
                      exact kk121 _ l2_43 g_44 _ _ _ rfl ((by (try dsimp only); first | assumption | omega | trivial)) hP hD hS hl
                · skip
                  intro kk102
                  refine lv_aload_n hx hb d_PartsReader_takeTarget_83 rfl (lv_at hl 0 rfl) ?_
                  refine va_get (D := D) (ci := 6) (v := .int lco) (C := "DiscMaker$PartsReader") (T := F_PartsReader) (N := 6) hx hb ht9 in_PartsReader hown hK hP 0 rfl rfl 3 (by decide) (ht9 _ k396) (fun _ h9 => h9) rfl d_PartsReader_takeTarget_84 ?_
                  refine lv_if_ne (tgt := 101) hx hb d_PartsReader_takeTarget_87 (by decide) (fun h_9 => ?_) (fun h_9 => ?_)
                  · skip
                    have g87_116 : ¬ lco.toInt = 0 := fun h8 => h_9 ((i_eq rfl (by decide)).mpr h8)
                    refine lv_iconst (v := 0) hx hb d_PartsReader_takeTarget_101 (by decide) ?_
                    have hP := hP.sub (ws' := [(h0, .inr (6, [.ref im, .ref fo, .int nm, .int lco, .int lta, .int lc])), (fo, .inr (2, [.ref a1, .ref a2, .int pa, .int de, .int so, .int si, .int se, .int mo, .int ow, .int gr, .int nl, .int ltl, .int mk])), (a2, .inl (cB, 400, .inl lf)), (im, .inr (1, [.ref iq, .int L])), (iq, .inl (cB, n, .inl f))]) [0, 1, 2, 3, 4] rfl
                    have hD := hD.sub (ws' := [(h0, .inr (6, [.ref im, .ref fo, .int nm, .int lco, .int lta, .int lc])), (fo, .inr (2, [.ref a1, .ref a2, .int pa, .int de, .int so, .int si, .int se, .int mo, .int ow, .int gr, .int nl, .int ltl, .int mk])), (a2, .inl (cB, 400, .inl lf)), (im, .inr (1, [.ref iq, .int L])), (iq, .inl (cB, n, .inl f))]) [0, 1, 2, 3, 4] (by decide +kernel) rfl
                    have hl := lv_sub hl [0, 1, 2, 3, 4, 5, 6] rfl
                    exact kk102 _ 0 _ _ _ rfl ((by (try dsimp only); first | assumption | omega | trivial)) ((by (try dsimp only); first | assumption | omega | trivial)) hP hD hS hl
                  · skip
                    have g87_116 : lco.toInt = 0 := (i_eq rfl (by decide)).mp h_9
                    refine lv_iload hx hb d_PartsReader_takeTarget_90 (lv_at hl 5 rfl) ?_
                    refine lv_bipush (v := 8) hx hb d_PartsReader_takeTarget_92 (by decide) ?_
                    refine lv_icmp_ne (tgt := 101) hx hb d_PartsReader_takeTarget_94 (by decide) (fun h_9 => ?_) (fun h_9 => ?_)
                    · skip
                      have g94_121 : ¬ mk9.toInt = 8 := fun h8 => h_9 ((i_eq rfl (by decide)).mpr h8)
                      refine lv_iconst (v := 0) hx hb d_PartsReader_takeTarget_101 (by decide) ?_
                      have hP := hP.sub (ws' := [(h0, .inr (6, [.ref im, .ref fo, .int nm, .int lco, .int lta, .int lc])), (fo, .inr (2, [.ref a1, .ref a2, .int pa, .int de, .int so, .int si, .int se, .int mo, .int ow, .int gr, .int nl, .int ltl, .int mk])), (a2, .inl (cB, 400, .inl lf)), (im, .inr (1, [.ref iq, .int L])), (iq, .inl (cB, n, .inl f))]) [0, 1, 2, 3, 4] rfl
                      have hD := hD.sub (ws' := [(h0, .inr (6, [.ref im, .ref fo, .int nm, .int lco, .int lta, .int lc])), (fo, .inr (2, [.ref a1, .ref a2, .int pa, .int de, .int so, .int si, .int se, .int mo, .int ow, .int gr, .int nl, .int ltl, .int mk])), (a2, .inl (cB, 400, .inl lf)), (im, .inr (1, [.ref iq, .int L])), (iq, .inl (cB, n, .inl f))]) [0, 1, 2, 3, 4] (by decide +kernel) rfl
                      have hl := lv_sub hl [0, 1, 2, 3, 4, 5, 6] rfl
                      exact kk102 _ 0 _ _ _ rfl ((by (try dsimp only); first | assumption | omega | trivial)) ((by (try dsimp only); first | assumption | omega | trivial)) hP hD hS hl
                    · skip
                      have g94_121 : mk9.toInt = 8 := (i_eq rfl (by decide)).mp h_9
                      refine lv_iconst (v := 1) hx hb d_PartsReader_takeTarget_97 (by decide) ?_
                      refine lv_goto (tgt := 102) hx hb d_PartsReader_takeTarget_98 (by decide) ?_
                      have hP := hP.sub (ws' := [(h0, .inr (6, [.ref im, .ref fo, .int nm, .int lco, .int lta, .int lc])), (fo, .inr (2, [.ref a1, .ref a2, .int pa, .int de, .int so, .int si, .int se, .int mo, .int ow, .int gr, .int nl, .int ltl, .int mk])), (a2, .inl (cB, 400, .inl lf)), (im, .inr (1, [.ref iq, .int L])), (iq, .inl (cB, n, .inl f))]) [0, 1, 2, 3, 4] rfl
                      have hD := hD.sub (ws' := [(h0, .inr (6, [.ref im, .ref fo, .int nm, .int lco, .int lta, .int lc])), (fo, .inr (2, [.ref a1, .ref a2, .int pa, .int de, .int so, .int si, .int se, .int mo, .int ow, .int gr, .int nl, .int ltl, .int mk])), (a2, .inl (cB, 400, .inl lf)), (im, .inr (1, [.ref iq, .int L])), (iq, .inl (cB, n, .inl f))]) [0, 1, 2, 3, 4] (by decide +kernel) rfl
                      have hl := lv_sub hl [0, 1, 2, 3, 4, 5, 6] rfl
                      exact kk102 _ 1 _ _ _ rfl ((by (try dsimp only); first | assumption | omega | trivial)) ((by (try dsimp only); first | assumption | omega | trivial)) hP hD hS hl
              · skip
                intro kk82
                have hP := hP.sub (ws' := [(h0, .inr (6, [.ref im, .ref fo, .int nm, .int lco, .int lta, .int lc])), (fo, .inr (2, [.ref a1, .ref a2, .int pa, .int de, .int so, .int si, .int se, .int mo, .int ow, .int gr, .int nl, .int ltl, .int mk])), (a2, .inl (cB, 400, .inl lf)), (im, .inr (1, [.ref iq, .int L])), (iq, .inl (cB, n, .inl f))]) [0, 1, 2, 3, 4] rfl
                have hD := hD.sub (ws' := [(h0, .inr (6, [.ref im, .ref fo, .int nm, .int lco, .int lta, .int lc])), (fo, .inr (2, [.ref a1, .ref a2, .int pa, .int de, .int so, .int si, .int se, .int mo, .int ow, .int gr, .int nl, .int ltl, .int mk])), (a2, .inl (cB, 400, .inl lf)), (im, .inr (1, [.ref iq, .int L])), (iq, .inl (cB, n, .inl f))]) [0, 1, 2, 3, 4] (by decide +kernel) rfl
                have hl := lv_sub hl [2, 3, 4, 5, 6, 1, 0] rfl
                exact kk82 _ r10 r14 _ _ _ rfl ((by (try dsimp only); first | assumption | omega | trivial)) ((by (try dsimp only); first | assumption | omega | trivial)) hP hD hS hl
            · skip
              have g77_57 : r19.toInt = 0 := (i_eq rfl (by decide)).mp h_9
              refine lv_iconst (v := 0) hx hb d_PartsReader_takeTarget_80 (by decide) ?_
              have hP9 := hP.sub (ws' := [(h0, .inr (6, [.ref im, .ref fo, .int nm, .int lco, .int lta, .int lc])), (im, .inr (1, [.ref iq, .int L])), (iq, .inl (cB, n, .inl f)), (fo, .inr (2, [.ref a1, .ref a2, .int pa, .int de, .int so, .int si, .int se, .int mo, .int ow, .int gr, .int nl, .int ltl, .int mk])), (a2, .inl (cB, 400, .inl lf))]) [0, 3, 4, 1, 2] rfl
              have hD9 := hD.sub (ws' := [(h0, .inr (6, [.ref im, .ref fo, .int nm, .int lco, .int lta, .int lc])), (im, .inr (1, [.ref iq, .int L])), (iq, .inl (cB, n, .inl f)), (fo, .inr (2, [.ref a1, .ref a2, .int pa, .int de, .int so, .int si, .int se, .int mo, .int ow, .int gr, .int nl, .int ltl, .int mk])), (a2, .inl (cB, 400, .inl lf))]) [0, 3, 4, 1, 2] (by decide +kernel) rfl
              exact W.zret (v := 0) hx hb hr (by first | rfl | decide | exact i_narZ (by omega)) (fun t ht hW => ⟨⟨0, (lco, lta, ltl, lf), rfl, ⟨(by (try dsimp only); first | assumption | omega | trivial), (by (try dsimp only); intro h7; first | (exfalso; omega) | omega | assumption), (by (try dsimp only); intro h7; first | (exfalso; omega) | omega | assumption), (by (try dsimp only); intro h7; first | (exfalso; omega) | omega | assumption), (by (try dsimp only); intro h7; first | (exfalso; omega) | omega | assumption), (by (try dsimp only); intro h7; first | (exfalso; omega) | omega | assumption)⟩, by rw [ht]; exact hP9, hD9⟩, hS.F ht⟩) hS.2.2 d_PartsReader_takeTarget_81
      · skip
        intro kk29
        have hP := hP.sub (ws' := [(h0, .inr (6, [.ref im, .ref fo, .int nm, .int co, .int ta, .int lc])), (fo, .inr (2, [.ref a1, .ref a2, .int pa, .int de, .int so, .int si, .int se, .int mo, .int ow, .int gr, .int nl, .int tl, .int mk])), (a2, .inl (cB, 400, .inl f2)), (im, .inr (1, [.ref iq, .int L])), (iq, .inl (cB, n, .inl f))]) [0, 1, 2, 3, 4] rfl
        have hD := hD.sub (ws' := [(h0, .inr (6, [.ref im, .ref fo, .int nm, .int co, .int ta, .int lc])), (fo, .inr (2, [.ref a1, .ref a2, .int pa, .int de, .int so, .int si, .int se, .int mo, .int ow, .int gr, .int nl, .int tl, .int mk])), (a2, .inl (cB, 400, .inl f2)), (im, .inr (1, [.ref iq, .int L])), (iq, .inl (cB, n, .inl f))]) [0, 1, 2, 3, 4] (by decide +kernel) rfl
        have hl := lv_sub hl [2, 3, 4, 1, 0] rfl
        exact kk29 _ v6 co ta tl f2 _ _ _ rfl ((by (try dsimp only); first | assumption | omega | trivial)) ((by (try dsimp only); first | assumption | omega | trivial)) ((by (try dsimp only); first | assumption | omega | trivial)) ((by (try dsimp only); first | assumption | omega | trivial)) ((by (try dsimp only); first | assumption | omega | trivial)) ((by (try dsimp only); first | assumption | omega | trivial)) hP hD hS hl
    · skip
      have g15_12 : ¬ r2.toInt = 0 := fun h8 => h_9 ((i_eq rfl (by decide)).mpr h8)
      refine lv_iconst (v := 0) hx hb d_PartsReader_takeTarget_18 (by decide) ?_
      have hP9 := hP.sub (ws' := [(h0, .inr (6, [.ref im, .ref fo, .int nm, .int co, .int ta, .int lc])), (im, .inr (1, [.ref iq, .int L])), (iq, .inl (cB, n, .inl f)), (fo, .inr (2, [.ref a1, .ref a2, .int pa, .int de, .int so, .int si, .int se, .int mo, .int ow, .int gr, .int nl, .int tl, .int mk])), (a2, .inl (cB, 400, .inl f2))]) [0, 3, 4, 1, 2] rfl
      have hD9 := hD.sub (ws' := [(h0, .inr (6, [.ref im, .ref fo, .int nm, .int co, .int ta, .int lc])), (im, .inr (1, [.ref iq, .int L])), (iq, .inl (cB, n, .inl f)), (fo, .inr (2, [.ref a1, .ref a2, .int pa, .int de, .int so, .int si, .int se, .int mo, .int ow, .int gr, .int nl, .int tl, .int mk])), (a2, .inl (cB, 400, .inl f2))]) [0, 3, 4, 1, 2] (by decide +kernel) rfl
      exact W.zret (v := 0) hx hb hr (by first | rfl | decide | exact i_narZ (by omega)) (fun t ht hW => ⟨⟨0, (co, ta, tl, f2), rfl, ⟨(by (try dsimp only); first | assumption | omega | trivial), (by (try dsimp only); intro h7; first | (exfalso; omega) | omega | assumption), (by (try dsimp only); intro h7; first | (exfalso; omega) | omega | assumption), (by (try dsimp only); intro h7; first | (exfalso; omega) | omega | assumption), (by (try dsimp only); intro h7; first | (exfalso; omega) | omega | assumption), (by (try dsimp only); intro h7; first | (exfalso; omega) | omega | assumption)⟩, by rw [ht]; exact hP9, hD9⟩, hS.F ht⟩) hS.2.2 d_PartsReader_takeTarget_19

theorem d_PartsReader_takeContinuation_0 : decode b_PartsReader_takeContinuation 0 = .ok (.iload_n 2, 1) := by decide +kernel
theorem d_PartsReader_takeContinuation_1 : decode b_PartsReader_takeContinuation 1 = .ok (.bipush 28, 2) := by decide +kernel
theorem d_PartsReader_takeContinuation_3 : decode b_PartsReader_takeContinuation 3 = .ok (.if_icmp .eq 5, 3) := by decide +kernel
theorem d_PartsReader_takeContinuation_6 : decode b_PartsReader_takeContinuation 6 = .ok (.iconst 0, 1) := by decide +kernel
theorem d_PartsReader_takeContinuation_7 : decode b_PartsReader_takeContinuation 7 = .ok (.ireturn, 1) := by decide +kernel
theorem d_PartsReader_takeContinuation_8 : decode b_PartsReader_takeContinuation 8 = .ok (.iconst 4, 1) := by decide +kernel
theorem d_PartsReader_takeContinuation_9 : decode b_PartsReader_takeContinuation 9 = .ok (.istore_n 3, 1) := by decide +kernel
theorem d_PartsReader_takeContinuation_10 : decode b_PartsReader_takeContinuation 10 = .ok (.iload_n 3, 1) := by decide +kernel
theorem d_PartsReader_takeContinuation_11 : decode b_PartsReader_takeContinuation 11 = .ok (.bipush 28, 2) := by decide +kernel
theorem d_PartsReader_takeContinuation_13 : decode b_PartsReader_takeContinuation 13 = .ok (.if_icmp .ge 25, 3) := by decide +kernel
theorem d_PartsReader_takeContinuation_16 : decode b_PartsReader_takeContinuation 16 = .ok (.aload_n 0, 1) := by decide +kernel
theorem d_PartsReader_takeContinuation_17 : decode b_PartsReader_takeContinuation 17 = .ok (.getfield 9, 3) := by decide +kernel
theorem d_PartsReader_takeContinuation_20 : decode b_PartsReader_takeContinuation 20 = .ok (.iload_n 1, 1) := by decide +kernel
theorem d_PartsReader_takeContinuation_21 : decode b_PartsReader_takeContinuation 21 = .ok (.iload_n 3, 1) := by decide +kernel
theorem d_PartsReader_takeContinuation_22 : decode b_PartsReader_takeContinuation 22 = .ok (.iadd, 1) := by decide +kernel
theorem d_PartsReader_takeContinuation_23 : decode b_PartsReader_takeContinuation 23 = .ok (.iconst 4, 1) := by decide +kernel
theorem d_PartsReader_takeContinuation_24 : decode b_PartsReader_takeContinuation 24 = .ok (.invokevirtual 80, 3) := by decide +kernel
theorem d_PartsReader_takeContinuation_27 : decode b_PartsReader_takeContinuation 27 = .ok (.ifCond .ne 5, 3) := by decide +kernel
theorem d_PartsReader_takeContinuation_30 : decode b_PartsReader_takeContinuation 30 = .ok (.iconst 0, 1) := by decide +kernel
theorem d_PartsReader_takeContinuation_31 : decode b_PartsReader_takeContinuation 31 = .ok (.ireturn, 1) := by decide +kernel
theorem d_PartsReader_takeContinuation_32 : decode b_PartsReader_takeContinuation 32 = .ok (.iinc 3 8, 3) := by decide +kernel
theorem d_PartsReader_takeContinuation_35 : decode b_PartsReader_takeContinuation 35 = .ok (.goto (-25), 3) := by decide +kernel
theorem d_PartsReader_takeContinuation_38 : decode b_PartsReader_takeContinuation 38 = .ok (.aload_n 0, 1) := by decide +kernel
theorem d_PartsReader_takeContinuation_39 : decode b_PartsReader_takeContinuation 39 = .ok (.iload_n 1, 1) := by decide +kernel
theorem d_PartsReader_takeContinuation_40 : decode b_PartsReader_takeContinuation 40 = .ok (.putfield 30, 3) := by decide +kernel
theorem d_PartsReader_takeContinuation_43 : decode b_PartsReader_takeContinuation 43 = .ok (.aload_n 0, 1) := by decide +kernel
theorem d_PartsReader_takeContinuation_44 : decode b_PartsReader_takeContinuation 44 = .ok (.getfield 9, 3) := by decide +kernel
theorem d_PartsReader_takeContinuation_47 : decode b_PartsReader_takeContinuation 47 = .ok (.iload_n 1, 1) := by decide +kernel
theorem d_PartsReader_takeContinuation_48 : decode b_PartsReader_takeContinuation 48 = .ok (.iconst 4, 1) := by decide +kernel
theorem d_PartsReader_takeContinuation_49 : decode b_PartsReader_takeContinuation 49 = .ok (.iadd, 1) := by decide +kernel
theorem d_PartsReader_takeContinuation_50 : decode b_PartsReader_takeContinuation 50 = .ok (.iconst 4, 1) := by decide +kernel
theorem d_PartsReader_takeContinuation_51 : decode b_PartsReader_takeContinuation 51 = .ok (.invokevirtual 43, 3) := by decide +kernel
theorem d_PartsReader_takeContinuation_54 : decode b_PartsReader_takeContinuation 54 = .ok (.istore_n 3, 1) := by decide +kernel
theorem d_PartsReader_takeContinuation_55 : decode b_PartsReader_takeContinuation 55 = .ok (.aload_n 0, 1) := by decide +kernel
theorem d_PartsReader_takeContinuation_56 : decode b_PartsReader_takeContinuation 56 = .ok (.getfield 9, 3) := by decide +kernel
theorem d_PartsReader_takeContinuation_59 : decode b_PartsReader_takeContinuation 59 = .ok (.iload_n 1, 1) := by decide +kernel
theorem d_PartsReader_takeContinuation_60 : decode b_PartsReader_takeContinuation 60 = .ok (.bipush 12, 2) := by decide +kernel
theorem d_PartsReader_takeContinuation_62 : decode b_PartsReader_takeContinuation 62 = .ok (.iadd, 1) := by decide +kernel
theorem d_PartsReader_takeContinuation_63 : decode b_PartsReader_takeContinuation 63 = .ok (.iconst 4, 1) := by decide +kernel
theorem d_PartsReader_takeContinuation_64 : decode b_PartsReader_takeContinuation 64 = .ok (.invokevirtual 43, 3) := by decide +kernel
theorem d_PartsReader_takeContinuation_67 : decode b_PartsReader_takeContinuation 67 = .ok (.i2l, 1) := by decide +kernel
theorem d_PartsReader_takeContinuation_68 : decode b_PartsReader_takeContinuation 68 = .ok (.lstore 4, 2) := by decide +kernel
theorem d_PartsReader_takeContinuation_70 : decode b_PartsReader_takeContinuation 70 = .ok (.aload_n 0, 1) := by decide +kernel
theorem d_PartsReader_takeContinuation_71 : decode b_PartsReader_takeContinuation 71 = .ok (.getfield 9, 3) := by decide +kernel
theorem d_PartsReader_takeContinuation_74 : decode b_PartsReader_takeContinuation 74 = .ok (.iload_n 1, 1) := by decide +kernel
theorem d_PartsReader_takeContinuation_75 : decode b_PartsReader_takeContinuation 75 = .ok (.bipush 20, 2) := by decide +kernel
theorem d_PartsReader_takeContinuation_77 : decode b_PartsReader_takeContinuation 77 = .ok (.iadd, 1) := by decide +kernel
theorem d_PartsReader_takeContinuation_78 : decode b_PartsReader_takeContinuation 78 = .ok (.iconst 4, 1) := by decide +kernel
theorem d_PartsReader_takeContinuation_79 : decode b_PartsReader_takeContinuation 79 = .ok (.invokevirtual 43, 3) := by decide +kernel
theorem d_PartsReader_takeContinuation_82 : decode b_PartsReader_takeContinuation 82 = .ok (.i2l, 1) := by decide +kernel
theorem d_PartsReader_takeContinuation_83 : decode b_PartsReader_takeContinuation 83 = .ok (.lstore 6, 2) := by decide +kernel
theorem d_PartsReader_takeContinuation_85 : decode b_PartsReader_takeContinuation 85 = .ok (.iload_n 3, 1) := by decide +kernel
theorem d_PartsReader_takeContinuation_86 : decode b_PartsReader_takeContinuation 86 = .ok (.ifCond .lt 48, 3) := by decide +kernel
theorem d_PartsReader_takeContinuation_89 : decode b_PartsReader_takeContinuation 89 = .ok (.iload_n 3, 1) := by decide +kernel
theorem d_PartsReader_takeContinuation_90 : decode b_PartsReader_takeContinuation 90 = .ok (.aload_n 0, 1) := by decide +kernel
theorem d_PartsReader_takeContinuation_91 : decode b_PartsReader_takeContinuation 91 = .ok (.getfield 9, 3) := by decide +kernel
theorem d_PartsReader_takeContinuation_94 : decode b_PartsReader_takeContinuation 94 = .ok (.getfield 98, 3) := by decide +kernel
theorem d_PartsReader_takeContinuation_97 : decode b_PartsReader_takeContinuation 97 = .ok (.sipush 2048, 3) := by decide +kernel
theorem d_PartsReader_takeContinuation_100 : decode b_PartsReader_takeContinuation 100 = .ok (.idiv, 1) := by decide +kernel
theorem d_PartsReader_takeContinuation_101 : decode b_PartsReader_takeContinuation 101 = .ok (.if_icmp .ge 33, 3) := by decide +kernel
theorem d_PartsReader_takeContinuation_104 : decode b_PartsReader_takeContinuation 104 = .ok (.lload 4, 2) := by decide +kernel
theorem d_PartsReader_takeContinuation_106 : decode b_PartsReader_takeContinuation 106 = .ok (.lconst 0, 1) := by decide +kernel
theorem d_PartsReader_takeContinuation_107 : decode b_PartsReader_takeContinuation 107 = .ok (.lcmp, 1) := by decide +kernel
theorem d_PartsReader_takeContinuation_108 : decode b_PartsReader_takeContinuation 108 = .ok (.ifCond .lt 26, 3) := by decide +kernel
theorem d_PartsReader_takeContinuation_111 : decode b_PartsReader_takeContinuation 111 = .ok (.lload 6, 2) := by decide +kernel
theorem d_PartsReader_takeContinuation_113 : decode b_PartsReader_takeContinuation 113 = .ok (.lconst 0, 1) := by decide +kernel
theorem d_PartsReader_takeContinuation_114 : decode b_PartsReader_takeContinuation 114 = .ok (.lcmp, 1) := by decide +kernel
theorem d_PartsReader_takeContinuation_115 : decode b_PartsReader_takeContinuation 115 = .ok (.ifCond .lt 19, 3) := by decide +kernel
theorem d_PartsReader_takeContinuation_118 : decode b_PartsReader_takeContinuation 118 = .ok (.lload 4, 2) := by decide +kernel
theorem d_PartsReader_takeContinuation_120 : decode b_PartsReader_takeContinuation 120 = .ok (.lload 6, 2) := by decide +kernel
theorem d_PartsReader_takeContinuation_122 : decode b_PartsReader_takeContinuation 122 = .ok (.ladd, 1) := by decide +kernel
theorem d_PartsReader_takeContinuation_123 : decode b_PartsReader_takeContinuation 123 = .ok (.ldc2_w 101, 3) := by decide +kernel
theorem d_PartsReader_takeContinuation_126 : decode b_PartsReader_takeContinuation 126 = .ok (.lcmp, 1) := by decide +kernel
theorem d_PartsReader_takeContinuation_127 : decode b_PartsReader_takeContinuation 127 = .ok (.ifCond .gt 7, 3) := by decide +kernel
theorem d_PartsReader_takeContinuation_130 : decode b_PartsReader_takeContinuation 130 = .ok (.iconst 1, 1) := by decide +kernel
theorem d_PartsReader_takeContinuation_131 : decode b_PartsReader_takeContinuation 131 = .ok (.goto 4, 3) := by decide +kernel
theorem d_PartsReader_takeContinuation_134 : decode b_PartsReader_takeContinuation 134 = .ok (.iconst 0, 1) := by decide +kernel
theorem d_PartsReader_takeContinuation_135 : decode b_PartsReader_takeContinuation 135 = .ok (.ireturn, 1) := by decide +kernel
set_option maxHeartbeats 4000000 in
set_option maxRecDepth 100000 in
theorem c3_takeContinuation (l : Launch) (D : va_G) (cB cI cJ cZ cN cF : ClassId) (sz : Nat) (h0 : Nat) (fo : Nat) (im : Nat) (iq : Nat) (n : Nat) (L : Int32) (f : Nat → Int32) (nm : Int32) (co : Int32) (ta : Int32) (lc : Int32) (x : Int32) (y : Int32) (hL : 0 ≤ L.toInt ∧ L.toInt ≤ n) (hn : n ≤ 3000000) (hx : 0 ≤ x.toInt ∧ x.toInt ≤ 4000000) (hy : 4 ≤ y.toInt ∧ y.toInt ≤ 255) : Met l y_PartsReader_takeContinuation w_PartsReader_takeContinuation ({ frames := 1, cells := 0, slots := 0, locals := 30 }) (va_Pc [.ref h0, .int x, .int y] (fun U => U.heap.size = sz ∧ va_P D CL [(h0, .inr (6, [.ref im, .ref fo, .int nm, .int co, .int ta, .int lc])), (im, .inr (1, [.ref iq, .int L])), (iq, .inl (cB, n, .inl f))] U.heap ∧ va_K D CL (TY cB cI cJ cZ cN cF) U ∧ NN U ∧ va_D (fun _ => True) [(h0, .inr (6, [.ref im, .ref fo, .int nm, .int co, .int ta, .int lc])), (im, .inr (1, [.ref iq, .int L])), (iq, .inl (cB, n, .inl f))])) (va_Qi (fun (r : Int32) (u : Int32) => match u with | lc2 => (0 ≤ r.toInt ∧ r.toInt ≤ 1) ∧ (r.toInt ≠ 0 → lc2 = x ∧ CEok f L x)) (fun (u : Int32) (t : State) => match u with | lc2 => va_P D CL [(h0, .inr (6, [.ref im, .ref fo, .int nm, .int co, .int ta, .int lc2])), (im, .inr (1, [.ref iq, .int L])), (iq, .inl (cB, n, .inl f))] t.heap ∧ va_D (va_A [(h0, .inr (6, [.ref im, .ref fo, .int nm, .int co, .int ta, .int lc])), (im, .inr (1, [.ref iq, .int L])), (iq, .inl (cB, n, .inl f))] sz) [(h0, .inr (6, [.ref im, .ref fo, .int nm, .int co, .int ta, .int lc2])), (im, .inr (1, [.ref iq, .int L])), (iq, .inl (cB, n, .inl f))]) (va_A [(h0, .inr (6, [.ref im, .ref fo, .int nm, .int co, .int ta, .int lc])), (im, .inr (1, [.ref iq, .int L])), (iq, .inl (cB, n, .inl f))] sz)) 0 0 (va_A [(h0, .inr (6, [.ref im, .ref fo, .int nm, .int co, .int ta, .int lc])), (im, .inr (1, [.ref iq, .int L])), (iq, .inl (cB, n, .inl f))] sz) := by
  refine Met.ofW (cc := b_PartsReader_takeContinuation) (maxL := 8) (ret := some .boolean) (by decide +kernel) rfl ?_
  intro p e s m args below meth c s₁ B hml hv
  obtain ⟨rfl, hsz, hP, hK, hN, hD0⟩ := hv
  have hx := B.exec
  have hb := B.bytes
  have hr := B.returns
  have hts := atoms_spec (ws := w_PartsReader_takeContinuation) B.pre
  have ht9 := fun (w : Cond) (h : w ∈ lw_g) => hts w (List.mem_cons_of_mem _ h)
  have hown : s.vm.findClass "DiscMaker$PartsReader" = some m.cls := findClass_of_methodNamed B.named
  have hlocks := B.notSynchronized
  subst hsz
  have hD := hD0.self (sz := s.heap.size)
  generalize hAe : va_A [(h0, .inr (6, [.ref im, .ref fo, .int nm, .int co, .int ta, .int lc])), (im, .inr (1, [.ref iq, .int L])), (iq, .inl (cB, n, .inl f))] s.heap.size = A at hD ⊢
  have hA : ∀ q : Nat, s.heap.size ≤ q → A q := fun q h => by rw [← hAe]; exact Or.inr h
  have hS : va_S A s.heap s.heap [] := va_S.rf
  have hP : va_P D CL [(h0, .inr (6, [.ref im, .ref fo, .int nm, .int co, .int ta, .int lc])), (im, .inr (1, [.ref iq, .int L])), (iq, .inl (cB, n, .inl f))] s.heap := hP
  have hl := lv_entry [.ref h0, .int x, .int y] (n := 8) (Nat.le_of_ble_eq_true rfl)
  rw [lg_entry_eq]
  generalize (lg_sl [.ref h0, .int x, .int y] ++ List.replicate (8 - (lg_sl [.ref h0, .int x, .int y]).length) Slot.unset).toArray = ls at hl ⊢
  have hl : lv_has ls 8 [(0, .ref h0), (1, .int x), (2, .int y)] := hl
  have L_m1 : ((-1) : Int32).toInt = (-1) := by decide
  have L_0 : (0 : Int32).toInt = 0 := by decide
  have L_1 : (1 : Int32).toInt = 1 := by decide
  have L_4 : (4 : Int32).toInt = 4 := by decide
  have L_8 : (8 : Int32).toInt = 8 := by decide
  have L_12 : (12 : Int32).toInt = 12 := by decide
  have L_20 : (20 : Int32).toInt = 20 := by decide
  have L_28 : (28 : Int32).toInt = 28 := by decide
  have L_2048 : (2048 : Int32).toInt = 2048 := by decide
  refine lv_iload_n hx hb d_PartsReader_takeContinuation_0 rfl (lv_at hl 2 rfl) ?_
  refine lv_bipush (v := 28) hx hb d_PartsReader_takeContinuation_1 (by decide) ?_
  refine lv_icmp_eq (tgt := 8) hx hb d_PartsReader_takeContinuation_3 (by decide) (fun h_9 => ?_) (fun h_9 => ?_)
  · skip
    have g3_3 : y.toInt = 28 := (i_eq rfl (by decide)).mp h_9
    refine lv_iconst (v := 4) hx hb d_PartsReader_takeContinuation_8 (by decide) ?_
    refine lv_istore_n hx hb d_PartsReader_takeContinuation_9 rfl hl (by decide) rfl (fun ls hl => ?_)
    have hl : lv_has ls 8 [(3, .int 4), (0, .ref h0), (1, .int x), (2, .int y)] := hl
    refine lv_iload_n hx hb d_PartsReader_takeContinuation_10 rfl (lv_at hl 0 rfl) ?_
    refine lv_bipush (v := 28) hx hb d_PartsReader_takeContinuation_11 (by decide) ?_
    refine lv_icmp_ge (tgt := 38) hx hb d_PartsReader_takeContinuation_13 (by decide) (fun h_9 => absurd h_9 (by decide)) (fun _ => ?_)
    refine lv_aload_n hx hb d_PartsReader_takeContinuation_16 rfl (lv_at hl 1 rfl) ?_
    refine va_get (D := D) (ci := 6) (v := .ref im) (C := "DiscMaker$PartsReader") (T := F_PartsReader) (N := 6) hx hb ht9 in_PartsReader hown hK hP 0 rfl rfl 0 (by decide) (ht9 _ k392) (fun _ h9 => h9) rfl d_PartsReader_takeContinuation_17 ?_
    refine lv_iload_n hx hb d_PartsReader_takeContinuation_20 rfl (lv_at hl 2 rfl) ?_
    refine lv_iload_n hx hb d_PartsReader_takeContinuation_21 rfl (lv_at hl 0 rfl) ?_
    refine lv_iadd hx hb d_PartsReader_takeContinuation_22 ?_
    refine lv_topi (fun v1 e_v1 => ?_)
    have t_v1 : v1.toInt = x.toInt + 4 := by rw [e_v1]; exact i_add rfl (by decide) (by omega) (by omega)
    refine lv_iconst (v := 4) hx hb d_PartsReader_takeContinuation_23 (by decide) ?_
    have hPc := hP.sub (ws' := [(im, .inr (1, [.ref iq, .int L])), (iq, .inl (cB, n, .inl f))]) [1, 2] rfl
    have hDc := hD.sub (ws' := [(im, .inr (1, [.ref iq, .int L])), (iq, .inl (cB, n, .inl f))]) [1, 2] (by decide +kernel) rfl
    have hFc := va_free (wc := [(im, .inr (1, [.ref iq, .int L])), (iq, .inl (cB, n, .inl f))]) hD hS hA [1, 2] rfl
    have hkc : 0 ≤ 0 := by decide
    have hks : 0 ≤ 0 := by decide
    refine va_calli (va_runV (C := "DiscMaker$Bytes") (As := [.int v1, .int 4]) (rest := []) ⟨hx, hb, hml, hown, hts⟩ (c3_halvesAgree l D cB cI cJ cZ cN cF s.heap.size im iq n L f v1 4 (by (try dsimp only); first | assumption | omega | trivial) (by (try dsimp only); first | assumption | omega | trivial) (by (try dsimp only); first | assumption | omega | trivial) (by (try dsimp only); first | assumption | omega | trivial)) (cwV 2 hts (lg_goodV k1336 k1194 k1195 k119 kc_Bytes_halvesAgree) rfl rfl rfl (by decide +kernel) ⟨Nat.le_of_ble_eq_true rfl, Nat.le_of_ble_eq_true rfl⟩) ⟨fun a U g mk q => by obtain ⟨q0, q1, qP, qK, qN, qD⟩ := q; exact ⟨q0, q1, qP, va_K.moved (u := U) (U := U.calling g mk a) (Vm.Alike.refl U.vm) qK, qN.calling, qD⟩, va_recv hK hP (ci := 1) (q0 := 1) rfl rfl, fun U hU hW => ⟨rfl, by rw [hU], by rw [hU]; exact hPc, va_K.moved hW.alike hK, NN.warm hW hN, hDc.weaken (fun _ _ _ _ => trivial)⟩⟩ rfl rfl hl.1 rfl (lv_room (Nat.le_of_ble_eq_true rfl)) d_PartsReader_takeContinuation_24 ⟨hkc, hks⟩) hS (fun q _ h => hFc q h) hFc (fun r2 u t H1 locs ht hvm hp_r2 hB hz1 hk1 hS => ?_)
    obtain ⟨hP1, hD1⟩ := hB
    rw [ht] at hP1
    obtain ⟨hP, hD⟩ := va_join (wr := [(h0, .inr (6, [.ref im, .ref fo, .int nm, .int co, .int ta, .int lc]))]) (w1 := [(im, .inr (1, [.ref iq, .int L])), (iq, .inl (cB, n, .inl f))]) hP hD [1, 2] [0] rfl rfl (by decide +kernel) (by decide +kernel) hk1 hFc hP1 hD1
    clear hPc hDc hFc hP1 hD1 hk1 hz1 hkc hks
    generalize H1 = H at hP hS ⊢
    have hP : va_P D CL [(h0, .inr (6, [.ref im, .ref fo, .int nm, .int co, .int ta, .int lc])), (im, .inr (1, [.ref iq, .int L])), (iq, .inl (cB, n, .inl f))] H := hP
    have hD : va_D A [(h0, .inr (6, [.ref im, .ref fo, .int nm, .int co, .int ta, .int lc])), (im, .inr (1, [.ref iq, .int L])), (iq, .inl (cB, n, .inl f))] := hD
    try dsimp only at hp_r2
    have hr_3 := hp_r2
    refine lv_if_ne (tgt := 32) hx hb d_PartsReader_takeContinuation_27 (by decide) (fun h_9 => ?_) (fun h_9 => ?_)
    · skip
      have g27_16 : ¬ r2.toInt = 0 := fun h8 => h_9 ((i_eq rfl (by decide)).mpr h8)
      refine lv_iinc (v := 12) hx hb d_PartsReader_takeContinuation_32 hl (k := 0) rfl (by decide) (by decide +kernel) rfl (fun ls hl => ?_)
      have hl : lv_has ls 8 [(3, .int 12), (0, .ref h0), (1, .int x), (2, .int y)] := hl
      refine lv_goto (tgt := 10) hx hb d_PartsReader_takeContinuation_35 (by decide) ?_
      refine lv_iload_n hx hb d_PartsReader_takeContinuation_10 rfl (lv_at hl 0 rfl) ?_
      refine lv_bipush (v := 28) hx hb d_PartsReader_takeContinuation_11 (by decide) ?_
      refine lv_icmp_ge (tgt := 38) hx hb d_PartsReader_takeContinuation_13 (by decide) (fun h_9 => absurd h_9 (by decide)) (fun _ => ?_)
      refine lv_aload_n hx hb d_PartsReader_takeContinuation_16 rfl (lv_at hl 1 rfl) ?_
      refine va_get (D := D) (ci := 6) (v := .ref im) (C := "DiscMaker$PartsReader") (T := F_PartsReader) (N := 6) hx hb ht9 in_PartsReader hown hK hP 0 rfl rfl 0 (by decide) (ht9 _ k392) (fun _ h9 => h9) rfl d_PartsReader_takeContinuation_17 ?_
      refine lv_iload_n hx hb d_PartsReader_takeContinuation_20 rfl (lv_at hl 2 rfl) ?_
      refine lv_iload_n hx hb d_PartsReader_takeContinuation_21 rfl (lv_at hl 0 rfl) ?_
      refine lv_iadd hx hb d_PartsReader_takeContinuation_22 ?_
      refine lv_topi (fun v4 e_v4 => ?_)
      have t_v4 : v4.toInt = x.toInt + 12 := by rw [e_v4]; exact i_add rfl (by decide) (by omega) (by omega)
      refine lv_iconst (v := 4) hx hb d_PartsReader_takeContinuation_23 (by decide) ?_
      have hPc := hP.sub (ws' := [(im, .inr (1, [.ref iq, .int L])), (iq, .inl (cB, n, .inl f))]) [1, 2] rfl
      have hDc := hD.sub (ws' := [(im, .inr (1, [.ref iq, .int L])), (iq, .inl (cB, n, .inl f))]) [1, 2] (by decide +kernel) rfl
      have hFc := va_free (wc := [(im, .inr (1, [.ref iq, .int L])), (iq, .inl (cB, n, .inl f))]) hD hS hA [1, 2] rfl
      have hkc : 0 ≤ 0 := by decide
      have hks : 0 ≤ 0 := by decide
      refine va_calli (va_runV (C := "DiscMaker$Bytes") (As := [.int v4, .int 4]) (rest := []) ⟨hx, hb, hml, hown, hts⟩ (c3_halvesAgree l D cB cI cJ cZ cN cF H.size im iq n L f v4 4 (by (try dsimp only); first | assumption | omega | trivial) (by (try dsimp only); first | assumption | omega | trivial) (by (try dsimp only); first | assumption | omega | trivial) (by (try dsimp only); first | assumption | omega | trivial)) (cwV 2 hts (lg_goodV k1336 k1194 k1195 k119 kc_Bytes_halvesAgree) rfl rfl rfl (by decide +kernel) ⟨Nat.le_of_ble_eq_true rfl, Nat.le_of_ble_eq_true rfl⟩) ⟨fun a U g mk q => by obtain ⟨q0, q1, qP, qK, qN, qD⟩ := q; exact ⟨q0, q1, qP, va_K.moved (u := U) (U := U.calling g mk a) (Vm.Alike.refl U.vm) qK, qN.calling, qD⟩, va_recv hK hP (ci := 1) (q0 := 1) rfl rfl, fun U hU hW => ⟨rfl, by rw [hU], by rw [hU]; exact hPc, va_K.moved hW.alike hK, NN.warm hW hN, hDc.weaken (fun _ _ _ _ => trivial)⟩⟩ rfl rfl hl.1 rfl (lv_room (Nat.le_of_ble_eq_true rfl)) d_PartsReader_takeContinuation_24 ⟨hkc, hks⟩) hS (fun q _ h => hFc q h) hFc (fun r5 u t H1 locs ht hvm hp_r5 hB hz1 hk1 hS => ?_)
      obtain ⟨hP1, hD1⟩ := hB
      rw [ht] at hP1
      obtain ⟨hP, hD⟩ := va_join (wr := [(h0, .inr (6, [.ref im, .ref fo, .int nm, .int co, .int ta, .int lc]))]) (w1 := [(im, .inr (1, [.ref iq, .int L])), (iq, .inl (cB, n, .inl f))]) hP hD [1, 2] [0] rfl rfl (by decide +kernel) (by decide +kernel) hk1 hFc hP1 hD1
      clear hPc hDc hFc hP1 hD1 hk1 hz1 hkc hks
      generalize H1 = H at hP hS ⊢
      have hP : va_P D CL [(h0, .inr (6, [.ref im, .ref fo, .int nm, .int co, .int ta, .int lc])), (im, .inr (1, [.ref iq, .int L])), (iq, .inl (cB, n, .inl f))] H := hP
      have hD : va_D A [(h0, .inr (6, [.ref im, .ref fo, .int nm, .int co, .int ta, .int lc])), (im, .inr (1, [.ref iq, .int L])), (iq, .inl (cB, n, .inl f))] := hD
      try dsimp only at hp_r5
      have hr_6 := hp_r5
      refine lv_if_ne (tgt := 32) hx hb d_PartsReader_takeContinuation_27 (by decide) (fun h_9 => ?_) (fun h_9 => ?_)
      · skip
        have g27_29 : ¬ r5.toInt = 0 := fun h8 => h_9 ((i_eq rfl (by decide)).mpr h8)
        refine lv_iinc (v := 20) hx hb d_PartsReader_takeContinuation_32 hl (k := 0) rfl (by decide) (by decide +kernel) rfl (fun ls hl => ?_)
        have hl : lv_has ls 8 [(3, .int 20), (0, .ref h0), (1, .int x), (2, .int y)] := hl
        refine lv_goto (tgt := 10) hx hb d_PartsReader_takeContinuation_35 (by decide) ?_
        refine lv_iload_n hx hb d_PartsReader_takeContinuation_10 rfl (lv_at hl 0 rfl) ?_
        refine lv_bipush (v := 28) hx hb d_PartsReader_takeContinuation_11 (by decide) ?_
        refine lv_icmp_ge (tgt := 38) hx hb d_PartsReader_takeContinuation_13 (by decide) (fun h_9 => absurd h_9 (by decide)) (fun _ => ?_)
        refine lv_aload_n hx hb d_PartsReader_takeContinuation_16 rfl (lv_at hl 1 rfl) ?_
        refine va_get (D := D) (ci := 6) (v := .ref im) (C := "DiscMaker$PartsReader") (T := F_PartsReader) (N := 6) hx hb ht9 in_PartsReader hown hK hP 0 rfl rfl 0 (by decide) (ht9 _ k392) (fun _ h9 => h9) rfl d_PartsReader_takeContinuation_17 ?_
        refine lv_iload_n hx hb d_PartsReader_takeContinuation_20 rfl (lv_at hl 2 rfl) ?_
        refine lv_iload_n hx hb d_PartsReader_takeContinuation_21 rfl (lv_at hl 0 rfl) ?_
        refine lv_iadd hx hb d_PartsReader_takeContinuation_22 ?_
        refine lv_topi (fun v7 e_v7 => ?_)
        have t_v7 : v7.toInt = x.toInt + 20 := by rw [e_v7]; exact i_add rfl (by decide) (by omega) (by omega)
        refine lv_iconst (v := 4) hx hb d_PartsReader_takeContinuation_23 (by decide) ?_
        have hPc := hP.sub (ws' := [(im, .inr (1, [.ref iq, .int L])), (iq, .inl (cB, n, .inl f))]) [1, 2] rfl
        have hDc := hD.sub (ws' := [(im, .inr (1, [.ref iq, .int L])), (iq, .inl (cB, n, .inl f))]) [1, 2] (by decide +kernel) rfl
        have hFc := va_free (wc := [(im, .inr (1, [.ref iq, .int L])), (iq, .inl (cB, n, .inl f))]) hD hS hA [1, 2] rfl
        have hkc : 0 ≤ 0 := by decide
        have hks : 0 ≤ 0 := by decide
        refine va_calli (va_runV (C := "DiscMaker$Bytes") (As := [.int v7, .int 4]) (rest := []) ⟨hx, hb, hml, hown, hts⟩ (c3_halvesAgree l D cB cI cJ cZ cN cF H.size im iq n L f v7 4 (by (try dsimp only); first | assumption | omega | trivial) (by (try dsimp only); first | assumption | omega | trivial) (by (try dsimp only); first | assumption | omega | trivial) (by (try dsimp only); first | assumption | omega | trivial)) (cwV 2 hts (lg_goodV k1336 k1194 k1195 k119 kc_Bytes_halvesAgree) rfl rfl rfl (by decide +kernel) ⟨Nat.le_of_ble_eq_true rfl, Nat.le_of_ble_eq_true rfl⟩) ⟨fun a U g mk q => by obtain ⟨q0, q1, qP, qK, qN, qD⟩ := q; exact ⟨q0, q1, qP, va_K.moved (u := U) (U := U.calling g mk a) (Vm.Alike.refl U.vm) qK, qN.calling, qD⟩, va_recv hK hP (ci := 1) (q0 := 1) rfl rfl, fun U hU hW => ⟨rfl, by rw [hU], by rw [hU]; exact hPc, va_K.moved hW.alike hK, NN.warm hW hN, hDc.weaken (fun _ _ _ _ => trivial)⟩⟩ rfl rfl hl.1 rfl (lv_room (Nat.le_of_ble_eq_true rfl)) d_PartsReader_takeContinuation_24 ⟨hkc, hks⟩) hS (fun q _ h => hFc q h) hFc (fun r8 u t H1 locs ht hvm hp_r8 hB hz1 hk1 hS => ?_)
        obtain ⟨hP1, hD1⟩ := hB
        rw [ht] at hP1
        obtain ⟨hP, hD⟩ := va_join (wr := [(h0, .inr (6, [.ref im, .ref fo, .int nm, .int co, .int ta, .int lc]))]) (w1 := [(im, .inr (1, [.ref iq, .int L])), (iq, .inl (cB, n, .inl f))]) hP hD [1, 2] [0] rfl rfl (by decide +kernel) (by decide +kernel) hk1 hFc hP1 hD1
        clear hPc hDc hFc hP1 hD1 hk1 hz1 hkc hks
        generalize H1 = H at hP hS ⊢
        have hP : va_P D CL [(h0, .inr (6, [.ref im, .ref fo, .int nm, .int co, .int ta, .int lc])), (im, .inr (1, [.ref iq, .int L])), (iq, .inl (cB, n, .inl f))] H := hP
        have hD : va_D A [(h0, .inr (6, [.ref im, .ref fo, .int nm, .int co, .int ta, .int lc])), (im, .inr (1, [.ref iq, .int L])), (iq, .inl (cB, n, .inl f))] := hD
        try dsimp only at hp_r8
        have hr_9 := hp_r8
        refine lv_if_ne (tgt := 32) hx hb d_PartsReader_takeContinuation_27 (by decide) (fun h_9 => ?_) (fun h_9 => ?_)
        · skip
          have g27_42 : ¬ r8.toInt = 0 := fun h8 => h_9 ((i_eq rfl (by decide)).mpr h8)
          refine lv_iinc (v := 28) hx hb d_PartsReader_takeContinuation_32 hl (k := 0) rfl (by decide) (by decide +kernel) rfl (fun ls hl => ?_)
          have hl : lv_has ls 8 [(3, .int 28), (0, .ref h0), (1, .int x), (2, .int y)] := hl
          refine lv_goto (tgt := 10) hx hb d_PartsReader_takeContinuation_35 (by decide) ?_
          refine lv_iload_n hx hb d_PartsReader_takeContinuation_10 rfl (lv_at hl 0 rfl) ?_
          refine lv_bipush (v := 28) hx hb d_PartsReader_takeContinuation_11 (by decide) ?_
          refine lv_icmp_ge (tgt := 38) hx hb d_PartsReader_takeContinuation_13 (by decide) (fun _ => ?_) (fun h_9 => absurd (by decide) h_9)
          refine lv_aload_n hx hb d_PartsReader_takeContinuation_38 rfl (lv_at hl 1 rfl) ?_
          refine lv_iload_n hx hb d_PartsReader_takeContinuation_39 rfl (lv_at hl 2 rfl) ?_
          refine va_put (D := D) (ci := 6) (v := .int x) (ty := .int) (C := "DiscMaker$PartsReader") (T := F_PartsReader) (N := 6) hx hb ht9 in_PartsReader t_PartsReader t_PartsReader_ok n_PartsReader hown hK hP hD hS 0 rfl rfl 5 (by decide) (ht9 _ k398) (fun _ h9 => h9) rfl (by decide +kernel) rfl rfl (Nat.le_of_ble_eq_true rfl) d_PartsReader_takeContinuation_40 (fun H locs hP hD hS => ?_)
          have hP : va_P D CL [(h0, .inr (6, [.ref im, .ref fo, .int nm, .int co, .int ta, .int x])), (im, .inr (1, [.ref iq, .int L])), (iq, .inl (cB, n, .inl f))] H := hP
          have hD : va_D A [(h0, .inr (6, [.ref im, .ref fo, .int nm, .int co, .int ta, .int x])), (im, .inr (1, [.ref iq, .int L])), (iq, .inl (cB, n, .inl f))] := hD
          refine lv_aload_n hx hb d_PartsReader_takeContinuation_43 rfl (lv_at hl 1 rfl) ?_
          refine va_get (D := D) (ci := 6) (v := .ref im) (C := "DiscMaker$PartsReader") (T := F_PartsReader) (N := 6) hx hb ht9 in_PartsReader hown hK hP 0 rfl rfl 0 (by decide) (ht9 _ k392) (fun _ h9 => h9) rfl d_PartsReader_takeContinuation_44 ?_
          refine lv_iload_n hx hb d_PartsReader_takeContinuation_47 rfl (lv_at hl 2 rfl) ?_
          refine lv_iconst (v := 4) hx hb d_PartsReader_takeContinuation_48 (by decide) ?_
          refine lv_iadd hx hb d_PartsReader_takeContinuation_49 ?_
          refine lv_topi (fun v10 e_v10 => ?_)
          have t_v10 : v10.toInt = x.toInt + 4 := by rw [e_v10]; exact i_add rfl (by decide) (by omega) (by omega)
          refine lv_iconst (v := 4) hx hb d_PartsReader_takeContinuation_50 (by decide) ?_
          have hPc := hP.sub (ws' := [(im, .inr (1, [.ref iq, .int L])), (iq, .inl (cB, n, .inl f))]) [1, 2] rfl
          have hDc := hD.sub (ws' := [(im, .inr (1, [.ref iq, .int L])), (iq, .inl (cB, n, .inl f))]) [1, 2] (by decide +kernel) rfl
          have hFc := va_free (wc := [(im, .inr (1, [.ref iq, .int L])), (iq, .inl (cB, n, .inl f))]) hD hS hA [1, 2] rfl
          have hkc : 0 ≤ 0 := by decide
          have hks : 0 ≤ 0 := by decide
          refine va_calli (va_runV (C := "DiscMaker$Bytes") (As := [.int v10, .int 4]) (rest := []) ⟨hx, hb, hml, hown, hts⟩ (c3_low4 l D cB cI cJ cZ cN cF H.size im iq n L f v10 (by (try dsimp only); first | assumption | omega | trivial) (by (try dsimp only); first | assumption | omega | trivial) (by (try dsimp only); first | assumption | omega | trivial)) (cwV 2 hts (lg_goodV k1337 k1190 k1191 k119 kc_Bytes_low) rfl rfl rfl (by decide +kernel) ⟨Nat.le_of_ble_eq_true rfl, Nat.le_of_ble_eq_true rfl⟩) ⟨fun a U g mk q => by obtain ⟨q0, q1, qP, qK, qN, qD⟩ := q; exact ⟨q0, q1, qP, va_K.moved (u := U) (U := U.calling g mk a) (Vm.Alike.refl U.vm) qK, qN.calling, qD⟩, va_recv hK hP (ci := 1) (q0 := 1) rfl rfl, fun U hU hW => ⟨rfl, by rw [hU], by rw [hU]; exact hPc, va_K.moved hW.alike hK, NN.warm hW hN, hDc.weaken (fun _ _ _ _ => trivial)⟩⟩ rfl rfl hl.1 rfl (lv_room (Nat.le_of_ble_eq_true rfl)) d_PartsReader_takeContinuation_51 ⟨hkc, hks⟩) hS (fun q _ h => hFc q h) hFc (fun r11 u t H1 locs ht hvm hp_r11 hB hz1 hk1 hS => ?_)
          obtain ⟨hP1, hD1⟩ := hB
          rw [ht] at hP1
          obtain ⟨hP, hD⟩ := va_join (wr := [(h0, .inr (6, [.ref im, .ref fo, .int nm, .int co, .int ta, .int x]))]) (w1 := [(im, .inr (1, [.ref iq, .int L])), (iq, .inl (cB, n, .inl f))]) hP hD [1, 2] [0] rfl rfl (by decide +kernel) (by decide +kernel) hk1 hFc hP1 hD1
          clear hPc hDc hFc hP1 hD1 hk1 hz1 hkc hks
          generalize H1 = H at hP hS ⊢
          have hP : va_P D CL [(h0, .inr (6, [.ref im, .ref fo, .int nm, .int co, .int ta, .int x])), (im, .inr (1, [.ref iq, .int L])), (iq, .inl (cB, n, .inl f))] H := hP
          have hD : va_D A [(h0, .inr (6, [.ref im, .ref fo, .int nm, .int co, .int ta, .int x])), (im, .inr (1, [.ref iq, .int L])), (iq, .inl (cB, n, .inl f))] := hD
          try dsimp only at hp_r11
          have hv_12 := hp_r11
          have qr11 : r11.toInt = (low4B f L (x + 4)).toInt := by subst_vars; rfl
          refine lv_istore_n hx hb d_PartsReader_takeContinuation_54 rfl hl (by decide) rfl (fun ls hl => ?_)
          have hl : lv_has ls 8 [(3, .int r11), (0, .ref h0), (1, .int x), (2, .int y)] := hl
          refine lv_aload_n hx hb d_PartsReader_takeContinuation_55 rfl (lv_at hl 1 rfl) ?_
          refine va_get (D := D) (ci := 6) (v := .ref im) (C := "DiscMaker$PartsReader") (T := F_PartsReader) (N := 6) hx hb ht9 in_PartsReader hown hK hP 0 rfl rfl 0 (by decide) (ht9 _ k392) (fun _ h9 => h9) rfl d_PartsReader_takeContinuation_56 ?_
          refine lv_iload_n hx hb d_PartsReader_takeContinuation_59 rfl (lv_at hl 2 rfl) ?_
          refine lv_bipush (v := 12) hx hb d_PartsReader_takeContinuation_60 (by decide) ?_
          refine lv_iadd hx hb d_PartsReader_takeContinuation_62 ?_
          refine lv_topi (fun v13 e_v13 => ?_)
          have t_v13 : v13.toInt = x.toInt + 12 := by rw [e_v13]; exact i_add rfl (by decide) (by omega) (by omega)
          refine lv_iconst (v := 4) hx hb d_PartsReader_takeContinuation_63 (by decide) ?_
          have hPc := hP.sub (ws' := [(im, .inr (1, [.ref iq, .int L])), (iq, .inl (cB, n, .inl f))]) [1, 2] rfl
          have hDc := hD.sub (ws' := [(im, .inr (1, [.ref iq, .int L])), (iq, .inl (cB, n, .inl f))]) [1, 2] (by decide +kernel) rfl
          have hFc := va_free (wc := [(im, .inr (1, [.ref iq, .int L])), (iq, .inl (cB, n, .inl f))]) hD hS hA [1, 2] rfl
          have hkc : 0 ≤ 0 := by decide
          have hks : 0 ≤ 0 := by decide
          refine va_calli (va_runV (C := "DiscMaker$Bytes") (As := [.int v13, .int 4]) (rest := []) ⟨hx, hb, hml, hown, hts⟩ (c3_low4 l D cB cI cJ cZ cN cF H.size im iq n L f v13 (by (try dsimp only); first | assumption | omega | trivial) (by (try dsimp only); first | assumption | omega | trivial) (by (try dsimp only); first | assumption | omega | trivial)) (cwV 2 hts (lg_goodV k1337 k1190 k1191 k119 kc_Bytes_low) rfl rfl rfl (by decide +kernel) ⟨Nat.le_of_ble_eq_true rfl, Nat.le_of_ble_eq_true rfl⟩) ⟨fun a U g mk q => by obtain ⟨q0, q1, qP, qK, qN, qD⟩ := q; exact ⟨q0, q1, qP, va_K.moved (u := U) (U := U.calling g mk a) (Vm.Alike.refl U.vm) qK, qN.calling, qD⟩, va_recv hK hP (ci := 1) (q0 := 1) rfl rfl, fun U hU hW => ⟨rfl, by rw [hU], by rw [hU]; exact hPc, va_K.moved hW.alike hK, NN.warm hW hN, hDc.weaken (fun _ _ _ _ => trivial)⟩⟩ rfl rfl hl.1 rfl (lv_room (Nat.le_of_ble_eq_true rfl)) d_PartsReader_takeContinuation_64 ⟨hkc, hks⟩) hS (fun q _ h => hFc q h) hFc (fun r14 u t H1 locs ht hvm hp_r14 hB hz1 hk1 hS => ?_)
          obtain ⟨hP1, hD1⟩ := hB
          rw [ht] at hP1
          obtain ⟨hP, hD⟩ := va_join (wr := [(h0, .inr (6, [.ref im, .ref fo, .int nm, .int co, .int ta, .int x]))]) (w1 := [(im, .inr (1, [.ref iq, .int L])), (iq, .inl (cB, n, .inl f))]) hP hD [1, 2] [0] rfl rfl (by decide +kernel) (by decide +kernel) hk1 hFc hP1 hD1
          clear hPc hDc hFc hP1 hD1 hk1 hz1 hkc hks
          generalize H1 = H at hP hS ⊢
          have hP : va_P D CL [(h0, .inr (6, [.ref im, .ref fo, .int nm, .int co, .int ta, .int x])), (im, .inr (1, [.ref iq, .int L])), (iq, .inl (cB, n, .inl f))] H := hP
          have hD : va_D A [(h0, .inr (6, [.ref im, .ref fo, .int nm, .int co, .int ta, .int x])), (im, .inr (1, [.ref iq, .int L])), (iq, .inl (cB, n, .inl f))] := hD
          try dsimp only at hp_r14
          have hv_15 := hp_r14
          have qr14 : r14.toInt = (low4B f L (x + 12)).toInt := by subst_vars; rfl
          refine lv_i2l hx hb d_PartsReader_takeContinuation_67 rfl ?_
          refine lv_topl (fun w16 e_w16 => ?_)
          have t_w16 : w16.toInt = r14.toInt ∧ (-2147483648) ≤ r14.toInt ∧ r14.toInt ≤ 2147483647 := by rw [e_w16]; exact ⟨l_i rfl, i_rng _⟩
          refine lv_lstore hx hb d_PartsReader_takeContinuation_68 hl (by decide) rfl (fun ls hl => ?_)
          have hl : lv_has ls 8 [(4, .long w16), (3, .int r11), (0, .ref h0), (1, .int x), (2, .int y)] := hl
          refine lv_aload_n hx hb d_PartsReader_takeContinuation_70 rfl (lv_at hl 2 rfl) ?_
          refine va_get (D := D) (ci := 6) (v := .ref im) (C := "DiscMaker$PartsReader") (T := F_PartsReader) (N := 6) hx hb ht9 in_PartsReader hown hK hP 0 rfl rfl 0 (by decide) (ht9 _ k392) (fun _ h9 => h9) rfl d_PartsReader_takeContinuation_71 ?_
          refine lv_iload_n hx hb d_PartsReader_takeContinuation_74 rfl (lv_at hl 3 rfl) ?_
          refine lv_bipush (v := 20) hx hb d_PartsReader_takeContinuation_75 (by decide) ?_
          refine lv_iadd hx hb d_PartsReader_takeContinuation_77 ?_
          refine lv_topi (fun v17 e_v17 => ?_)
          have t_v17 : v17.toInt = x.toInt + 20 := by rw [e_v17]; exact i_add rfl (by decide) (by omega) (by omega)
          refine lv_iconst (v := 4) hx hb d_PartsReader_takeContinuation_78 (by decide) ?_
          have hPc := hP.sub (ws' := [(im, .inr (1, [.ref iq, .int L])), (iq, .inl (cB, n, .inl f))]) [1, 2] rfl
          have hDc := hD.sub (ws' := [(im, .inr (1, [.ref iq, .int L])), (iq, .inl (cB, n, .inl f))]) [1, 2] (by decide +kernel) rfl
          have hFc := va_free (wc := [(im, .inr (1, [.ref iq, .int L])), (iq, .inl (cB, n, .inl f))]) hD hS hA [1, 2] rfl
          have hkc : 0 ≤ 0 := by decide
          have hks : 0 ≤ 0 := by decide
          refine va_calli (va_runV (C := "DiscMaker$Bytes") (As := [.int v17, .int 4]) (rest := []) ⟨hx, hb, hml, hown, hts⟩ (c3_low4 l D cB cI cJ cZ cN cF H.size im iq n L f v17 (by (try dsimp only); first | assumption | omega | trivial) (by (try dsimp only); first | assumption | omega | trivial) (by (try dsimp only); first | assumption | omega | trivial)) (cwV 2 hts (lg_goodV k1337 k1190 k1191 k119 kc_Bytes_low) rfl rfl rfl (by decide +kernel) ⟨Nat.le_of_ble_eq_true rfl, Nat.le_of_ble_eq_true rfl⟩) ⟨fun a U g mk q => by obtain ⟨q0, q1, qP, qK, qN, qD⟩ := q; exact ⟨q0, q1, qP, va_K.moved (u := U) (U := U.calling g mk a) (Vm.Alike.refl U.vm) qK, qN.calling, qD⟩, va_recv hK hP (ci := 1) (q0 := 1) rfl rfl, fun U hU hW => ⟨rfl, by rw [hU], by rw [hU]; exact hPc, va_K.moved hW.alike hK, NN.warm hW hN, hDc.weaken (fun _ _ _ _ => trivial)⟩⟩ rfl rfl hl.1 rfl (lv_room (Nat.le_of_ble_eq_true rfl)) d_PartsReader_takeContinuation_79 ⟨hkc, hks⟩) hS (fun q _ h => hFc q h) hFc (fun r18 u t H1 locs ht hvm hp_r18 hB hz1 hk1 hS => ?_)
          obtain ⟨hP1, hD1⟩ := hB
          rw [ht] at hP1
          obtain ⟨hP, hD⟩ := va_join (wr := [(h0, .inr (6, [.ref im, .ref fo, .int nm, .int co, .int ta, .int x]))]) (w1 := [(im, .inr (1, [.ref iq, .int L])), (iq, .inl (cB, n, .inl f))]) hP hD [1, 2] [0] rfl rfl (by decide +kernel) (by decide +kernel) hk1 hFc hP1 hD1
          clear hPc hDc hFc hP1 hD1 hk1 hz1 hkc hks
          generalize H1 = H at hP hS ⊢
          have hP : va_P D CL [(h0, .inr (6, [.ref im, .ref fo, .int nm, .int co, .int ta, .int x])), (im, .inr (1, [.ref iq, .int L])), (iq, .inl (cB, n, .inl f))] H := hP
          have hD : va_D A [(h0, .inr (6, [.ref im, .ref fo, .int nm, .int co, .int ta, .int x])), (im, .inr (1, [.ref iq, .int L])), (iq, .inl (cB, n, .inl f))] := hD
          try dsimp only at hp_r18
          have hv_19 := hp_r18
          have qr18 : r18.toInt = (low4B f L (x + 20)).toInt := by subst_vars; rfl
          refine lv_i2l hx hb d_PartsReader_takeContinuation_82 rfl ?_
          refine lv_topl (fun w20 e_w20 => ?_)
          have t_w20 : w20.toInt = r18.toInt ∧ (-2147483648) ≤ r18.toInt ∧ r18.toInt ≤ 2147483647 := by rw [e_w20]; exact ⟨l_i rfl, i_rng _⟩
          refine lv_lstore hx hb d_PartsReader_takeContinuation_83 hl (by decide) rfl (fun ls hl => ?_)
          have hl : lv_has ls 8 [(6, .long w20), (4, .long w16), (3, .int r11), (0, .ref h0), (1, .int x), (2, .int y)] := hl
          refine lv_iload_n hx hb d_PartsReader_takeContinuation_85 rfl (lv_at hl 2 rfl) ?_
          refine lv_if_lt (tgt := 134) hx hb d_PartsReader_takeContinuation_86 (by decide) (fun h_9 => ?_) (fun h_9 => ?_)
          · skip
            have g86_78 : r11.toInt < 0 := (i_lt rfl (by decide)).mp h_9
            refine lv_iconst (v := 0) hx hb d_PartsReader_takeContinuation_134 (by decide) ?_
            have hP9 := hP.sub (ws' := [(h0, .inr (6, [.ref im, .ref fo, .int nm, .int co, .int ta, .int x])), (im, .inr (1, [.ref iq, .int L])), (iq, .inl (cB, n, .inl f))]) [0, 1, 2] rfl
            have hD9 := hD.sub (ws' := [(h0, .inr (6, [.ref im, .ref fo, .int nm, .int co, .int ta, .int x])), (im, .inr (1, [.ref iq, .int L])), (iq, .inl (cB, n, .inl f))]) [0, 1, 2] (by decide +kernel) rfl
            exact W.zret (v := 0) hx hb hr (by first | rfl | decide | exact i_narZ (by omega)) (fun t ht hW => ⟨⟨0, x, rfl, ⟨(by (try dsimp only); first | assumption | omega | trivial), (by (try dsimp only); intro h7; first | (exfalso; omega) | exact ⟨rfl, by unfold CEok; omega⟩)⟩, by rw [ht]; exact hP9, hD9⟩, hS.F ht⟩) hS.2.2 d_PartsReader_takeContinuation_135
          · skip
            have g86_78 : ¬ r11.toInt < 0 := fun h8 => h_9 ((i_lt rfl (by decide)).mpr h8)
            refine lv_iload_n hx hb d_PartsReader_takeContinuation_89 rfl (lv_at hl 2 rfl) ?_
            refine lv_aload_n hx hb d_PartsReader_takeContinuation_90 rfl (lv_at hl 3 rfl) ?_
            refine va_get (D := D) (ci := 6) (v := .ref im) (C := "DiscMaker$PartsReader") (T := F_PartsReader) (N := 6) hx hb ht9 in_PartsReader hown hK hP 0 rfl rfl 0 (by decide) (ht9 _ k392) (fun _ h9 => h9) rfl d_PartsReader_takeContinuation_91 ?_
            refine va_getN (D := D) (ci := 1) (v := .int L) (C := "DiscMaker$Bytes") (T := F_Bytes) (N := 2) hx hb ht9 in_Bytes hown hK hP 1 rfl rfl 1 (by decide) (va_Nw.use rfl (hN _ k262)) (fun _ h9 => h9) rfl d_PartsReader_takeContinuation_94 ?_
            refine lv_sipush (v := 2048) hx hb d_PartsReader_takeContinuation_97 (by decide) ?_
            refine lv_idiv hx hb d_PartsReader_takeContinuation_100 (by decide) ?_
            refine lv_topi (fun v21 e_v21 => ?_)
            have t_v21 : v21.toInt = L.toInt / 2048 := by rw [e_v21]; exact i_div rfl (by decide) (by omega) (by omega)
            refine lv_icmp_ge (tgt := 134) hx hb d_PartsReader_takeContinuation_101 (by decide) (fun h_9 => ?_) (fun h_9 => ?_)
            · skip
              have g101_87 : v21.toInt ≤ r11.toInt := (i_le rfl rfl).mp h_9
              refine lv_iconst (v := 0) hx hb d_PartsReader_takeContinuation_134 (by decide) ?_
              have hP9 := hP.sub (ws' := [(h0, .inr (6, [.ref im, .ref fo, .int nm, .int co, .int ta, .int x])), (im, .inr (1, [.ref iq, .int L])), (iq, .inl (cB, n, .inl f))]) [0, 1, 2] rfl
              have hD9 := hD.sub (ws' := [(h0, .inr (6, [.ref im, .ref fo, .int nm, .int co, .int ta, .int x])), (im, .inr (1, [.ref iq, .int L])), (iq, .inl (cB, n, .inl f))]) [0, 1, 2] (by decide +kernel) rfl
              exact W.zret (v := 0) hx hb hr (by first | rfl | decide | exact i_narZ (by omega)) (fun t ht hW => ⟨⟨0, x, rfl, ⟨(by (try dsimp only); first | assumption | omega | trivial), (by (try dsimp only); intro h7; first | (exfalso; omega) | exact ⟨rfl, by unfold CEok; omega⟩)⟩, by rw [ht]; exact hP9, hD9⟩, hS.F ht⟩) hS.2.2 d_PartsReader_takeContinuation_135
            · skip
              have g101_87 : ¬ v21.toInt ≤ r11.toInt := fun h8 => h_9 ((i_le rfl rfl).mpr h8)
              refine lv_lload hx hb d_PartsReader_takeContinuation_104 (lv_at hl 1 rfl) ?_
              refine lv_lconst (v := 0) hx hb d_PartsReader_takeContinuation_106 rfl ?_
              refine W.lcmp hx hb d_PartsReader_takeContinuation_107 ?_
              refine lv_topi (fun v22 e_v22 => ?_)
              have t_v22 : (v22.toInt = 1 ∧ 0 < w16.toInt) ∨ (v22.toInt = 0 ∧ w16.toInt = 0) ∨ (v22.toInt = -1 ∧ w16.toInt < 0) := by rw [e_v22]; exact l_cmp rfl (by decide)
              refine lv_if_lt (tgt := 134) hx hb d_PartsReader_takeContinuation_108 (by decide) (fun h_9 => ?_) (fun h_9 => ?_)
              · skip
                have g108_93 : v22.toInt < 0 := (i_lt rfl (by decide)).mp h_9
                refine lv_iconst (v := 0) hx hb d_PartsReader_takeContinuation_134 (by decide) ?_
                have hP9 := hP.sub (ws' := [(h0, .inr (6, [.ref im, .ref fo, .int nm, .int co, .int ta, .int x])), (im, .inr (1, [.ref iq, .int L])), (iq, .inl (cB, n, .inl f))]) [0, 1, 2] rfl
                have hD9 := hD.sub (ws' := [(h0, .inr (6, [.ref im, .ref fo, .int nm, .int co, .int ta, .int x])), (im, .inr (1, [.ref iq, .int L])), (iq, .inl (cB, n, .inl f))]) [0, 1, 2] (by decide +kernel) rfl
                exact W.zret (v := 0) hx hb hr (by first | rfl | decide | exact i_narZ (by omega)) (fun t ht hW => ⟨⟨0, x, rfl, ⟨(by (try dsimp only); first | assumption | omega | trivial), (by (try dsimp only); intro h7; first | (exfalso; omega) | exact ⟨rfl, by unfold CEok; omega⟩)⟩, by rw [ht]; exact hP9, hD9⟩, hS.F ht⟩) hS.2.2 d_PartsReader_takeContinuation_135
              · skip
                have g108_93 : ¬ v22.toInt < 0 := fun h8 => h_9 ((i_lt rfl (by decide)).mpr h8)
                refine lv_lload hx hb d_PartsReader_takeContinuation_111 (lv_at hl 0 rfl) ?_
                refine lv_lconst (v := 0) hx hb d_PartsReader_takeContinuation_113 rfl ?_
                refine W.lcmp hx hb d_PartsReader_takeContinuation_114 ?_
                refine lv_topi (fun v23 e_v23 => ?_)
                have t_v23 : (v23.toInt = 1 ∧ 0 < w20.toInt) ∨ (v23.toInt = 0 ∧ w20.toInt = 0) ∨ (v23.toInt = -1 ∧ w20.toInt < 0) := by rw [e_v23]; exact l_cmp rfl (by decide)
                refine lv_if_lt (tgt := 134) hx hb d_PartsReader_takeContinuation_115 (by decide) (fun h_9 => ?_) (fun h_9 => ?_)
                · skip
                  have g115_99 : v23.toInt < 0 := (i_lt rfl (by decide)).mp h_9
                  refine lv_iconst (v := 0) hx hb d_PartsReader_takeContinuation_134 (by decide) ?_
                  have hP9 := hP.sub (ws' := [(h0, .inr (6, [.ref im, .ref fo, .int nm, .int co, .int ta, .int x])), (im, .inr (1, [.ref iq, .int L])), (iq, .inl (cB, n, .inl f))]) [0, 1, 2] rfl
                  have hD9 := hD.sub (ws' := [(h0, .inr (6, [.ref im, .ref fo, .int nm, .int co, .int ta, .int x])), (im, .inr (1, [.ref iq, .int L])), (iq, .inl (cB, n, .inl f))]) [0, 1, 2] (by decide +kernel) rfl
                  exact W.zret (v := 0) hx hb hr (by first | rfl | decide | exact i_narZ (by omega)) (fun t ht hW => ⟨⟨0, x, rfl, ⟨(by (try dsimp only); first | assumption | omega | trivial), (by (try dsimp only); intro h7; first | (exfalso; omega) | exact ⟨rfl, by unfold CEok; omega⟩)⟩, by rw [ht]; exact hP9, hD9⟩, hS.F ht⟩) hS.2.2 d_PartsReader_takeContinuation_135
                · skip
                  have g115_99 : ¬ v23.toInt < 0 := fun h8 => h_9 ((i_lt rfl (by decide)).mpr h8)
                  refine lv_lload hx hb d_PartsReader_takeContinuation_118 (lv_at hl 1 rfl) ?_
                  refine lv_lload hx hb d_PartsReader_takeContinuation_120 (lv_at hl 0 rfl) ?_
                  refine lv_ladd hx hb d_PartsReader_takeContinuation_122 ?_
                  refine lv_topl (fun w24 e_w24 => ?_)
                  have t_w24 : w24.toInt = w16.toInt + w20.toInt := by rw [e_w24]; exact l_add rfl rfl (by omega) (by omega)
                  refine lv_ldc2 (v := 2048) hx hb hown (ht9 _ k1360) d_PartsReader_takeContinuation_123 ?_
                  refine W.lcmp hx hb d_PartsReader_takeContinuation_126 ?_
                  refine lv_topi (fun v25 e_v25 => ?_)
                  have t_v25 : (v25.toInt = 1 ∧ 2048 < w24.toInt) ∨ (v25.toInt = 0 ∧ w24.toInt = 2048) ∨ (v25.toInt = -1 ∧ w24.toInt < 2048) := by rw [e_v25]; exact l_cmp rfl (by decide)
                  refine lv_if_gt (tgt := 134) hx hb d_PartsReader_takeContinuation_127 (by decide) (fun h_9 => ?_) (fun h_9 => ?_)
                  · skip
                    have g127_107 : 0 < v25.toInt := (i_lt (by decide) rfl).mp h_9
                    refine lv_iconst (v := 0) hx hb d_PartsReader_takeContinuation_134 (by decide) ?_
                    have hP9 := hP.sub (ws' := [(h0, .inr (6, [.ref im, .ref fo, .int nm, .int co, .int ta, .int x])), (im, .inr (1, [.ref iq, .int L])), (iq, .inl (cB, n, .inl f))]) [0, 1, 2] rfl
                    have hD9 := hD.sub (ws' := [(h0, .inr (6, [.ref im, .ref fo, .int nm, .int co, .int ta, .int x])), (im, .inr (1, [.ref iq, .int L])), (iq, .inl (cB, n, .inl f))]) [0, 1, 2] (by decide +kernel) rfl
                    exact W.zret (v := 0) hx hb hr (by first | rfl | decide | exact i_narZ (by omega)) (fun t ht hW => ⟨⟨0, x, rfl, ⟨(by (try dsimp only); first | assumption | omega | trivial), (by (try dsimp only); intro h7; first | (exfalso; omega) | exact ⟨rfl, by unfold CEok; omega⟩)⟩, by rw [ht]; exact hP9, hD9⟩, hS.F ht⟩) hS.2.2 d_PartsReader_takeContinuation_135
                  · skip
                    have g127_107 : ¬ 0 < v25.toInt := fun h8 => h_9 ((i_lt (by decide) rfl).mpr h8)
                    refine lv_iconst (v := 1) hx hb d_PartsReader_takeContinuation_130 (by decide) ?_
                    refine lv_goto (tgt := 135) hx hb d_PartsReader_takeContinuation_131 (by decide) ?_
                    have hP9 := hP.sub (ws' := [(h0, .inr (6, [.ref im, .ref fo, .int nm, .int co, .int ta, .int x])), (im, .inr (1, [.ref iq, .int L])), (iq, .inl (cB, n, .inl f))]) [0, 1, 2] rfl
                    have hD9 := hD.sub (ws' := [(h0, .inr (6, [.ref im, .ref fo, .int nm, .int co, .int ta, .int x])), (im, .inr (1, [.ref iq, .int L])), (iq, .inl (cB, n, .inl f))]) [0, 1, 2] (by decide +kernel) rfl
                    exact W.zret (v := 1) hx hb hr (by first | rfl | decide | exact i_narZ (by omega)) (fun t ht hW => ⟨⟨1, x, rfl, ⟨(by (try dsimp only); first | assumption | omega | trivial), (by (try dsimp only); intro h7; first | (exfalso; omega) | exact ⟨rfl, by unfold CEok; omega⟩)⟩, by rw [ht]; exact hP9, hD9⟩, hS.F ht⟩) hS.2.2 d_PartsReader_takeContinuation_135
        · skip
          have g27_42 : r8.toInt = 0 := (i_eq rfl (by decide)).mp h_9
          refine lv_iconst (v := 0) hx hb d_PartsReader_takeContinuation_30 (by decide) ?_
          have hP9 := hP.sub (ws' := [(h0, .inr (6, [.ref im, .ref fo, .int nm, .int co, .int ta, .int lc])), (im, .inr (1, [.ref iq, .int L])), (iq, .inl (cB, n, .inl f))]) [0, 1, 2] rfl
          have hD9 := hD.sub (ws' := [(h0, .inr (6, [.ref im, .ref fo, .int nm, .int co, .int ta, .int lc])), (im, .inr (1, [.ref iq, .int L])), (iq, .inl (cB, n, .inl f))]) [0, 1, 2] (by decide +kernel) rfl
          exact W.zret (v := 0) hx hb hr (by first | rfl | decide | exact i_narZ (by omega)) (fun t ht hW => ⟨⟨0, lc, rfl, ⟨(by (try dsimp only); first | assumption | omega | trivial), (by (try dsimp only); intro h7; first | (exfalso; omega) | exact ⟨rfl, by unfold CEok; omega⟩)⟩, by rw [ht]; exact hP9, hD9⟩, hS.F ht⟩) hS.2.2 d_PartsReader_takeContinuation_31
      · skip
        have g27_29 : r5.toInt = 0 := (i_eq rfl (by decide)).mp h_9
        refine lv_iconst (v := 0) hx hb d_PartsReader_takeContinuation_30 (by decide) ?_
        have hP9 := hP.sub (ws' := [(h0, .inr (6, [.ref im, .ref fo, .int nm, .int co, .int ta, .int lc])), (im, .inr (1, [.ref iq, .int L])), (iq, .inl (cB, n, .inl f))]) [0, 1, 2] rfl
        have hD9 := hD.sub (ws' := [(h0, .inr (6, [.ref im, .ref fo, .int nm, .int co, .int ta, .int lc])), (im, .inr (1, [.ref iq, .int L])), (iq, .inl (cB, n, .inl f))]) [0, 1, 2] (by decide +kernel) rfl
        exact W.zret (v := 0) hx hb hr (by first | rfl | decide | exact i_narZ (by omega)) (fun t ht hW => ⟨⟨0, lc, rfl, ⟨(by (try dsimp only); first | assumption | omega | trivial), (by (try dsimp only); intro h7; first | (exfalso; omega) | exact ⟨rfl, by unfold CEok; omega⟩)⟩, by rw [ht]; exact hP9, hD9⟩, hS.F ht⟩) hS.2.2 d_PartsReader_takeContinuation_31
    · skip
      have g27_16 : r2.toInt = 0 := (i_eq rfl (by decide)).mp h_9
      refine lv_iconst (v := 0) hx hb d_PartsReader_takeContinuation_30 (by decide) ?_
      have hP9 := hP.sub (ws' := [(h0, .inr (6, [.ref im, .ref fo, .int nm, .int co, .int ta, .int lc])), (im, .inr (1, [.ref iq, .int L])), (iq, .inl (cB, n, .inl f))]) [0, 1, 2] rfl
      have hD9 := hD.sub (ws' := [(h0, .inr (6, [.ref im, .ref fo, .int nm, .int co, .int ta, .int lc])), (im, .inr (1, [.ref iq, .int L])), (iq, .inl (cB, n, .inl f))]) [0, 1, 2] (by decide +kernel) rfl
      exact W.zret (v := 0) hx hb hr (by first | rfl | decide | exact i_narZ (by omega)) (fun t ht hW => ⟨⟨0, lc, rfl, ⟨(by (try dsimp only); first | assumption | omega | trivial), (by (try dsimp only); intro h7; first | (exfalso; omega) | exact ⟨rfl, by unfold CEok; omega⟩)⟩, by rw [ht]; exact hP9, hD9⟩, hS.F ht⟩) hS.2.2 d_PartsReader_takeContinuation_31
  · skip
    have g3_3 : ¬ y.toInt = 28 := fun h8 => h_9 ((i_eq rfl (by decide)).mpr h8)
    refine lv_iconst (v := 0) hx hb d_PartsReader_takeContinuation_6 (by decide) ?_
    have hP9 := hP.sub (ws' := [(h0, .inr (6, [.ref im, .ref fo, .int nm, .int co, .int ta, .int lc])), (im, .inr (1, [.ref iq, .int L])), (iq, .inl (cB, n, .inl f))]) [0, 1, 2] rfl
    have hD9 := hD.sub (ws' := [(h0, .inr (6, [.ref im, .ref fo, .int nm, .int co, .int ta, .int lc])), (im, .inr (1, [.ref iq, .int L])), (iq, .inl (cB, n, .inl f))]) [0, 1, 2] (by decide +kernel) rfl
    exact W.zret (v := 0) hx hb hr (by first | rfl | decide | exact i_narZ (by omega)) (fun t ht hW => ⟨⟨0, lc, rfl, ⟨(by (try dsimp only); first | assumption | omega | trivial), (by (try dsimp only); intro h7; first | (exfalso; omega) | exact ⟨rfl, by unfold CEok; omega⟩)⟩, by rw [ht]; exact hP9, hD9⟩, hS.F ht⟩) hS.2.2 d_PartsReader_takeContinuation_7
