theorem d_DiscMaker_isLetter_0 : decode b_DiscMaker_isLetter 0 = .ok (.iload_n 0, 1) := by decide +kernel
theorem d_DiscMaker_isLetter_1 : decode b_DiscMaker_isLetter 1 = .ok (.bipush 97, 2) := by decide +kernel
theorem d_DiscMaker_isLetter_3 : decode b_DiscMaker_isLetter 3 = .ok (.if_icmp .lt 9, 3) := by decide +kernel
theorem d_DiscMaker_isLetter_6 : decode b_DiscMaker_isLetter 6 = .ok (.iload_n 0, 1) := by decide +kernel
theorem d_DiscMaker_isLetter_7 : decode b_DiscMaker_isLetter 7 = .ok (.bipush 122, 2) := by decide +kernel
theorem d_DiscMaker_isLetter_9 : decode b_DiscMaker_isLetter 9 = .ok (.if_icmp .le 15, 3) := by decide +kernel
theorem d_DiscMaker_isLetter_12 : decode b_DiscMaker_isLetter 12 = .ok (.iload_n 0, 1) := by decide +kernel
theorem d_DiscMaker_isLetter_13 : decode b_DiscMaker_isLetter 13 = .ok (.bipush 65, 2) := by decide +kernel
theorem d_DiscMaker_isLetter_15 : decode b_DiscMaker_isLetter 15 = .ok (.if_icmp .lt 13, 3) := by decide +kernel
theorem d_DiscMaker_isLetter_18 : decode b_DiscMaker_isLetter 18 = .ok (.iload_n 0, 1) := by decide +kernel
theorem d_DiscMaker_isLetter_19 : decode b_DiscMaker_isLetter 19 = .ok (.bipush 90, 2) := by decide +kernel
theorem d_DiscMaker_isLetter_21 : decode b_DiscMaker_isLetter 21 = .ok (.if_icmp .gt 7, 3) := by decide +kernel
theorem d_DiscMaker_isLetter_24 : decode b_DiscMaker_isLetter 24 = .ok (.iconst 1, 1) := by decide +kernel
theorem d_DiscMaker_isLetter_25 : decode b_DiscMaker_isLetter 25 = .ok (.goto 4, 3) := by decide +kernel
theorem d_DiscMaker_isLetter_28 : decode b_DiscMaker_isLetter 28 = .ok (.iconst 0, 1) := by decide +kernel
theorem d_DiscMaker_isLetter_29 : decode b_DiscMaker_isLetter 29 = .ok (.ireturn, 1) := by decide +kernel
set_option maxHeartbeats 4000000 in
set_option maxRecDepth 100000 in
theorem c3_isLetter (l : Launch) (D : va_G) (cB cI cJ cZ cN cF : ClassId) (sz : Nat) (x : Int32) : Met l y_DiscMaker_isLetter w_DiscMaker_isLetter ({ frames := 0, cells := 0, slots := 0, locals := 0 }) (va_Pc [.int x] (fun U => U.heap.size = sz ∧ va_P D CL [] U.heap ∧ va_K D CL (TY cB cI cJ cZ cN cF) U ∧ NN U ∧ va_D (fun _ => True) [])) (va_Qi (fun (r : Int32) (u : Unit) => (0 ≤ r.toInt ∧ r.toInt ≤ 1) ∧ (BoolIs r (isLet x.toInt))) (fun (u : Unit) (t : State) => match u with | () => va_P D CL [] t.heap ∧ va_D (va_A [] sz) []) (va_A [] sz)) 0 0 (va_A [] sz) := by
  refine Met.ofW (cc := b_DiscMaker_isLetter) (maxL := 1) (ret := some .boolean) (by decide +kernel) rfl ?_
  intro p e s m args below meth c s₁ B hml hv
  obtain ⟨rfl, hsz, hP, hK, hN, hD0⟩ := hv
  have hx := B.exec
  have hb := B.bytes
  have hr := B.returns
  have hts := atoms_spec (ws := w_DiscMaker_isLetter) B.pre
  have ht9 := fun (w : Cond) (h : w ∈ lw_g) => hts w (List.mem_cons_of_mem _ h)
  have hown : s.vm.findClass "DiscMaker" = some m.cls := findClass_of_methodNamed B.named
  have hlocks := B.notSynchronized
  subst hsz
  have hD := hD0.self (sz := s.heap.size)
  generalize hAe : va_A [] s.heap.size = A at hD ⊢
  have hA : ∀ q : Nat, s.heap.size ≤ q → A q := fun q h => by rw [← hAe]; exact Or.inr h
  have hS : va_S A s.heap s.heap [] := va_S.rf
  have hP : va_P D CL [] s.heap := hP
  have hl := lv_entry [.int x] (n := 1) (Nat.le_of_ble_eq_true rfl)
  rw [lg_entry_eq]
  generalize (lg_sl [.int x] ++ List.replicate (1 - (lg_sl [.int x]).length) Slot.unset).toArray = ls at hl ⊢
  have hl : lv_has ls 1 [(0, .int x)] := hl
  have L_m1 : ((-1) : Int32).toInt = (-1) := by decide
  have L_0 : (0 : Int32).toInt = 0 := by decide
  have L_1 : (1 : Int32).toInt = 1 := by decide
  have L_65 : (65 : Int32).toInt = 65 := by decide
  have L_90 : (90 : Int32).toInt = 90 := by decide
  have L_97 : (97 : Int32).toInt = 97 := by decide
  have L_122 : (122 : Int32).toInt = 122 := by decide
  refine lv_iload_n hx hb d_DiscMaker_isLetter_0 rfl (lv_at hl 0 rfl) ?_
  refine lv_bipush (v := 97) hx hb d_DiscMaker_isLetter_1 (by decide) ?_
  refine lv_icmp_lt (tgt := 12) hx hb d_DiscMaker_isLetter_3 (by decide) (fun h_9 => ?_) (fun h_9 => ?_)
  · skip
    have g3_3 : x.toInt < 97 := (i_lt rfl (by decide)).mp h_9
    refine lv_iload_n hx hb d_DiscMaker_isLetter_12 rfl (lv_at hl 0 rfl) ?_
    refine lv_bipush (v := 65) hx hb d_DiscMaker_isLetter_13 (by decide) ?_
    refine lv_icmp_lt (tgt := 28) hx hb d_DiscMaker_isLetter_15 (by decide) (fun h_9 => ?_) (fun h_9 => ?_)
    · skip
      have g15_6 : x.toInt < 65 := (i_lt rfl (by decide)).mp h_9
      refine lv_iconst (v := 0) hx hb d_DiscMaker_isLetter_28 (by decide) ?_
      have hP9 := hP.sub (ws' := []) [] rfl
      have hD9 := hD.sub (ws' := []) [] (by decide +kernel) rfl
      exact W.zret (v := 0) hx hb hr (by first | rfl | decide | exact i_narZ (by omega)) (fun t ht hW => ⟨⟨0, (), rfl, ⟨(by (try dsimp only); first | assumption | omega | trivial), (by (try dsimp only); unfold BoolIs isLet; omega)⟩, by rw [ht]; exact hP9, hD9⟩, hS.F ht⟩) hS.2.2 d_DiscMaker_isLetter_29
    · skip
      have g15_6 : ¬ x.toInt < 65 := fun h8 => h_9 ((i_lt rfl (by decide)).mpr h8)
      refine lv_iload_n hx hb d_DiscMaker_isLetter_18 rfl (lv_at hl 0 rfl) ?_
      refine lv_bipush (v := 90) hx hb d_DiscMaker_isLetter_19 (by decide) ?_
      refine lv_icmp_gt (tgt := 28) hx hb d_DiscMaker_isLetter_21 (by decide) (fun h_9 => ?_) (fun h_9 => ?_)
      · skip
        have g21_11 : 90 < x.toInt := (i_lt (by decide) rfl).mp h_9
        refine lv_iconst (v := 0) hx hb d_DiscMaker_isLetter_28 (by decide) ?_
        have hP9 := hP.sub (ws' := []) [] rfl
        have hD9 := hD.sub (ws' := []) [] (by decide +kernel) rfl
        exact W.zret (v := 0) hx hb hr (by first | rfl | decide | exact i_narZ (by omega)) (fun t ht hW => ⟨⟨0, (), rfl, ⟨(by (try dsimp only); first | assumption | omega | trivial), (by (try dsimp only); unfold BoolIs isLet; omega)⟩, by rw [ht]; exact hP9, hD9⟩, hS.F ht⟩) hS.2.2 d_DiscMaker_isLetter_29
      · skip
        have g21_11 : ¬ 90 < x.toInt := fun h8 => h_9 ((i_lt (by decide) rfl).mpr h8)
        refine lv_iconst (v := 1) hx hb d_DiscMaker_isLetter_24 (by decide) ?_
        refine lv_goto (tgt := 29) hx hb d_DiscMaker_isLetter_25 (by decide) ?_
        have hP9 := hP.sub (ws' := []) [] rfl
        have hD9 := hD.sub (ws' := []) [] (by decide +kernel) rfl
        exact W.zret (v := 1) hx hb hr (by first | rfl | decide | exact i_narZ (by omega)) (fun t ht hW => ⟨⟨1, (), rfl, ⟨(by (try dsimp only); first | assumption | omega | trivial), (by (try dsimp only); unfold BoolIs isLet; omega)⟩, by rw [ht]; exact hP9, hD9⟩, hS.F ht⟩) hS.2.2 d_DiscMaker_isLetter_29
  · skip
    have g3_3 : ¬ x.toInt < 97 := fun h8 => h_9 ((i_lt rfl (by decide)).mpr h8)
    refine lv_iload_n hx hb d_DiscMaker_isLetter_6 rfl (lv_at hl 0 rfl) ?_
    refine lv_bipush (v := 122) hx hb d_DiscMaker_isLetter_7 (by decide) ?_
    refine lv_icmp_le (tgt := 24) hx hb d_DiscMaker_isLetter_9 (by decide) (fun h_9 => ?_) (fun h_9 => ?_)
    · skip
      have g9_19 : x.toInt ≤ 122 := (i_le rfl (by decide)).mp h_9
      refine lv_iconst (v := 1) hx hb d_DiscMaker_isLetter_24 (by decide) ?_
      refine lv_goto (tgt := 29) hx hb d_DiscMaker_isLetter_25 (by decide) ?_
      have hP9 := hP.sub (ws' := []) [] rfl
      have hD9 := hD.sub (ws' := []) [] (by decide +kernel) rfl
      exact W.zret (v := 1) hx hb hr (by first | rfl | decide | exact i_narZ (by omega)) (fun t ht hW => ⟨⟨1, (), rfl, ⟨(by (try dsimp only); first | assumption | omega | trivial), (by (try dsimp only); unfold BoolIs isLet; omega)⟩, by rw [ht]; exact hP9, hD9⟩, hS.F ht⟩) hS.2.2 d_DiscMaker_isLetter_29
    · skip
      have g9_19 : ¬ x.toInt ≤ 122 := fun h8 => h_9 ((i_le rfl (by decide)).mpr h8)
      refine lv_iload_n hx hb d_DiscMaker_isLetter_12 rfl (lv_at hl 0 rfl) ?_
      refine lv_bipush (v := 65) hx hb d_DiscMaker_isLetter_13 (by decide) ?_
      refine lv_icmp_lt (tgt := 28) hx hb d_DiscMaker_isLetter_15 (by decide) (fun h_9 => ?_) (fun h_9 => ?_)
      · skip
        have g15_25 : x.toInt < 65 := (i_lt rfl (by decide)).mp h_9
        refine lv_iconst (v := 0) hx hb d_DiscMaker_isLetter_28 (by decide) ?_
        have hP9 := hP.sub (ws' := []) [] rfl
        have hD9 := hD.sub (ws' := []) [] (by decide +kernel) rfl
        exact W.zret (v := 0) hx hb hr (by first | rfl | decide | exact i_narZ (by omega)) (fun t ht hW => ⟨⟨0, (), rfl, ⟨(by (try dsimp only); first | assumption | omega | trivial), (by (try dsimp only); unfold BoolIs isLet; omega)⟩, by rw [ht]; exact hP9, hD9⟩, hS.F ht⟩) hS.2.2 d_DiscMaker_isLetter_29
      · skip
        have g15_25 : ¬ x.toInt < 65 := fun h8 => h_9 ((i_lt rfl (by decide)).mpr h8)
        refine lv_iload_n hx hb d_DiscMaker_isLetter_18 rfl (lv_at hl 0 rfl) ?_
        refine lv_bipush (v := 90) hx hb d_DiscMaker_isLetter_19 (by decide) ?_
        refine lv_icmp_gt (tgt := 28) hx hb d_DiscMaker_isLetter_21 (by decide) (fun h_9 => ?_) (fun h_9 => ?_)
        · skip
          have g21_30 : 90 < x.toInt := (i_lt (by decide) rfl).mp h_9
          refine lv_iconst (v := 0) hx hb d_DiscMaker_isLetter_28 (by decide) ?_
          have hP9 := hP.sub (ws' := []) [] rfl
          have hD9 := hD.sub (ws' := []) [] (by decide +kernel) rfl
          exact W.zret (v := 0) hx hb hr (by first | rfl | decide | exact i_narZ (by omega)) (fun t ht hW => ⟨⟨0, (), rfl, ⟨(by (try dsimp only); first | assumption | omega | trivial), (by (try dsimp only); unfold BoolIs isLet; omega)⟩, by rw [ht]; exact hP9, hD9⟩, hS.F ht⟩) hS.2.2 d_DiscMaker_isLetter_29
        · skip
          have g21_30 : ¬ 90 < x.toInt := fun h8 => h_9 ((i_lt (by decide) rfl).mpr h8)
          refine lv_iconst (v := 1) hx hb d_DiscMaker_isLetter_24 (by decide) ?_
          refine lv_goto (tgt := 29) hx hb d_DiscMaker_isLetter_25 (by decide) ?_
          have hP9 := hP.sub (ws' := []) [] rfl
          have hD9 := hD.sub (ws' := []) [] (by decide +kernel) rfl
          exact W.zret (v := 1) hx hb hr (by first | rfl | decide | exact i_narZ (by omega)) (fun t ht hW => ⟨⟨1, (), rfl, ⟨(by (try dsimp only); first | assumption | omega | trivial), (by (try dsimp only); unfold BoolIs isLet; omega)⟩, by rw [ht]; exact hP9, hD9⟩, hS.F ht⟩) hS.2.2 d_DiscMaker_isLetter_29

theorem d_DiscMaker_isDigit_0 : decode b_DiscMaker_isDigit 0 = .ok (.iload_n 0, 1) := by decide +kernel
theorem d_DiscMaker_isDigit_1 : decode b_DiscMaker_isDigit 1 = .ok (.bipush 48, 2) := by decide +kernel
theorem d_DiscMaker_isDigit_3 : decode b_DiscMaker_isDigit 3 = .ok (.if_icmp .lt 13, 3) := by decide +kernel
theorem d_DiscMaker_isDigit_6 : decode b_DiscMaker_isDigit 6 = .ok (.iload_n 0, 1) := by decide +kernel
theorem d_DiscMaker_isDigit_7 : decode b_DiscMaker_isDigit 7 = .ok (.bipush 57, 2) := by decide +kernel
theorem d_DiscMaker_isDigit_9 : decode b_DiscMaker_isDigit 9 = .ok (.if_icmp .gt 7, 3) := by decide +kernel
theorem d_DiscMaker_isDigit_12 : decode b_DiscMaker_isDigit 12 = .ok (.iconst 1, 1) := by decide +kernel
theorem d_DiscMaker_isDigit_13 : decode b_DiscMaker_isDigit 13 = .ok (.goto 4, 3) := by decide +kernel
theorem d_DiscMaker_isDigit_16 : decode b_DiscMaker_isDigit 16 = .ok (.iconst 0, 1) := by decide +kernel
theorem d_DiscMaker_isDigit_17 : decode b_DiscMaker_isDigit 17 = .ok (.ireturn, 1) := by decide +kernel
set_option maxHeartbeats 4000000 in
set_option maxRecDepth 100000 in
theorem c3_isDigit (l : Launch) (D : va_G) (cB cI cJ cZ cN cF : ClassId) (sz : Nat) (x : Int32) : Met l y_DiscMaker_isDigit w_DiscMaker_isDigit ({ frames := 0, cells := 0, slots := 0, locals := 0 }) (va_Pc [.int x] (fun U => U.heap.size = sz ∧ va_P D CL [] U.heap ∧ va_K D CL (TY cB cI cJ cZ cN cF) U ∧ NN U ∧ va_D (fun _ => True) [])) (va_Qi (fun (r : Int32) (u : Unit) => (0 ≤ r.toInt ∧ r.toInt ≤ 1) ∧ (BoolIs r (isDig x.toInt))) (fun (u : Unit) (t : State) => match u with | () => va_P D CL [] t.heap ∧ va_D (va_A [] sz) []) (va_A [] sz)) 0 0 (va_A [] sz) := by
  refine Met.ofW (cc := b_DiscMaker_isDigit) (maxL := 1) (ret := some .boolean) (by decide +kernel) rfl ?_
  intro p e s m args below meth c s₁ B hml hv
  obtain ⟨rfl, hsz, hP, hK, hN, hD0⟩ := hv
  have hx := B.exec
  have hb := B.bytes
  have hr := B.returns
  have hts := atoms_spec (ws := w_DiscMaker_isDigit) B.pre
  have ht9 := fun (w : Cond) (h : w ∈ lw_g) => hts w (List.mem_cons_of_mem _ h)
  have hown : s.vm.findClass "DiscMaker" = some m.cls := findClass_of_methodNamed B.named
  have hlocks := B.notSynchronized
  subst hsz
  have hD := hD0.self (sz := s.heap.size)
  generalize hAe : va_A [] s.heap.size = A at hD ⊢
  have hA : ∀ q : Nat, s.heap.size ≤ q → A q := fun q h => by rw [← hAe]; exact Or.inr h
  have hS : va_S A s.heap s.heap [] := va_S.rf
  have hP : va_P D CL [] s.heap := hP
  have hl := lv_entry [.int x] (n := 1) (Nat.le_of_ble_eq_true rfl)
  rw [lg_entry_eq]
  generalize (lg_sl [.int x] ++ List.replicate (1 - (lg_sl [.int x]).length) Slot.unset).toArray = ls at hl ⊢
  have hl : lv_has ls 1 [(0, .int x)] := hl
  have L_m1 : ((-1) : Int32).toInt = (-1) := by decide
  have L_0 : (0 : Int32).toInt = 0 := by decide
  have L_1 : (1 : Int32).toInt = 1 := by decide
  have L_48 : (48 : Int32).toInt = 48 := by decide
  have L_57 : (57 : Int32).toInt = 57 := by decide
  refine lv_iload_n hx hb d_DiscMaker_isDigit_0 rfl (lv_at hl 0 rfl) ?_
  refine lv_bipush (v := 48) hx hb d_DiscMaker_isDigit_1 (by decide) ?_
  refine lv_icmp_lt (tgt := 16) hx hb d_DiscMaker_isDigit_3 (by decide) (fun h_9 => ?_) (fun h_9 => ?_)
  · skip
    have g3_3 : x.toInt < 48 := (i_lt rfl (by decide)).mp h_9
    refine lv_iconst (v := 0) hx hb d_DiscMaker_isDigit_16 (by decide) ?_
    have hP9 := hP.sub (ws' := []) [] rfl
    have hD9 := hD.sub (ws' := []) [] (by decide +kernel) rfl
    exact W.zret (v := 0) hx hb hr (by first | rfl | decide | exact i_narZ (by omega)) (fun t ht hW => ⟨⟨0, (), rfl, ⟨(by (try dsimp only); first | assumption | omega | trivial), (by (try dsimp only); unfold BoolIs isDig; omega)⟩, by rw [ht]; exact hP9, hD9⟩, hS.F ht⟩) hS.2.2 d_DiscMaker_isDigit_17
  · skip
    have g3_3 : ¬ x.toInt < 48 := fun h8 => h_9 ((i_lt rfl (by decide)).mpr h8)
    refine lv_iload_n hx hb d_DiscMaker_isDigit_6 rfl (lv_at hl 0 rfl) ?_
    refine lv_bipush (v := 57) hx hb d_DiscMaker_isDigit_7 (by decide) ?_
    refine lv_icmp_gt (tgt := 16) hx hb d_DiscMaker_isDigit_9 (by decide) (fun h_9 => ?_) (fun h_9 => ?_)
    · skip
      have g9_8 : 57 < x.toInt := (i_lt (by decide) rfl).mp h_9
      refine lv_iconst (v := 0) hx hb d_DiscMaker_isDigit_16 (by decide) ?_
      have hP9 := hP.sub (ws' := []) [] rfl
      have hD9 := hD.sub (ws' := []) [] (by decide +kernel) rfl
      exact W.zret (v := 0) hx hb hr (by first | rfl | decide | exact i_narZ (by omega)) (fun t ht hW => ⟨⟨0, (), rfl, ⟨(by (try dsimp only); first | assumption | omega | trivial), (by (try dsimp only); unfold BoolIs isDig; omega)⟩, by rw [ht]; exact hP9, hD9⟩, hS.F ht⟩) hS.2.2 d_DiscMaker_isDigit_17
    · skip
      have g9_8 : ¬ 57 < x.toInt := fun h8 => h_9 ((i_lt (by decide) rfl).mpr h8)
      refine lv_iconst (v := 1) hx hb d_DiscMaker_isDigit_12 (by decide) ?_
      refine lv_goto (tgt := 17) hx hb d_DiscMaker_isDigit_13 (by decide) ?_
      have hP9 := hP.sub (ws' := []) [] rfl
      have hD9 := hD.sub (ws' := []) [] (by decide +kernel) rfl
      exact W.zret (v := 1) hx hb hr (by first | rfl | decide | exact i_narZ (by omega)) (fun t ht hW => ⟨⟨1, (), rfl, ⟨(by (try dsimp only); first | assumption | omega | trivial), (by (try dsimp only); unfold BoolIs isDig; omega)⟩, by rw [ht]; exact hP9, hD9⟩, hS.F ht⟩) hS.2.2 d_DiscMaker_isDigit_17

theorem d_Node_capital_0 : decode b_Node_capital 0 = .ok (.iload_n 0, 1) := by decide +kernel
theorem d_Node_capital_1 : decode b_Node_capital 1 = .ok (.bipush 97, 2) := by decide +kernel
theorem d_Node_capital_3 : decode b_Node_capital 3 = .ok (.if_icmp .lt 18, 3) := by decide +kernel
theorem d_Node_capital_6 : decode b_Node_capital 6 = .ok (.iload_n 0, 1) := by decide +kernel
theorem d_Node_capital_7 : decode b_Node_capital 7 = .ok (.bipush 122, 2) := by decide +kernel
theorem d_Node_capital_9 : decode b_Node_capital 9 = .ok (.if_icmp .gt 12, 3) := by decide +kernel
theorem d_Node_capital_12 : decode b_Node_capital 12 = .ok (.iload_n 0, 1) := by decide +kernel
theorem d_Node_capital_13 : decode b_Node_capital 13 = .ok (.bipush 97, 2) := by decide +kernel
theorem d_Node_capital_15 : decode b_Node_capital 15 = .ok (.isub, 1) := by decide +kernel
theorem d_Node_capital_16 : decode b_Node_capital 16 = .ok (.bipush 65, 2) := by decide +kernel
theorem d_Node_capital_18 : decode b_Node_capital 18 = .ok (.iadd, 1) := by decide +kernel
theorem d_Node_capital_19 : decode b_Node_capital 19 = .ok (.i2b, 1) := by decide +kernel
theorem d_Node_capital_20 : decode b_Node_capital 20 = .ok (.ireturn, 1) := by decide +kernel
theorem d_Node_capital_21 : decode b_Node_capital 21 = .ok (.iload_n 0, 1) := by decide +kernel
theorem d_Node_capital_22 : decode b_Node_capital 22 = .ok (.invokestatic 79, 3) := by decide +kernel
theorem d_Node_capital_25 : decode b_Node_capital 25 = .ok (.ifCond .ne 10, 3) := by decide +kernel
theorem d_Node_capital_28 : decode b_Node_capital 28 = .ok (.iload_n 0, 1) := by decide +kernel
theorem d_Node_capital_29 : decode b_Node_capital 29 = .ok (.invokestatic 83, 3) := by decide +kernel
theorem d_Node_capital_32 : decode b_Node_capital 32 = .ok (.ifCond .eq 7, 3) := by decide +kernel
theorem d_Node_capital_35 : decode b_Node_capital 35 = .ok (.iload_n 0, 1) := by decide +kernel
theorem d_Node_capital_36 : decode b_Node_capital 36 = .ok (.goto 5, 3) := by decide +kernel
theorem d_Node_capital_39 : decode b_Node_capital 39 = .ok (.bipush 95, 2) := by decide +kernel
theorem d_Node_capital_41 : decode b_Node_capital 41 = .ok (.ireturn, 1) := by decide +kernel
set_option maxHeartbeats 4000000 in
set_option maxRecDepth 100000 in
theorem c3_capital (l : Launch) (D : va_G) (cB cI cJ cZ cN cF : ClassId) (sz : Nat) (x : Int32) (hx : (-128) ≤ x.toInt ∧ x.toInt ≤ 127) : Met l y_Node_capital w_Node_capital ({ frames := 1, cells := 0, slots := 0, locals := 26 }) (va_Pc [.int x] (fun U => U.heap.size = sz ∧ va_P D CL [] U.heap ∧ va_K D CL (TY cB cI cJ cZ cN cF) U ∧ NN U ∧ va_D (fun _ => True) [])) (va_Qi (fun (r : Int32) (u : Unit) => ((-128) ≤ r.toInt ∧ r.toInt ≤ 127)) (fun (u : Unit) (t : State) => match u with | () => va_P D CL [] t.heap ∧ va_D (va_A [] sz) []) (va_A [] sz)) 0 0 (va_A [] sz) := by
  refine Met.ofW (cc := b_Node_capital) (maxL := 1) (ret := some .byte) (by decide +kernel) rfl ?_
  intro p e s m args below meth c s₁ B hml hv
  obtain ⟨rfl, hsz, hP, hK, hN, hD0⟩ := hv
  have hx := B.exec
  have hb := B.bytes
  have hr := B.returns
  have hts := atoms_spec (ws := w_Node_capital) B.pre
  have ht9 := fun (w : Cond) (h : w ∈ lw_g) => hts w (List.mem_cons_of_mem _ h)
  have hown : s.vm.findClass "DiscMaker$Node" = some m.cls := findClass_of_methodNamed B.named
  have hlocks := B.notSynchronized
  subst hsz
  have hD := hD0.self (sz := s.heap.size)
  generalize hAe : va_A [] s.heap.size = A at hD ⊢
  have hA : ∀ q : Nat, s.heap.size ≤ q → A q := fun q h => by rw [← hAe]; exact Or.inr h
  have hS : va_S A s.heap s.heap [] := va_S.rf
  have hP : va_P D CL [] s.heap := hP
  have hl := lv_entry [.int x] (n := 1) (Nat.le_of_ble_eq_true rfl)
  rw [lg_entry_eq]
  generalize (lg_sl [.int x] ++ List.replicate (1 - (lg_sl [.int x]).length) Slot.unset).toArray = ls at hl ⊢
  have hl : lv_has ls 1 [(0, .int x)] := hl
  have L_m1 : ((-1) : Int32).toInt = (-1) := by decide
  have L_0 : (0 : Int32).toInt = 0 := by decide
  have L_1 : (1 : Int32).toInt = 1 := by decide
  have L_65 : (65 : Int32).toInt = 65 := by decide
  have L_95 : (95 : Int32).toInt = 95 := by decide
  have L_97 : (97 : Int32).toInt = 97 := by decide
  have L_122 : (122 : Int32).toInt = 122 := by decide
  refine lv_iload_n hx hb d_Node_capital_0 rfl (lv_at hl 0 rfl) ?_
  refine lv_bipush (v := 97) hx hb d_Node_capital_1 (by decide) ?_
  refine lv_icmp_lt (tgt := 21) hx hb d_Node_capital_3 (by decide) (fun h_9 => ?_) (fun h_9 => ?_)
  · skip
    have g3_3 : x.toInt < 97 := (i_lt rfl (by decide)).mp h_9
    refine lv_iload_n hx hb d_Node_capital_21 rfl (lv_at hl 0 rfl) ?_
    have hPc := hP.sub (ws' := []) [] rfl
    have hDc := hD.sub (ws' := []) [] (by decide +kernel) rfl
    have hFc := va_free (wc := []) hD hS hA [] rfl
    have hkc : 0 ≤ 0 := by decide
    have hks : 0 ≤ 0 := by decide
    refine va_calli (va_runSN (As := [.int x]) (rest := []) ⟨hx, hb, hml, hown, hts⟩ (c3_isLetter l D cB cI cJ cZ cN cF s.heap.size x) ⟨va_cnB 1 hts (lg_good kc_DiscMaker_isLetter) rfl rfl rfl (hN _ k849) (ht9 _ k115) (by decide +kernel) ⟨Nat.le_of_ble_eq_true rfl, Nat.le_of_ble_eq_true rfl⟩, ht9 _ k810, trivial⟩ ⟨fun a U g mk q => by obtain ⟨q0, q1, qP, qK, qN, qD⟩ := q; exact ⟨q0, q1, qP, va_K.moved (u := U) (U := U.calling g mk a) (Vm.Alike.refl U.vm) qK, qN.calling, qD⟩, fun U hU hW => ⟨rfl, by rw [hU], by rw [hU]; exact hPc, va_K.moved hW.alike hK, NN.warm hW hN, hDc.weaken (fun _ _ _ _ => trivial)⟩⟩ rfl rfl hl.1 rfl (lv_room (Nat.le_of_ble_eq_true rfl)) d_Node_capital_22 ⟨hkc, hks⟩) hS (fun q _ h => hFc q h) hFc (fun r1 u t H1 locs ht hvm hp_r1 hB hz1 hk1 hS => ?_)
    obtain ⟨hP1, hD1⟩ := hB
    rw [ht] at hP1
    obtain ⟨hP, hD⟩ := va_join (wr := []) (w1 := []) hP hD [] [] rfl rfl (by decide +kernel) (by decide +kernel) hk1 hFc hP1 hD1
    clear hPc hDc hFc hP1 hD1 hk1 hz1 hkc hks
    generalize H1 = H at hP hS ⊢
    have hP : va_P D CL [] H := hP
    have hD : va_D A [] := hD
    try dsimp only at hp_r1
    obtain ⟨hr_2, hd_3⟩ := hp_r1
    refine lv_if_ne (tgt := 35) hx hb d_Node_capital_25 (by decide) (fun h_9 => ?_) (fun h_9 => ?_)
    · skip
      have g25_6 : ¬ r1.toInt = 0 := fun h8 => h_9 ((i_eq rfl (by decide)).mpr h8)
      refine lv_iload_n hx hb d_Node_capital_35 rfl (lv_at hl 0 rfl) ?_
      refine lv_goto (tgt := 41) hx hb d_Node_capital_36 (by decide) ?_
      have hP9 := hP.sub (ws' := []) [] rfl
      have hD9 := hD.sub (ws' := []) [] (by decide +kernel) rfl
      exact W.zret (v := x) hx hb hr (i_narB (by omega)) (fun t ht hW => ⟨⟨x, (), rfl, (by (try dsimp only); first | assumption | omega | trivial), by rw [ht]; exact hP9, hD9⟩, hS.F ht⟩) hS.2.2 d_Node_capital_41
    · skip
      have g25_6 : r1.toInt = 0 := (i_eq rfl (by decide)).mp h_9
      refine lv_iload_n hx hb d_Node_capital_28 rfl (lv_at hl 0 rfl) ?_
      have hPc := hP.sub (ws' := []) [] rfl
      have hDc := hD.sub (ws' := []) [] (by decide +kernel) rfl
      have hFc := va_free (wc := []) hD hS hA [] rfl
      have hkc : 0 ≤ 0 := by decide
      have hks : 0 ≤ 0 := by decide
      refine va_calli (va_runSN (As := [.int x]) (rest := []) ⟨hx, hb, hml, hown, hts⟩ (c3_isDigit l D cB cI cJ cZ cN cF H.size x) ⟨va_cnB 1 hts (lg_good kc_DiscMaker_isDigit) rfl rfl rfl (hN _ k850) (ht9 _ k115) (by decide +kernel) ⟨Nat.le_of_ble_eq_true rfl, Nat.le_of_ble_eq_true rfl⟩, ht9 _ k813, trivial⟩ ⟨fun a U g mk q => by obtain ⟨q0, q1, qP, qK, qN, qD⟩ := q; exact ⟨q0, q1, qP, va_K.moved (u := U) (U := U.calling g mk a) (Vm.Alike.refl U.vm) qK, qN.calling, qD⟩, fun U hU hW => ⟨rfl, by rw [hU], by rw [hU]; exact hPc, va_K.moved hW.alike hK, NN.warm hW hN, hDc.weaken (fun _ _ _ _ => trivial)⟩⟩ rfl rfl hl.1 rfl (lv_room (Nat.le_of_ble_eq_true rfl)) d_Node_capital_29 ⟨hkc, hks⟩) hS (fun q _ h => hFc q h) hFc (fun r4 u t H1 locs ht hvm hp_r4 hB hz1 hk1 hS => ?_)
      obtain ⟨hP1, hD1⟩ := hB
      rw [ht] at hP1
      obtain ⟨hP, hD⟩ := va_join (wr := []) (w1 := []) hP hD [] [] rfl rfl (by decide +kernel) (by decide +kernel) hk1 hFc hP1 hD1
      clear hPc hDc hFc hP1 hD1 hk1 hz1 hkc hks
      generalize H1 = H at hP hS ⊢
      have hP : va_P D CL [] H := hP
      have hD : va_D A [] := hD
      try dsimp only at hp_r4
      obtain ⟨hr_5, hd_6⟩ := hp_r4
      refine lv_if_eq (tgt := 39) hx hb d_Node_capital_32 (by decide) (fun h_9 => ?_) (fun h_9 => ?_)
      · skip
        have g32_12 : r4.toInt = 0 := (i_eq rfl (by decide)).mp h_9
        refine lv_bipush (v := 95) hx hb d_Node_capital_39 (by decide) ?_
        have hP9 := hP.sub (ws' := []) [] rfl
        have hD9 := hD.sub (ws' := []) [] (by decide +kernel) rfl
        exact W.zret (v := 95) hx hb hr (i_narB (by omega)) (fun t ht hW => ⟨⟨95, (), rfl, (by (try dsimp only); first | assumption | omega | trivial), by rw [ht]; exact hP9, hD9⟩, hS.F ht⟩) hS.2.2 d_Node_capital_41
      · skip
        have g32_12 : ¬ r4.toInt = 0 := fun h8 => h_9 ((i_eq rfl (by decide)).mpr h8)
        refine lv_iload_n hx hb d_Node_capital_35 rfl (lv_at hl 0 rfl) ?_
        refine lv_goto (tgt := 41) hx hb d_Node_capital_36 (by decide) ?_
        have hP9 := hP.sub (ws' := []) [] rfl
        have hD9 := hD.sub (ws' := []) [] (by decide +kernel) rfl
        exact W.zret (v := x) hx hb hr (i_narB (by omega)) (fun t ht hW => ⟨⟨x, (), rfl, (by (try dsimp only); first | assumption | omega | trivial), by rw [ht]; exact hP9, hD9⟩, hS.F ht⟩) hS.2.2 d_Node_capital_41
  · skip
    have g3_3 : ¬ x.toInt < 97 := fun h8 => h_9 ((i_lt rfl (by decide)).mpr h8)
    refine lv_iload_n hx hb d_Node_capital_6 rfl (lv_at hl 0 rfl) ?_
    refine lv_bipush (v := 122) hx hb d_Node_capital_7 (by decide) ?_
    refine lv_icmp_gt (tgt := 21) hx hb d_Node_capital_9 (by decide) (fun h_9 => ?_) (fun h_9 => ?_)
    · skip
      have g9_20 : 122 < x.toInt := (i_lt (by decide) rfl).mp h_9
      refine lv_iload_n hx hb d_Node_capital_21 rfl (lv_at hl 0 rfl) ?_
      have hPc := hP.sub (ws' := []) [] rfl
      have hDc := hD.sub (ws' := []) [] (by decide +kernel) rfl
      have hFc := va_free (wc := []) hD hS hA [] rfl
      have hkc : 0 ≤ 0 := by decide
      have hks : 0 ≤ 0 := by decide
      refine va_calli (va_runSN (As := [.int x]) (rest := []) ⟨hx, hb, hml, hown, hts⟩ (c3_isLetter l D cB cI cJ cZ cN cF s.heap.size x) ⟨va_cnB 1 hts (lg_good kc_DiscMaker_isLetter) rfl rfl rfl (hN _ k849) (ht9 _ k115) (by decide +kernel) ⟨Nat.le_of_ble_eq_true rfl, Nat.le_of_ble_eq_true rfl⟩, ht9 _ k810, trivial⟩ ⟨fun a U g mk q => by obtain ⟨q0, q1, qP, qK, qN, qD⟩ := q; exact ⟨q0, q1, qP, va_K.moved (u := U) (U := U.calling g mk a) (Vm.Alike.refl U.vm) qK, qN.calling, qD⟩, fun U hU hW => ⟨rfl, by rw [hU], by rw [hU]; exact hPc, va_K.moved hW.alike hK, NN.warm hW hN, hDc.weaken (fun _ _ _ _ => trivial)⟩⟩ rfl rfl hl.1 rfl (lv_room (Nat.le_of_ble_eq_true rfl)) d_Node_capital_22 ⟨hkc, hks⟩) hS (fun q _ h => hFc q h) hFc (fun r7 u t H1 locs ht hvm hp_r7 hB hz1 hk1 hS => ?_)
      obtain ⟨hP1, hD1⟩ := hB
      rw [ht] at hP1
      obtain ⟨hP, hD⟩ := va_join (wr := []) (w1 := []) hP hD [] [] rfl rfl (by decide +kernel) (by decide +kernel) hk1 hFc hP1 hD1
      clear hPc hDc hFc hP1 hD1 hk1 hz1 hkc hks
      generalize H1 = H at hP hS ⊢
      have hP : va_P D CL [] H := hP
      have hD : va_D A [] := hD
      try dsimp only at hp_r7
      obtain ⟨hr_8, hd_9⟩ := hp_r7
      refine lv_if_ne (tgt := 35) hx hb d_Node_capital_25 (by decide) (fun h_9 => ?_) (fun h_9 => ?_)
      · skip
        have g25_23 : ¬ r7.toInt = 0 := fun h8 => h_9 ((i_eq rfl (by decide)).mpr h8)
        refine lv_iload_n hx hb d_Node_capital_35 rfl (lv_at hl 0 rfl) ?_
        refine lv_goto (tgt := 41) hx hb d_Node_capital_36 (by decide) ?_
        have hP9 := hP.sub (ws' := []) [] rfl
        have hD9 := hD.sub (ws' := []) [] (by decide +kernel) rfl
        exact W.zret (v := x) hx hb hr (i_narB (by omega)) (fun t ht hW => ⟨⟨x, (), rfl, (by (try dsimp only); first | assumption | omega | trivial), by rw [ht]; exact hP9, hD9⟩, hS.F ht⟩) hS.2.2 d_Node_capital_41
      · skip
        have g25_23 : r7.toInt = 0 := (i_eq rfl (by decide)).mp h_9
        refine lv_iload_n hx hb d_Node_capital_28 rfl (lv_at hl 0 rfl) ?_
        have hPc := hP.sub (ws' := []) [] rfl
        have hDc := hD.sub (ws' := []) [] (by decide +kernel) rfl
        have hFc := va_free (wc := []) hD hS hA [] rfl
        have hkc : 0 ≤ 0 := by decide
        have hks : 0 ≤ 0 := by decide
        refine va_calli (va_runSN (As := [.int x]) (rest := []) ⟨hx, hb, hml, hown, hts⟩ (c3_isDigit l D cB cI cJ cZ cN cF H.size x) ⟨va_cnB 1 hts (lg_good kc_DiscMaker_isDigit) rfl rfl rfl (hN _ k850) (ht9 _ k115) (by decide +kernel) ⟨Nat.le_of_ble_eq_true rfl, Nat.le_of_ble_eq_true rfl⟩, ht9 _ k813, trivial⟩ ⟨fun a U g mk q => by obtain ⟨q0, q1, qP, qK, qN, qD⟩ := q; exact ⟨q0, q1, qP, va_K.moved (u := U) (U := U.calling g mk a) (Vm.Alike.refl U.vm) qK, qN.calling, qD⟩, fun U hU hW => ⟨rfl, by rw [hU], by rw [hU]; exact hPc, va_K.moved hW.alike hK, NN.warm hW hN, hDc.weaken (fun _ _ _ _ => trivial)⟩⟩ rfl rfl hl.1 rfl (lv_room (Nat.le_of_ble_eq_true rfl)) d_Node_capital_29 ⟨hkc, hks⟩) hS (fun q _ h => hFc q h) hFc (fun r10 u t H1 locs ht hvm hp_r10 hB hz1 hk1 hS => ?_)
        obtain ⟨hP1, hD1⟩ := hB
        rw [ht] at hP1
        obtain ⟨hP, hD⟩ := va_join (wr := []) (w1 := []) hP hD [] [] rfl rfl (by decide +kernel) (by decide +kernel) hk1 hFc hP1 hD1
        clear hPc hDc hFc hP1 hD1 hk1 hz1 hkc hks
        generalize H1 = H at hP hS ⊢
        have hP : va_P D CL [] H := hP
        have hD : va_D A [] := hD
        try dsimp only at hp_r10
        obtain ⟨hr_11, hd_12⟩ := hp_r10
        refine lv_if_eq (tgt := 39) hx hb d_Node_capital_32 (by decide) (fun h_9 => ?_) (fun h_9 => ?_)
        · skip
          have g32_29 : r10.toInt = 0 := (i_eq rfl (by decide)).mp h_9
          refine lv_bipush (v := 95) hx hb d_Node_capital_39 (by decide) ?_
          have hP9 := hP.sub (ws' := []) [] rfl
          have hD9 := hD.sub (ws' := []) [] (by decide +kernel) rfl
          exact W.zret (v := 95) hx hb hr (i_narB (by omega)) (fun t ht hW => ⟨⟨95, (), rfl, (by (try dsimp only); first | assumption | omega | trivial), by rw [ht]; exact hP9, hD9⟩, hS.F ht⟩) hS.2.2 d_Node_capital_41
        · skip
          have g32_29 : ¬ r10.toInt = 0 := fun h8 => h_9 ((i_eq rfl (by decide)).mpr h8)
          refine lv_iload_n hx hb d_Node_capital_35 rfl (lv_at hl 0 rfl) ?_
          refine lv_goto (tgt := 41) hx hb d_Node_capital_36 (by decide) ?_
          have hP9 := hP.sub (ws' := []) [] rfl
          have hD9 := hD.sub (ws' := []) [] (by decide +kernel) rfl
          exact W.zret (v := x) hx hb hr (i_narB (by omega)) (fun t ht hW => ⟨⟨x, (), rfl, (by (try dsimp only); first | assumption | omega | trivial), by rw [ht]; exact hP9, hD9⟩, hS.F ht⟩) hS.2.2 d_Node_capital_41
    · skip
      have g9_20 : ¬ 122 < x.toInt := fun h8 => h_9 ((i_lt (by decide) rfl).mpr h8)
      refine lv_iload_n hx hb d_Node_capital_12 rfl (lv_at hl 0 rfl) ?_
      refine lv_bipush (v := 97) hx hb d_Node_capital_13 (by decide) ?_
      refine lv_isub hx hb d_Node_capital_15 ?_
      refine lv_topi (fun v13 e_v13 => ?_)
      have t_v13 : v13.toInt = x.toInt - 97 := by rw [e_v13]; exact i_sub rfl (by decide) (by omega) (by omega)
      refine lv_bipush (v := 65) hx hb d_Node_capital_16 (by decide) ?_
      refine lv_iadd hx hb d_Node_capital_18 ?_
      refine lv_topi (fun v14 e_v14 => ?_)
      have t_v14 : v14.toInt = v13.toInt + 65 := by rw [e_v14]; exact i_add rfl (by decide) (by omega) (by omega)
      refine lv_i2b hx hb d_Node_capital_19 rfl ?_
      refine lv_topi (fun v15 e_v15 => ?_)
      have t_v15 : (-128) ≤ v15.toInt ∧ v15.toInt ≤ 127 := by rw [e_v15]; exact i_b _
      have hP9 := hP.sub (ws' := []) [] rfl
      have hD9 := hD.sub (ws' := []) [] (by decide +kernel) rfl
      exact W.zret (v := v15) hx hb hr (i_narB (by omega)) (fun t ht hW => ⟨⟨v15, (), rfl, (by (try dsimp only); first | assumption | omega | trivial), by rw [ht]; exact hP9, hD9⟩, hS.F ht⟩) hS.2.2 d_Node_capital_20

theorem d_Node_setOwnership_0 : decode b_Node_setOwnership 0 = .ok (.aload_n 0, 1) := by decide +kernel
theorem d_Node_setOwnership_1 : decode b_Node_setOwnership 1 = .ok (.iload_n 1, 1) := by decide +kernel
theorem d_Node_setOwnership_2 : decode b_Node_setOwnership 2 = .ok (.putfield 19, 3) := by decide +kernel
theorem d_Node_setOwnership_5 : decode b_Node_setOwnership 5 = .ok (.aload_n 0, 1) := by decide +kernel
theorem d_Node_setOwnership_6 : decode b_Node_setOwnership 6 = .ok (.iload_n 2, 1) := by decide +kernel
theorem d_Node_setOwnership_7 : decode b_Node_setOwnership 7 = .ok (.putfield 22, 3) := by decide +kernel
theorem d_Node_setOwnership_10 : decode b_Node_setOwnership 10 = .ok (.aload_n 0, 1) := by decide +kernel
theorem d_Node_setOwnership_11 : decode b_Node_setOwnership 11 = .ok (.iload_n 3, 1) := by decide +kernel
theorem d_Node_setOwnership_12 : decode b_Node_setOwnership 12 = .ok (.putfield 25, 3) := by decide +kernel
theorem d_Node_setOwnership_15 : decode b_Node_setOwnership 15 = .ok (.return_, 1) := by decide +kernel
set_option maxHeartbeats 4000000 in
set_option maxRecDepth 100000 in
theorem c3_setOwnership (l : Launch) (D : va_G) (cB cI cJ cZ cN cF : ClassId) (sz : Nat) (h0 : Nat) (kna : Nat) (kke : Nat) (kta : Nat) (so : Int32) (nu : Int32) (pa : Int32) (ab : Int32) (mo : Int32) (ow : Int32) (gr : Int32) (si : Int32) (sd : Int32) (x : Int32) (y : Int32) (z : Int32) : Met l y_Node_setOwnership w_Node_setOwnership ({ frames := 0, cells := 0, slots := 0, locals := 0 }) (va_Pc [.ref h0, .int x, .int y, .int z] (fun U => U.heap.size = sz ∧ va_P D CL [(h0, .inr (5, [.int so, .ref kna, .ref kke, .ref kta, .int nu, .int pa, .int ab, .int mo, .int ow, .int gr, .int si, .int sd]))] U.heap ∧ va_K D CL (TY cB cI cJ cZ cN cF) U ∧ NN U ∧ va_D (fun _ => True) [(h0, .inr (5, [.int so, .ref kna, .ref kke, .ref kta, .int nu, .int pa, .int ab, .int mo, .int ow, .int gr, .int si, .int sd]))])) (va_Qv (fun (u : Unit) => True) (fun (u : Unit) (t : State) => match u with | () => va_P D CL [(h0, .inr (5, [.int so, .ref kna, .ref kke, .ref kta, .int nu, .int pa, .int ab, .int x, .int y, .int z, .int si, .int sd]))] t.heap ∧ va_D (va_A [(h0, .inr (5, [.int so, .ref kna, .ref kke, .ref kta, .int nu, .int pa, .int ab, .int mo, .int ow, .int gr, .int si, .int sd]))] sz) [(h0, .inr (5, [.int so, .ref kna, .ref kke, .ref kta, .int nu, .int pa, .int ab, .int x, .int y, .int z, .int si, .int sd]))]) (va_A [(h0, .inr (5, [.int so, .ref kna, .ref kke, .ref kta, .int nu, .int pa, .int ab, .int mo, .int ow, .int gr, .int si, .int sd]))] sz)) 0 0 (va_A [(h0, .inr (5, [.int so, .ref kna, .ref kke, .ref kta, .int nu, .int pa, .int ab, .int mo, .int ow, .int gr, .int si, .int sd]))] sz) := by
  refine Met.ofW (cc := b_Node_setOwnership) (maxL := 4) (ret := none) (by decide +kernel) rfl ?_
  intro p e s m args below meth c s₁ B hml hv
  obtain ⟨rfl, hsz, hP, hK, hN, hD0⟩ := hv
  have hx := B.exec
  have hb := B.bytes
  have hr := B.returns
  have hts := atoms_spec (ws := w_Node_setOwnership) B.pre
  have ht9 := fun (w : Cond) (h : w ∈ lw_g) => hts w (List.mem_cons_of_mem _ h)
  have hown : s.vm.findClass "DiscMaker$Node" = some m.cls := findClass_of_methodNamed B.named
  have hlocks := B.notSynchronized
  subst hsz
  have hD := hD0.self (sz := s.heap.size)
  generalize hAe : va_A [(h0, .inr (5, [.int so, .ref kna, .ref kke, .ref kta, .int nu, .int pa, .int ab, .int mo, .int ow, .int gr, .int si, .int sd]))] s.heap.size = A at hD ⊢
  have hA : ∀ q : Nat, s.heap.size ≤ q → A q := fun q h => by rw [← hAe]; exact Or.inr h
  have hS : va_S A s.heap s.heap [] := va_S.rf
  have hP : va_P D CL [(h0, .inr (5, [.int so, .ref kna, .ref kke, .ref kta, .int nu, .int pa, .int ab, .int mo, .int ow, .int gr, .int si, .int sd]))] s.heap := hP
  have hl := lv_entry [.ref h0, .int x, .int y, .int z] (n := 4) (Nat.le_of_ble_eq_true rfl)
  rw [lg_entry_eq]
  generalize (lg_sl [.ref h0, .int x, .int y, .int z] ++ List.replicate (4 - (lg_sl [.ref h0, .int x, .int y, .int z]).length) Slot.unset).toArray = ls at hl ⊢
  have hl : lv_has ls 4 [(0, .ref h0), (1, .int x), (2, .int y), (3, .int z)] := hl
  have L_m1 : ((-1) : Int32).toInt = (-1) := by decide
  have L_0 : (0 : Int32).toInt = 0 := by decide
  have L_1 : (1 : Int32).toInt = 1 := by decide
  refine lv_aload_n hx hb d_Node_setOwnership_0 rfl (lv_at hl 0 rfl) ?_
  refine lv_iload_n hx hb d_Node_setOwnership_1 rfl (lv_at hl 1 rfl) ?_
  refine va_put (D := D) (ci := 5) (v := .int x) (ty := .int) (C := "DiscMaker$Node") (T := F_Node) (N := 12) hx hb ht9 in_Node t_Node t_Node_ok n_Node hown hK hP hD hS 0 rfl rfl 7 (by decide) (ht9 _ k200) (fun _ h9 => h9) rfl (by decide +kernel) rfl rfl (Nat.le_of_ble_eq_true rfl) d_Node_setOwnership_2 (fun H locs hP hD hS => ?_)
  have hP : va_P D CL [(h0, .inr (5, [.int so, .ref kna, .ref kke, .ref kta, .int nu, .int pa, .int ab, .int x, .int ow, .int gr, .int si, .int sd]))] H := hP
  have hD : va_D A [(h0, .inr (5, [.int so, .ref kna, .ref kke, .ref kta, .int nu, .int pa, .int ab, .int x, .int ow, .int gr, .int si, .int sd]))] := hD
  refine lv_aload_n hx hb d_Node_setOwnership_5 rfl (lv_at hl 0 rfl) ?_
  refine lv_iload_n hx hb d_Node_setOwnership_6 rfl (lv_at hl 2 rfl) ?_
  refine va_put (D := D) (ci := 5) (v := .int y) (ty := .int) (C := "DiscMaker$Node") (T := F_Node) (N := 12) hx hb ht9 in_Node t_Node t_Node_ok n_Node hown hK hP hD hS 0 rfl rfl 8 (by decide) (ht9 _ k202) (fun _ h9 => h9) rfl (by decide +kernel) rfl rfl (Nat.le_of_ble_eq_true rfl) d_Node_setOwnership_7 (fun H locs hP hD hS => ?_)
  have hP : va_P D CL [(h0, .inr (5, [.int so, .ref kna, .ref kke, .ref kta, .int nu, .int pa, .int ab, .int x, .int y, .int gr, .int si, .int sd]))] H := hP
  have hD : va_D A [(h0, .inr (5, [.int so, .ref kna, .ref kke, .ref kta, .int nu, .int pa, .int ab, .int x, .int y, .int gr, .int si, .int sd]))] := hD
  refine lv_aload_n hx hb d_Node_setOwnership_10 rfl (lv_at hl 0 rfl) ?_
  refine lv_iload_n hx hb d_Node_setOwnership_11 rfl (lv_at hl 3 rfl) ?_
  refine va_put (D := D) (ci := 5) (v := .int z) (ty := .int) (C := "DiscMaker$Node") (T := F_Node) (N := 12) hx hb ht9 in_Node t_Node t_Node_ok n_Node hown hK hP hD hS 0 rfl rfl 9 (by decide) (ht9 _ k204) (fun _ h9 => h9) rfl (by decide +kernel) rfl rfl (Nat.le_of_ble_eq_true rfl) d_Node_setOwnership_12 (fun H locs hP hD hS => ?_)
  have hP : va_P D CL [(h0, .inr (5, [.int so, .ref kna, .ref kke, .ref kta, .int nu, .int pa, .int ab, .int x, .int y, .int z, .int si, .int sd]))] H := hP
  have hD : va_D A [(h0, .inr (5, [.int so, .ref kna, .ref kke, .ref kta, .int nu, .int pa, .int ab, .int x, .int y, .int z, .int si, .int sd]))] := hD
  have hP9 := hP.sub (ws' := [(h0, .inr (5, [.int so, .ref kna, .ref kke, .ref kta, .int nu, .int pa, .int ab, .int x, .int y, .int z, .int si, .int sd]))]) [0] rfl
  have hD9 := hD.sub (ws' := [(h0, .inr (5, [.int so, .ref kna, .ref kke, .ref kta, .int nu, .int pa, .int ab, .int x, .int y, .int z, .int si, .int sd]))]) [0] (by decide +kernel) rfl
  exact W.vret hx hb hr (fun t ht hW => ⟨⟨(), rfl, trivial, by rw [ht]; exact hP9, hD9⟩, hS.F ht⟩) hS.2.2 d_Node_setOwnership_15

theorem d_Node_lengthOf_0 : decode b_Node_lengthOf 0 = .ok (.iconst 0, 1) := by decide +kernel
theorem d_Node_lengthOf_1 : decode b_Node_lengthOf 1 = .ok (.istore_n 3, 1) := by decide +kernel
theorem d_Node_lengthOf_2 : decode b_Node_lengthOf 2 = .ok (.iload_n 3, 1) := by decide +kernel
theorem d_Node_lengthOf_3 : decode b_Node_lengthOf 3 = .ok (.iload_n 2, 1) := by decide +kernel
theorem d_Node_lengthOf_4 : decode b_Node_lengthOf 4 = .ok (.if_icmp .ge 22, 3) := by decide +kernel
theorem d_Node_lengthOf_7 : decode b_Node_lengthOf 7 = .ok (.aload_n 0, 1) := by decide +kernel
theorem d_Node_lengthOf_8 : decode b_Node_lengthOf 8 = .ok (.getfield 31, 3) := by decide +kernel
theorem d_Node_lengthOf_11 : decode b_Node_lengthOf 11 = .ok (.iload_n 1, 1) := by decide +kernel
theorem d_Node_lengthOf_12 : decode b_Node_lengthOf 12 = .ok (.iload_n 3, 1) := by decide +kernel
theorem d_Node_lengthOf_13 : decode b_Node_lengthOf 13 = .ok (.iadd, 1) := by decide +kernel
theorem d_Node_lengthOf_14 : decode b_Node_lengthOf 14 = .ok (.baload, 1) := by decide +kernel
theorem d_Node_lengthOf_15 : decode b_Node_lengthOf 15 = .ok (.bipush 32, 2) := by decide +kernel
theorem d_Node_lengthOf_17 : decode b_Node_lengthOf 17 = .ok (.if_icmp .eq 9, 3) := by decide +kernel
theorem d_Node_lengthOf_20 : decode b_Node_lengthOf 20 = .ok (.iinc 3 1, 3) := by decide +kernel
theorem d_Node_lengthOf_23 : decode b_Node_lengthOf 23 = .ok (.goto (-21), 3) := by decide +kernel
theorem d_Node_lengthOf_26 : decode b_Node_lengthOf 26 = .ok (.iload_n 3, 1) := by decide +kernel
theorem d_Node_lengthOf_27 : decode b_Node_lengthOf 27 = .ok (.ireturn, 1) := by decide +kernel
set_option maxHeartbeats 4000000 in
set_option maxRecDepth 100000 in
theorem c3_lengthOf (l : Launch) (D : va_G) (cB cI cJ cZ cN cF : ClassId) (sz : Nat) (h0 : Nat) (kna : Nat) (kke : Nat) (kta : Nat) (so : Int32) (nu : Int32) (pa : Int32) (ab : Int32) (mo : Int32) (ow : Int32) (gr : Int32) (si : Int32) (sd : Int32) (c2 : Nat → Int32) (x : Int32) (y : Int32) (hx : 0 ≤ x.toInt ∧ 0 ≤ y.toInt ∧ x.toInt + y.toInt ≤ 11) : Met l y_Node_lengthOf w_Node_lengthOf ({ frames := 0, cells := 0, slots := 0, locals := 0 }) (va_Pc [.ref h0, .int x, .int y] (fun U => U.heap.size = sz ∧ va_P D CL [] U.heap ∧ va_K D CL (TY cB cI cJ cZ cN cF) U ∧ NN U ∧ va_D (fun _ => True) [] ∧ RO D [(h0, .inr (5, [.int so, .ref kna, .ref kke, .ref kta, .int nu, .int pa, .int ab, .int mo, .int ow, .int gr, .int si, .int sd])), (kke, .inl (cB, 11, .inl c2))] (va_A [] sz) U U.heap)) (va_Qi (fun (r : Int32) (u : Unit) => (0 ≤ r.toInt ∧ r.toInt ≤ y.toInt)) (fun (u : Unit) (t : State) => match u with | () => va_P D CL [] t.heap ∧ va_D (va_A [] sz) []) (va_A [] sz)) 0 0 (va_A [] sz) := by
  refine Met.ofW (cc := b_Node_lengthOf) (maxL := 4) (ret := some .int) (by decide +kernel) rfl ?_
  intro p e s m args below meth c s₁ B hml hv
  obtain ⟨rfl, hsz, hP, hK, hN, hD0, hZr⟩ := hv
  have hx := B.exec
  have hb := B.bytes
  have hr := B.returns
  have hts := atoms_spec (ws := w_Node_lengthOf) B.pre
  have ht9 := fun (w : Cond) (h : w ∈ lw_g) => hts w (List.mem_cons_of_mem _ h)
  have hown : s.vm.findClass "DiscMaker$Node" = some m.cls := findClass_of_methodNamed B.named
  have hlocks := B.notSynchronized
  subst hsz
  have hD := hD0.self (sz := s.heap.size)
  generalize hAe : va_A [] s.heap.size = A at hD hZr ⊢
  have hA : ∀ q : Nat, s.heap.size ≤ q → A q := fun q h => by rw [← hAe]; exact Or.inr h
  have hS : va_S A s.heap s.heap [] := va_S.rf
  have hP : va_P D CL [] s.heap := hP
  have hl := lv_entry [.ref h0, .int x, .int y] (n := 4) (Nat.le_of_ble_eq_true rfl)
  rw [lg_entry_eq]
  generalize (lg_sl [.ref h0, .int x, .int y] ++ List.replicate (4 - (lg_sl [.ref h0, .int x, .int y]).length) Slot.unset).toArray = ls at hl ⊢
  have hl : lv_has ls 4 [(0, .ref h0), (1, .int x), (2, .int y)] := hl
  have L_m1 : ((-1) : Int32).toInt = (-1) := by decide
  have L_0 : (0 : Int32).toInt = 0 := by decide
  have L_1 : (1 : Int32).toInt = 1 := by decide
  have L_32 : (32 : Int32).toInt = 32 := by decide
  refine lv_iconst (v := 0) hx hb d_Node_lengthOf_0 (by decide) ?_
  refine lv_istore_n hx hb d_Node_lengthOf_1 rfl hl (by decide) rfl (fun ls hl => ?_)
  have hl : lv_has ls 4 [(3, .int 0), (0, .ref h0), (1, .int x), (2, .int y)] := hl
  refine zz_labM (B := fun (lk : Nat) (K : Heap → List Loc → Array Slot → List Value → Prop) => ∀ (kx : Int32) (H : Heap) (locs : List Loc) (ls : Array Slot), lk = (y.toInt - kx.toInt).toNat → (0 ≤ kx.toInt ∧ kx.toInt ≤ y.toInt) → va_P D CL [] H → va_D A [] → va_S A s.heap H locs → lv_has ls 4 [(0, .ref h0), (1, .int x), (2, .int y), (3, .int kx)] → K H locs ls []) 2 ?_ ?_
  · skip
    intro lk ih2 kx H locs ls hm2 e1 hP hD hS hl
    refine lv_iload_n hx hb d_Node_lengthOf_2 rfl (lv_at hl 3 rfl) ?_
    refine lv_iload_n hx hb d_Node_lengthOf_3 rfl (lv_at hl 2 rfl) ?_
    refine lv_icmp_ge (tgt := 26) hx hb d_Node_lengthOf_4 (by decide) (fun h_9 => ?_) (fun h_9 => ?_)
    · skip
      have g4_5 : y.toInt ≤ kx.toInt := (i_le rfl rfl).mp h_9
      refine lv_iload_n hx hb d_Node_lengthOf_26 rfl (lv_at hl 3 rfl) ?_
      have hP9 := hP.sub (ws' := []) [] rfl
      have hD9 := hD.sub (ws' := []) [] (by decide +kernel) rfl
      exact W.iret (v := kx) hx hb hr (fun t ht hW => ⟨⟨kx, (), rfl, (by (try dsimp only); first | assumption | omega | trivial), by rw [ht]; exact hP9, hD9⟩, hS.F ht⟩) hS.2.2 d_Node_lengthOf_27
    · skip
      have g4_5 : ¬ y.toInt ≤ kx.toInt := fun h8 => h_9 ((i_le rfl rfl).mpr h8)
      refine lv_aload_n hx hb d_Node_lengthOf_7 rfl (lv_at hl 0 rfl) ?_
      have hPR := RO_at hZr hS
      refine va_get (D := D) (ci := 5) (v := .ref kke) (C := "DiscMaker$Node") (T := F_Node) (N := 12) hx hb ht9 in_Node hown hK hPR 0 rfl rfl 2 (by decide) (ht9 _ k188) (fun _ h9 => h9) rfl d_Node_lengthOf_8 ?_
      refine lv_iload_n hx hb d_Node_lengthOf_11 rfl (lv_at hl 1 rfl) ?_
      refine lv_iload_n hx hb d_Node_lengthOf_12 rfl (lv_at hl 3 rfl) ?_
      refine lv_iadd hx hb d_Node_lengthOf_13 ?_
      refine lv_topi (fun v1 e_v1 => ?_)
      have t_v1 : v1.toInt = x.toInt + kx.toInt := by rw [e_v1]; exact i_add rfl rfl (by omega) (by omega)
      have hPR := RO_at hZr hS
      refine va_bald hx hb hK hPR 1 0 rfl rfl (vp_in_iff.mpr ⟨by omega, by omega⟩) d_Node_lengthOf_14 ?_
      refine lv_topi (fun v2 e_v2 => ?_)
      refine lv_bipush (v := 32) hx hb d_Node_lengthOf_15 (by decide) ?_
      refine lv_icmp_eq (tgt := 26) hx hb d_Node_lengthOf_17 (by decide) (fun h_9 => ?_) (fun h_9 => ?_)
      · skip
        have g17_15 : v2.toInt = 32 := (i_eq rfl (by decide)).mp h_9
        refine lv_iload_n hx hb d_Node_lengthOf_26 rfl (lv_at hl 3 rfl) ?_
        have hP9 := hP.sub (ws' := []) [] rfl
        have hD9 := hD.sub (ws' := []) [] (by decide +kernel) rfl
        exact W.iret (v := kx) hx hb hr (fun t ht hW => ⟨⟨kx, (), rfl, (by (try dsimp only); first | assumption | omega | trivial), by rw [ht]; exact hP9, hD9⟩, hS.F ht⟩) hS.2.2 d_Node_lengthOf_27
      · skip
        have g17_15 : ¬ v2.toInt = 32 := fun h8 => h_9 ((i_eq rfl (by decide)).mpr h8)
        obtain ⟨v3, e_v3⟩ : ∃ z : Int32, z = kx + 1 := ⟨_, rfl⟩
        refine lv_iinc (v := v3) hx hb d_Node_lengthOf_20 hl (k := 3) rfl e_v3.symm (by decide +kernel) rfl (fun ls hl => ?_)
        have t_v3 : v3.toInt = kx.toInt + 1 := by rw [e_v3]; exact i_add rfl (by decide) (by omega) (by omega)
        have hl : lv_has ls 4 [(3, .int v3), (0, .ref h0), (1, .int x), (2, .int y)] := hl
        refine lv_goto (tgt := 2) hx hb d_Node_lengthOf_23 (by decide) ?_
        have hP := hP.sub (ws' := []) [] rfl
        have hD := hD.sub (ws' := []) [] (by decide +kernel) rfl
        have hl := lv_sub hl [1, 2, 3, 0] rfl
        exact ih2 _ (by first | omega | (dsimp only; omega)) v3 _ _ _ rfl ((by (try dsimp only); first | assumption | omega | trivial)) hP hD hS hl
  · skip
    intro kk2
    have hP := hP.sub (ws' := []) [] rfl
    have hD := hD.sub (ws' := []) [] (by decide +kernel) rfl
    have hl := lv_sub hl [1, 2, 3, 0] rfl
    exact kk2 _ 0 _ _ _ rfl ((by (try dsimp only); first | assumption | omega | trivial)) hP hD hS hl

theorem d_Node_keptOfBase_0 : decode b_Node_keptOfBase 0 = .ok (.iconst 5, 1) := by decide +kernel
theorem d_Node_keptOfBase_1 : decode b_Node_keptOfBase 1 = .ok (.aload_n 0, 1) := by decide +kernel
theorem d_Node_keptOfBase_2 : decode b_Node_keptOfBase 2 = .ok (.iconst 0, 1) := by decide +kernel
theorem d_Node_keptOfBase_3 : decode b_Node_keptOfBase 3 = .ok (.bipush 8, 2) := by decide +kernel
theorem d_Node_keptOfBase_5 : decode b_Node_keptOfBase 5 = .ok (.invokevirtual 48, 3) := by decide +kernel
theorem d_Node_keptOfBase_8 : decode b_Node_keptOfBase 8 = .ok (.invokestatic 52, 3) := by decide +kernel
theorem d_Node_keptOfBase_11 : decode b_Node_keptOfBase 11 = .ok (.ireturn, 1) := by decide +kernel
set_option maxHeartbeats 4000000 in
set_option maxRecDepth 100000 in
theorem c3_keptOfBase (l : Launch) (D : va_G) (cB cI cJ cZ cN cF : ClassId) (sz : Nat) (h0 : Nat) (kna : Nat) (kke : Nat) (kta : Nat) (so : Int32) (nu : Int32) (pa : Int32) (ab : Int32) (mo : Int32) (ow : Int32) (gr : Int32) (si : Int32) (sd : Int32) (c2 : Nat → Int32) : Met l y_Node_keptOfBase w_Node_keptOfBase ({ frames := 1, cells := 0, slots := 0, locals := 30 }) (va_Pc [.ref h0] (fun U => U.heap.size = sz ∧ va_P D CL [] U.heap ∧ va_K D CL (TY cB cI cJ cZ cN cF) U ∧ NN U ∧ va_D (fun _ => True) [] ∧ RO D [(h0, .inr (5, [.int so, .ref kna, .ref kke, .ref kta, .int nu, .int pa, .int ab, .int mo, .int ow, .int gr, .int si, .int sd])), (kke, .inl (cB, 11, .inl c2))] (va_A [] sz) U U.heap)) (va_Qi (fun (r : Int32) (u : Unit) => (0 ≤ r.toInt ∧ r.toInt ≤ 5)) (fun (u : Unit) (t : State) => match u with | () => va_P D CL [] t.heap ∧ va_D (va_A [] sz) []) (va_A [] sz)) 0 0 (va_A [] sz) := by
  refine Met.ofW (cc := b_Node_keptOfBase) (maxL := 1) (ret := some .int) (by decide +kernel) rfl ?_
  intro p e s m args below meth c s₁ B hml hv
  obtain ⟨rfl, hsz, hP, hK, hN, hD0, hZr⟩ := hv
  have hx := B.exec
  have hb := B.bytes
  have hr := B.returns
  have hts := atoms_spec (ws := w_Node_keptOfBase) B.pre
  have ht9 := fun (w : Cond) (h : w ∈ lw_g) => hts w (List.mem_cons_of_mem _ h)
  have hown : s.vm.findClass "DiscMaker$Node" = some m.cls := findClass_of_methodNamed B.named
  have hlocks := B.notSynchronized
  subst hsz
  have hD := hD0.self (sz := s.heap.size)
  generalize hAe : va_A [] s.heap.size = A at hD hZr ⊢
  have hA : ∀ q : Nat, s.heap.size ≤ q → A q := fun q h => by rw [← hAe]; exact Or.inr h
  have hS : va_S A s.heap s.heap [] := va_S.rf
  have hP : va_P D CL [] s.heap := hP
  have hl := lv_entry [.ref h0] (n := 1) (Nat.le_of_ble_eq_true rfl)
  rw [lg_entry_eq]
  generalize (lg_sl [.ref h0] ++ List.replicate (1 - (lg_sl [.ref h0]).length) Slot.unset).toArray = ls at hl ⊢
  have hl : lv_has ls 1 [(0, .ref h0)] := hl
  have L_m1 : ((-1) : Int32).toInt = (-1) := by decide
  have L_0 : (0 : Int32).toInt = 0 := by decide
  have L_1 : (1 : Int32).toInt = 1 := by decide
  have L_5 : (5 : Int32).toInt = 5 := by decide
  have L_8 : (8 : Int32).toInt = 8 := by decide
  refine lv_iconst (v := 5) hx hb d_Node_keptOfBase_0 (by decide) ?_
  refine lv_aload_n hx hb d_Node_keptOfBase_1 rfl (lv_at hl 0 rfl) ?_
  refine lv_iconst (v := 0) hx hb d_Node_keptOfBase_2 (by decide) ?_
  refine lv_bipush (v := 8) hx hb d_Node_keptOfBase_3 (by decide) ?_
  have hPc := hP.sub (ws' := []) [] rfl
  have hDc := hD.sub (ws' := []) [] (by decide +kernel) rfl
  have hFc := va_free (wc := []) hD hS hA [] rfl
  have hPR := RO_at hZr hS
  have hkc : 0 ≤ 0 := by decide
  have hks : 0 ≤ 0 := by decide
  refine va_calli (va_runV (C := "DiscMaker$Node") (As := [.int 0, .int 8]) (rest := [.int 5]) ⟨hx, hb, hml, hown, hts⟩ (c3_lengthOf l D cB cI cJ cZ cN cF s.heap.size h0 kna kke kta so nu pa ab mo ow gr si sd c2 0 8 (by (try dsimp only); first | assumption | omega | trivial)) (cwV 2 hts (lg_goodV k855 k857 k7 k118 kc_Node_lengthOf) rfl rfl rfl (by decide +kernel) ⟨Nat.le_of_ble_eq_true rfl, Nat.le_of_ble_eq_true rfl⟩) ⟨fun a U g mk q => by obtain ⟨q0, q1, qP, qK, qN, qD, qZ0⟩ := q; exact ⟨q0, q1, qP, va_K.moved (u := U) (U := U.calling g mk a) (Vm.Alike.refl U.vm) qK, qN.calling, qD, RO_blind qZ0⟩, va_recv hK hPR (ci := 5) (q0 := 0) rfl rfl, fun U hU hW => ⟨rfl, by rw [hU], by rw [hU]; exact hPc, va_K.moved hW.alike hK, NN.warm hW hN, hDc.weaken (fun _ _ _ _ => trivial), (RO_app (w1 := [(h0, .inr (5, [.int so, .ref kna, .ref kke, .ref kta, .int nu, .int pa, .int ab, .int mo, .int ow, .int gr, .int si, .int sd]))]) (w2 := [(kke, .inl (cB, 11, .inl c2))]) (RO_pass (RO_one hZr 0 rfl) hS hFc hU) (RO_pass (RO_one hZr 1 rfl) hS hFc hU))⟩⟩ rfl rfl hl.1 rfl (lv_room (Nat.le_of_ble_eq_true rfl)) d_Node_keptOfBase_5 ⟨hkc, hks⟩) hS (fun q _ h => hFc q h) hFc (fun r1 u t H1 locs ht hvm hp_r1 hB hz1 hk1 hS => ?_)
  obtain ⟨hP1, hD1⟩ := hB
  rw [ht] at hP1
  obtain ⟨hP, hD⟩ := va_join (wr := []) (w1 := []) hP hD [] [] rfl rfl (by decide +kernel) (by decide +kernel) hk1 hFc hP1 hD1
  clear hPc hDc hFc hP1 hD1 hk1 hz1 hkc hks
  generalize H1 = H at hP hS ⊢
  have hP : va_P D CL [] H := hP
  have hD : va_D A [] := hD
  try dsimp only at hp_r1
  have hr_2 := hp_r1
  try rw [L_8] at hr_2
  refine va_mmin (x := 5) (y := r1) hx hb (hml.trans hl.1.symm) hown (ht9 _ k826) (ht9 _ k607) (ht9 _ k137) (ht9 _ kMin) (Nat.le_of_ble_eq_true rfl) (Nat.le_of_ble_eq_true rfl) (by decide) (by decide) d_Node_keptOfBase_8 ?_
  refine lv_topi (fun v3 e_v3 => ?_)
  have t_v3 : (v3.toInt = 5 ∧ 5 ≤ r1.toInt) ∨ (v3.toInt = r1.toInt ∧ r1.toInt < 5) := by rw [e_v3]; exact i_min (by decide) rfl
  have hP9 := hP.sub (ws' := []) [] rfl
  have hD9 := hD.sub (ws' := []) [] (by decide +kernel) rfl
  exact W.iret (v := v3) hx hb hr (fun t ht hW => ⟨⟨v3, (), rfl, (by (try dsimp only); first | assumption | omega | trivial), by rw [ht]; exact hP9, hD9⟩, hS.F ht⟩) hS.2.2 d_Node_keptOfBase_11

theorem d_Node_findDot_0 : decode b_Node_findDot 0 = .ok (.aload_n 0, 1) := by decide +kernel
theorem d_Node_findDot_1 : decode b_Node_findDot 1 = .ok (.getfield 15, 3) := by decide +kernel
theorem d_Node_findDot_4 : decode b_Node_findDot 4 = .ok (.arraylength, 1) := by decide +kernel
theorem d_Node_findDot_5 : decode b_Node_findDot 5 = .ok (.iconst 1, 1) := by decide +kernel
theorem d_Node_findDot_6 : decode b_Node_findDot 6 = .ok (.isub, 1) := by decide +kernel
theorem d_Node_findDot_7 : decode b_Node_findDot 7 = .ok (.istore_n 1, 1) := by decide +kernel
theorem d_Node_findDot_8 : decode b_Node_findDot 8 = .ok (.iload_n 1, 1) := by decide +kernel
theorem d_Node_findDot_9 : decode b_Node_findDot 9 = .ok (.ifCond .le 22, 3) := by decide +kernel
theorem d_Node_findDot_12 : decode b_Node_findDot 12 = .ok (.aload_n 0, 1) := by decide +kernel
theorem d_Node_findDot_13 : decode b_Node_findDot 13 = .ok (.getfield 15, 3) := by decide +kernel
theorem d_Node_findDot_16 : decode b_Node_findDot 16 = .ok (.iload_n 1, 1) := by decide +kernel
theorem d_Node_findDot_17 : decode b_Node_findDot 17 = .ok (.baload, 1) := by decide +kernel
theorem d_Node_findDot_18 : decode b_Node_findDot 18 = .ok (.bipush 46, 2) := by decide +kernel
theorem d_Node_findDot_20 : decode b_Node_findDot 20 = .ok (.if_icmp .ne 5, 3) := by decide +kernel
theorem d_Node_findDot_23 : decode b_Node_findDot 23 = .ok (.iload_n 1, 1) := by decide +kernel
theorem d_Node_findDot_24 : decode b_Node_findDot 24 = .ok (.ireturn, 1) := by decide +kernel
theorem d_Node_findDot_25 : decode b_Node_findDot 25 = .ok (.iinc 1 (-1), 3) := by decide +kernel
theorem d_Node_findDot_28 : decode b_Node_findDot 28 = .ok (.goto (-20), 3) := by decide +kernel
theorem d_Node_findDot_31 : decode b_Node_findDot 31 = .ok (.aload_n 0, 1) := by decide +kernel
theorem d_Node_findDot_32 : decode b_Node_findDot 32 = .ok (.getfield 15, 3) := by decide +kernel
theorem d_Node_findDot_35 : decode b_Node_findDot 35 = .ok (.arraylength, 1) := by decide +kernel
theorem d_Node_findDot_36 : decode b_Node_findDot 36 = .ok (.ireturn, 1) := by decide +kernel
set_option maxHeartbeats 4000000 in
set_option maxRecDepth 100000 in
theorem c3_findDot (l : Launch) (D : va_G) (cB cI cJ cZ cN cF : ClassId) (sz : Nat) (h0 : Nat) (kna : Nat) (kke : Nat) (kta : Nat) (so : Int32) (nu : Int32) (pa : Int32) (ab : Int32) (mo : Int32) (ow : Int32) (gr : Int32) (si : Int32) (sd : Int32) (l1 : Nat) (c1 : Nat → Int32) (hl1 : l1 ≤ 400) : Met l y_Node_findDot w_Node_findDot ({ frames := 0, cells := 0, slots := 0, locals := 0 }) (va_Pc [.ref h0] (fun U => U.heap.size = sz ∧ va_P D CL [] U.heap ∧ va_K D CL (TY cB cI cJ cZ cN cF) U ∧ NN U ∧ va_D (fun _ => True) [] ∧ RO D [(h0, .inr (5, [.int so, .ref kna, .ref kke, .ref kta, .int nu, .int pa, .int ab, .int mo, .int ow, .int gr, .int si, .int sd])), (kna, .inl (cB, l1, .inl c1))] (va_A [] sz) U U.heap)) (va_Qi (fun (r : Int32) (u : Unit) => (0 ≤ r.toInt ∧ r.toInt ≤ l1)) (fun (u : Unit) (t : State) => match u with | () => va_P D CL [] t.heap ∧ va_D (va_A [] sz) []) (va_A [] sz)) 0 0 (va_A [] sz) := by
  refine Met.ofW (cc := b_Node_findDot) (maxL := 2) (ret := some .int) (by decide +kernel) rfl ?_
  intro p e s m args below meth c s₁ B hml hv
  obtain ⟨rfl, hsz, hP, hK, hN, hD0, hZr⟩ := hv
  have hx := B.exec
  have hb := B.bytes
  have hr := B.returns
  have hts := atoms_spec (ws := w_Node_findDot) B.pre
  have ht9 := fun (w : Cond) (h : w ∈ lw_g) => hts w (List.mem_cons_of_mem _ h)
  have hown : s.vm.findClass "DiscMaker$Node" = some m.cls := findClass_of_methodNamed B.named
  have hlocks := B.notSynchronized
  subst hsz
  have hD := hD0.self (sz := s.heap.size)
  generalize hAe : va_A [] s.heap.size = A at hD hZr ⊢
  have hA : ∀ q : Nat, s.heap.size ≤ q → A q := fun q h => by rw [← hAe]; exact Or.inr h
  have hS : va_S A s.heap s.heap [] := va_S.rf
  have hP : va_P D CL [] s.heap := hP
  have hl := lv_entry [.ref h0] (n := 2) (Nat.le_of_ble_eq_true rfl)
  rw [lg_entry_eq]
  generalize (lg_sl [.ref h0] ++ List.replicate (2 - (lg_sl [.ref h0]).length) Slot.unset).toArray = ls at hl ⊢
  have hl : lv_has ls 2 [(0, .ref h0)] := hl
  have L_m1 : ((-1) : Int32).toInt = (-1) := by decide
  have L_0 : (0 : Int32).toInt = 0 := by decide
  have L_1 : (1 : Int32).toInt = 1 := by decide
  have L_46 : (46 : Int32).toInt = 46 := by decide
  refine lv_aload_n hx hb d_Node_findDot_0 rfl (lv_at hl 0 rfl) ?_
  have hPR := RO_at hZr hS
  refine va_get (D := D) (ci := 5) (v := .ref kna) (C := "DiscMaker$Node") (T := F_Node) (N := 12) hx hb ht9 in_Node hown hK hPR 0 rfl rfl 1 (by decide) (ht9 _ k183) (fun _ h9 => h9) rfl d_Node_findDot_1 ?_
  have hPR := RO_at hZr hS
  refine va_alen (v := nI l1) hx hb hK hPR 1 0 rfl rfl rfl d_Node_findDot_4 ?_
  refine lv_topi (fun v1 e_v1 => ?_)
  have t_v1 : v1.toInt = l1 := by rw [e_v1]; exact nI_toInt (by omega)
  refine lv_iconst (v := 1) hx hb d_Node_findDot_5 (by decide) ?_
  refine lv_isub hx hb d_Node_findDot_6 ?_
  refine lv_topi (fun v2 e_v2 => ?_)
  have t_v2 : v2.toInt = v1.toInt - 1 := by rw [e_v2]; exact i_sub rfl (by decide) (by omega) (by omega)
  refine lv_istore_n hx hb d_Node_findDot_7 rfl hl (by decide) rfl (fun ls hl => ?_)
  have hl : lv_has ls 2 [(1, .int v2), (0, .ref h0)] := hl
  refine zz_labM (B := fun (lk : Nat) (K : Heap → List Loc → Array Slot → List Value → Prop) => ∀ (kx : Int32) (H : Heap) (locs : List Loc) (ls : Array Slot), lk = (kx.toInt + 1).toNat → ((-1) ≤ kx.toInt ∧ kx.toInt < l1 ∨ kx.toInt = -1) → va_P D CL [] H → va_D A [] → va_S A s.heap H locs → lv_has ls 2 [(0, .ref h0), (1, .int kx)] → K H locs ls []) 8 ?_ ?_
  · skip
    intro lk ih8 kx H locs ls hm8 e1 hP hD hS hl
    refine lv_iload_n hx hb d_Node_findDot_8 rfl (lv_at hl 1 rfl) ?_
    refine lv_if_le (tgt := 31) hx hb d_Node_findDot_9 (by decide) (fun h_9 => ?_) (fun h_9 => ?_)
    · skip
      have g9_8 : kx.toInt ≤ 0 := (i_le rfl (by decide)).mp h_9
      refine lv_aload_n hx hb d_Node_findDot_31 rfl (lv_at hl 0 rfl) ?_
      have hPR := RO_at hZr hS
      refine va_get (D := D) (ci := 5) (v := .ref kna) (C := "DiscMaker$Node") (T := F_Node) (N := 12) hx hb ht9 in_Node hown hK hPR 0 rfl rfl 1 (by decide) (ht9 _ k183) (fun _ h9 => h9) rfl d_Node_findDot_32 ?_
      have hPR := RO_at hZr hS
      refine va_alen (v := nI l1) hx hb hK hPR 1 0 rfl rfl rfl d_Node_findDot_35 ?_
      refine lv_topi (fun v3 e_v3 => ?_)
      have t_v3 : v3.toInt = l1 := by rw [e_v3]; exact nI_toInt (by omega)
      have hP9 := hP.sub (ws' := []) [] rfl
      have hD9 := hD.sub (ws' := []) [] (by decide +kernel) rfl
      exact W.iret (v := v3) hx hb hr (fun t ht hW => ⟨⟨v3, (), rfl, (by (try dsimp only); first | assumption | omega | trivial), by rw [ht]; exact hP9, hD9⟩, hS.F ht⟩) hS.2.2 d_Node_findDot_36
    · skip
      have g9_8 : ¬ kx.toInt ≤ 0 := fun h8 => h_9 ((i_le rfl (by decide)).mpr h8)
      refine lv_aload_n hx hb d_Node_findDot_12 rfl (lv_at hl 0 rfl) ?_
      have hPR := RO_at hZr hS
      refine va_get (D := D) (ci := 5) (v := .ref kna) (C := "DiscMaker$Node") (T := F_Node) (N := 12) hx hb ht9 in_Node hown hK hPR 0 rfl rfl 1 (by decide) (ht9 _ k183) (fun _ h9 => h9) rfl d_Node_findDot_13 ?_
      refine lv_iload_n hx hb d_Node_findDot_16 rfl (lv_at hl 1 rfl) ?_
      have hPR := RO_at hZr hS
      refine va_bald hx hb hK hPR 1 0 rfl rfl (vp_in_iff.mpr ⟨by omega, by omega⟩) d_Node_findDot_17 ?_
      refine lv_topi (fun v4 e_v4 => ?_)
      refine lv_bipush (v := 46) hx hb d_Node_findDot_18 (by decide) ?_
      refine lv_icmp_ne (tgt := 25) hx hb d_Node_findDot_20 (by decide) (fun h_9 => ?_) (fun h_9 => ?_)
      · skip
        have g20_18 : ¬ v4.toInt = 46 := fun h8 => h_9 ((i_eq rfl (by decide)).mpr h8)
        obtain ⟨v5, e_v5⟩ : ∃ z : Int32, z = kx + (-1) := ⟨_, rfl⟩
        refine lv_iinc (v := v5) hx hb d_Node_findDot_25 hl (k := 1) rfl e_v5.symm (by decide +kernel) rfl (fun ls hl => ?_)
        have t_v5 : v5.toInt = kx.toInt + (-1) := by rw [e_v5]; exact i_add rfl (by decide) (by omega) (by omega)
        have hl : lv_has ls 2 [(1, .int v5), (0, .ref h0)] := hl
        refine lv_goto (tgt := 8) hx hb d_Node_findDot_28 (by decide) ?_
        have hP := hP.sub (ws' := []) [] rfl
        have hD := hD.sub (ws' := []) [] (by decide +kernel) rfl
        have hl := lv_sub hl [1, 0] rfl
        exact ih8 _ (by first | omega | (dsimp only; omega)) v5 _ _ _ rfl ((by (try dsimp only); first | assumption | omega | trivial)) hP hD hS hl
      · skip
        have g20_18 : v4.toInt = 46 := (i_eq rfl (by decide)).mp h_9
        refine lv_iload_n hx hb d_Node_findDot_23 rfl (lv_at hl 1 rfl) ?_
        have hP9 := hP.sub (ws' := []) [] rfl
        have hD9 := hD.sub (ws' := []) [] (by decide +kernel) rfl
        exact W.iret (v := kx) hx hb hr (fun t ht hW => ⟨⟨kx, (), rfl, (by (try dsimp only); first | assumption | omega | trivial), by rw [ht]; exact hP9, hD9⟩, hS.F ht⟩) hS.2.2 d_Node_findDot_24
  · skip
    intro kk8
    have hP := hP.sub (ws' := []) [] rfl
    have hD := hD.sub (ws' := []) [] (by decide +kernel) rfl
    have hl := lv_sub hl [1, 0] rfl
    exact kk8 _ v2 _ _ _ rfl ((by (try dsimp only); first | assumption | omega | trivial)) hP hD hS hl

theorem d_Node_setPlainKey_0 : decode b_Node_setPlainKey 0 = .ok (.aload_n 0, 1) := by decide +kernel
theorem d_Node_setPlainKey_1 : decode b_Node_setPlainKey 1 = .ok (.getfield 9, 3) := by decide +kernel
theorem d_Node_setPlainKey_4 : decode b_Node_setPlainKey 4 = .ok (.ifCond .ne 11, 3) := by decide +kernel
theorem d_Node_setPlainKey_7 : decode b_Node_setPlainKey 7 = .ok (.aload_n 0, 1) := by decide +kernel
theorem d_Node_setPlainKey_8 : decode b_Node_setPlainKey 8 = .ok (.getfield 15, 3) := by decide +kernel
theorem d_Node_setPlainKey_11 : decode b_Node_setPlainKey 11 = .ok (.arraylength, 1) := by decide +kernel
theorem d_Node_setPlainKey_12 : decode b_Node_setPlainKey 12 = .ok (.goto 7, 3) := by decide +kernel
theorem d_Node_setPlainKey_15 : decode b_Node_setPlainKey 15 = .ok (.aload_n 0, 1) := by decide +kernel
theorem d_Node_setPlainKey_16 : decode b_Node_setPlainKey 16 = .ok (.invokevirtual 34, 3) := by decide +kernel
theorem d_Node_setPlainKey_19 : decode b_Node_setPlainKey 19 = .ok (.istore_n 1, 1) := by decide +kernel
theorem d_Node_setPlainKey_20 : decode b_Node_setPlainKey 20 = .ok (.aload_n 0, 1) := by decide +kernel
theorem d_Node_setPlainKey_21 : decode b_Node_setPlainKey 21 = .ok (.getfield 31, 3) := by decide +kernel
theorem d_Node_setPlainKey_24 : decode b_Node_setPlainKey 24 = .ok (.bipush 32, 2) := by decide +kernel
theorem d_Node_setPlainKey_26 : decode b_Node_setPlainKey 26 = .ok (.invokestatic 38, 3) := by decide +kernel
theorem d_Node_setPlainKey_29 : decode b_Node_setPlainKey 29 = .ok (.iconst 0, 1) := by decide +kernel
theorem d_Node_setPlainKey_30 : decode b_Node_setPlainKey 30 = .ok (.istore_n 2, 1) := by decide +kernel
theorem d_Node_setPlainKey_31 : decode b_Node_setPlainKey 31 = .ok (.iload_n 2, 1) := by decide +kernel
theorem d_Node_setPlainKey_32 : decode b_Node_setPlainKey 32 = .ok (.bipush 8, 2) := by decide +kernel
theorem d_Node_setPlainKey_34 : decode b_Node_setPlainKey 34 = .ok (.if_icmp .ge 29, 3) := by decide +kernel
theorem d_Node_setPlainKey_37 : decode b_Node_setPlainKey 37 = .ok (.iload_n 2, 1) := by decide +kernel
theorem d_Node_setPlainKey_38 : decode b_Node_setPlainKey 38 = .ok (.iload_n 1, 1) := by decide +kernel
theorem d_Node_setPlainKey_39 : decode b_Node_setPlainKey 39 = .ok (.if_icmp .ge 24, 3) := by decide +kernel
theorem d_Node_setPlainKey_42 : decode b_Node_setPlainKey 42 = .ok (.aload_n 0, 1) := by decide +kernel
theorem d_Node_setPlainKey_43 : decode b_Node_setPlainKey 43 = .ok (.getfield 31, 3) := by decide +kernel
theorem d_Node_setPlainKey_46 : decode b_Node_setPlainKey 46 = .ok (.iload_n 2, 1) := by decide +kernel
theorem d_Node_setPlainKey_47 : decode b_Node_setPlainKey 47 = .ok (.aload_n 0, 1) := by decide +kernel
theorem d_Node_setPlainKey_48 : decode b_Node_setPlainKey 48 = .ok (.getfield 15, 3) := by decide +kernel
theorem d_Node_setPlainKey_51 : decode b_Node_setPlainKey 51 = .ok (.iload_n 2, 1) := by decide +kernel
theorem d_Node_setPlainKey_52 : decode b_Node_setPlainKey 52 = .ok (.baload, 1) := by decide +kernel
theorem d_Node_setPlainKey_53 : decode b_Node_setPlainKey 53 = .ok (.invokestatic 44, 3) := by decide +kernel
theorem d_Node_setPlainKey_56 : decode b_Node_setPlainKey 56 = .ok (.bastore, 1) := by decide +kernel
theorem d_Node_setPlainKey_57 : decode b_Node_setPlainKey 57 = .ok (.iinc 2 1, 3) := by decide +kernel
theorem d_Node_setPlainKey_60 : decode b_Node_setPlainKey 60 = .ok (.goto (-29), 3) := by decide +kernel
theorem d_Node_setPlainKey_63 : decode b_Node_setPlainKey 63 = .ok (.iconst 0, 1) := by decide +kernel
theorem d_Node_setPlainKey_64 : decode b_Node_setPlainKey 64 = .ok (.istore_n 2, 1) := by decide +kernel
theorem d_Node_setPlainKey_65 : decode b_Node_setPlainKey 65 = .ok (.iload_n 2, 1) := by decide +kernel
theorem d_Node_setPlainKey_66 : decode b_Node_setPlainKey 66 = .ok (.iconst 3, 1) := by decide +kernel
theorem d_Node_setPlainKey_67 : decode b_Node_setPlainKey 67 = .ok (.if_icmp .ge 44, 3) := by decide +kernel
theorem d_Node_setPlainKey_70 : decode b_Node_setPlainKey 70 = .ok (.iload_n 1, 1) := by decide +kernel
theorem d_Node_setPlainKey_71 : decode b_Node_setPlainKey 71 = .ok (.iconst 1, 1) := by decide +kernel
theorem d_Node_setPlainKey_72 : decode b_Node_setPlainKey 72 = .ok (.iadd, 1) := by decide +kernel
theorem d_Node_setPlainKey_73 : decode b_Node_setPlainKey 73 = .ok (.iload_n 2, 1) := by decide +kernel
theorem d_Node_setPlainKey_74 : decode b_Node_setPlainKey 74 = .ok (.iadd, 1) := by decide +kernel
theorem d_Node_setPlainKey_75 : decode b_Node_setPlainKey 75 = .ok (.aload_n 0, 1) := by decide +kernel
theorem d_Node_setPlainKey_76 : decode b_Node_setPlainKey 76 = .ok (.getfield 15, 3) := by decide +kernel
theorem d_Node_setPlainKey_79 : decode b_Node_setPlainKey 79 = .ok (.arraylength, 1) := by decide +kernel
theorem d_Node_setPlainKey_80 : decode b_Node_setPlainKey 80 = .ok (.if_icmp .ge 31, 3) := by decide +kernel
theorem d_Node_setPlainKey_83 : decode b_Node_setPlainKey 83 = .ok (.aload_n 0, 1) := by decide +kernel
theorem d_Node_setPlainKey_84 : decode b_Node_setPlainKey 84 = .ok (.getfield 31, 3) := by decide +kernel
theorem d_Node_setPlainKey_87 : decode b_Node_setPlainKey 87 = .ok (.bipush 8, 2) := by decide +kernel
theorem d_Node_setPlainKey_89 : decode b_Node_setPlainKey 89 = .ok (.iload_n 2, 1) := by decide +kernel
theorem d_Node_setPlainKey_90 : decode b_Node_setPlainKey 90 = .ok (.iadd, 1) := by decide +kernel
theorem d_Node_setPlainKey_91 : decode b_Node_setPlainKey 91 = .ok (.aload_n 0, 1) := by decide +kernel
theorem d_Node_setPlainKey_92 : decode b_Node_setPlainKey 92 = .ok (.getfield 15, 3) := by decide +kernel
theorem d_Node_setPlainKey_95 : decode b_Node_setPlainKey 95 = .ok (.iload_n 1, 1) := by decide +kernel
theorem d_Node_setPlainKey_96 : decode b_Node_setPlainKey 96 = .ok (.iconst 1, 1) := by decide +kernel
theorem d_Node_setPlainKey_97 : decode b_Node_setPlainKey 97 = .ok (.iadd, 1) := by decide +kernel
theorem d_Node_setPlainKey_98 : decode b_Node_setPlainKey 98 = .ok (.iload_n 2, 1) := by decide +kernel
theorem d_Node_setPlainKey_99 : decode b_Node_setPlainKey 99 = .ok (.iadd, 1) := by decide +kernel
theorem d_Node_setPlainKey_100 : decode b_Node_setPlainKey 100 = .ok (.baload, 1) := by decide +kernel
theorem d_Node_setPlainKey_101 : decode b_Node_setPlainKey 101 = .ok (.invokestatic 44, 3) := by decide +kernel
theorem d_Node_setPlainKey_104 : decode b_Node_setPlainKey 104 = .ok (.bastore, 1) := by decide +kernel
theorem d_Node_setPlainKey_105 : decode b_Node_setPlainKey 105 = .ok (.iinc 2 1, 3) := by decide +kernel
theorem d_Node_setPlainKey_108 : decode b_Node_setPlainKey 108 = .ok (.goto (-43), 3) := by decide +kernel
theorem d_Node_setPlainKey_111 : decode b_Node_setPlainKey 111 = .ok (.return_, 1) := by decide +kernel
set_option maxHeartbeats 4000000 in
set_option maxRecDepth 100000 in
theorem c3_setPlainKey (l : Launch) (D : va_G) (cB cI cJ cZ cN cF : ClassId) (sz : Nat) (h0 : Nat) (kna : Nat) (kke : Nat) (kta : Nat) (so : Int32) (nu : Int32) (pa : Int32) (ab : Int32) (mo : Int32) (ow : Int32) (gr : Int32) (si : Int32) (sd : Int32) (l1 : Nat) (c1 : Nat → Int32) (c2 : Nat → Int32) (hl1 : l1 ≤ 400) (hB : Rg (-128) 127 l1 c1) : Met l y_Node_setPlainKey w_Node_setPlainKey ({ frames := 2, cells := 0, slots := 0, locals := 52 }) (va_Pc [.ref h0] (fun U => U.heap.size = sz ∧ va_P D CL [(h0, .inr (5, [.int so, .ref kna, .ref kke, .ref kta, .int nu, .int pa, .int ab, .int mo, .int ow, .int gr, .int si, .int sd])), (kna, .inl (cB, l1, .inl c1)), (kke, .inl (cB, 11, .inl c2))] U.heap ∧ va_K D CL (TY cB cI cJ cZ cN cF) U ∧ NN U ∧ va_D (fun _ => True) [(h0, .inr (5, [.int so, .ref kna, .ref kke, .ref kta, .int nu, .int pa, .int ab, .int mo, .int ow, .int gr, .int si, .int sd])), (kna, .inl (cB, l1, .inl c1)), (kke, .inl (cB, 11, .inl c2))])) (va_Qv (fun (u : (Nat → Int32)) => True) (fun (u : (Nat → Int32)) (t : State) => match u with | g => va_P D CL [(h0, .inr (5, [.int so, .ref kna, .ref kke, .ref kta, .int nu, .int pa, .int ab, .int mo, .int ow, .int gr, .int si, .int sd])), (kna, .inl (cB, l1, .inl c1)), (kke, .inl (cB, 11, .inl g))] t.heap ∧ va_D (va_A [(h0, .inr (5, [.int so, .ref kna, .ref kke, .ref kta, .int nu, .int pa, .int ab, .int mo, .int ow, .int gr, .int si, .int sd])), (kna, .inl (cB, l1, .inl c1)), (kke, .inl (cB, 11, .inl c2))] sz) [(h0, .inr (5, [.int so, .ref kna, .ref kke, .ref kta, .int nu, .int pa, .int ab, .int mo, .int ow, .int gr, .int si, .int sd])), (kna, .inl (cB, l1, .inl c1)), (kke, .inl (cB, 11, .inl g))]) (va_A [(h0, .inr (5, [.int so, .ref kna, .ref kke, .ref kta, .int nu, .int pa, .int ab, .int mo, .int ow, .int gr, .int si, .int sd])), (kna, .inl (cB, l1, .inl c1)), (kke, .inl (cB, 11, .inl c2))] sz)) 0 0 (va_A [(h0, .inr (5, [.int so, .ref kna, .ref kke, .ref kta, .int nu, .int pa, .int ab, .int mo, .int ow, .int gr, .int si, .int sd])), (kna, .inl (cB, l1, .inl c1)), (kke, .inl (cB, 11, .inl c2))] sz) := by
  refine Met.ofW (cc := b_Node_setPlainKey) (maxL := 3) (ret := none) (by decide +kernel) rfl ?_
  intro p e s m args below meth c s₁ B hml hv
  obtain ⟨rfl, hsz, hP, hK, hN, hD0⟩ := hv
  have hx := B.exec
  have hb := B.bytes
  have hr := B.returns
  have hts := atoms_spec (ws := w_Node_setPlainKey) B.pre
  have ht9 := fun (w : Cond) (h : w ∈ lw_g) => hts w (List.mem_cons_of_mem _ h)
  have hown : s.vm.findClass "DiscMaker$Node" = some m.cls := findClass_of_methodNamed B.named
  have hlocks := B.notSynchronized
  subst hsz
  have hD := hD0.self (sz := s.heap.size)
  generalize hAe : va_A [(h0, .inr (5, [.int so, .ref kna, .ref kke, .ref kta, .int nu, .int pa, .int ab, .int mo, .int ow, .int gr, .int si, .int sd])), (kna, .inl (cB, l1, .inl c1)), (kke, .inl (cB, 11, .inl c2))] s.heap.size = A at hD ⊢
  have hA : ∀ q : Nat, s.heap.size ≤ q → A q := fun q h => by rw [← hAe]; exact Or.inr h
  have hS : va_S A s.heap s.heap [] := va_S.rf
  have hP : va_P D CL [(h0, .inr (5, [.int so, .ref kna, .ref kke, .ref kta, .int nu, .int pa, .int ab, .int mo, .int ow, .int gr, .int si, .int sd])), (kna, .inl (cB, l1, .inl c1)), (kke, .inl (cB, 11, .inl c2))] s.heap := hP
  have hl := lv_entry [.ref h0] (n := 3) (Nat.le_of_ble_eq_true rfl)
  rw [lg_entry_eq]
  generalize (lg_sl [.ref h0] ++ List.replicate (3 - (lg_sl [.ref h0]).length) Slot.unset).toArray = ls at hl ⊢
  have hl : lv_has ls 3 [(0, .ref h0)] := hl
  have L_m1 : ((-1) : Int32).toInt = (-1) := by decide
  have L_0 : (0 : Int32).toInt = 0 := by decide
  have L_1 : (1 : Int32).toInt = 1 := by decide
  have L_3 : (3 : Int32).toInt = 3 := by decide
  have L_8 : (8 : Int32).toInt = 8 := by decide
  have L_32 : (32 : Int32).toInt = 32 := by decide
  refine zz_labM (B := fun (lk : Nat) (K : Heap → List Loc → Array Slot → List Value → Prop) => ∀ (dt : Int32) (H : Heap) (locs : List Loc) (ls : Array Slot), lk = 0 → (0 ≤ dt.toInt ∧ dt.toInt ≤ l1) → va_P D CL [(h0, .inr (5, [.int so, .ref kna, .ref kke, .ref kta, .int nu, .int pa, .int ab, .int mo, .int ow, .int gr, .int si, .int sd])), (kna, .inl (cB, l1, .inl c1)), (kke, .inl (cB, 11, .inl c2))] H → va_D A [(h0, .inr (5, [.int so, .ref kna, .ref kke, .ref kta, .int nu, .int pa, .int ab, .int mo, .int ow, .int gr, .int si, .int sd])), (kna, .inl (cB, l1, .inl c1)), (kke, .inl (cB, 11, .inl c2))] → va_S A s.heap H locs → lv_has ls 3 [(0, .ref h0)] → K H locs ls [.int dt]) 19 ?_ ?_
  · skip
    intro lk ih19 dt H locs ls hm19 e1 hP hD hS hl
    refine lv_istore_n hx hb d_Node_setPlainKey_19 rfl hl (by decide) rfl (fun ls hl => ?_)
    have hl : lv_has ls 3 [(1, .int dt), (0, .ref h0)] := hl
    refine lv_aload_n hx hb d_Node_setPlainKey_20 rfl (lv_at hl 1 rfl) ?_
    refine va_get (D := D) (ci := 5) (v := .ref kke) (C := "DiscMaker$Node") (T := F_Node) (N := 12) hx hb ht9 in_Node hown hK hP 0 rfl rfl 2 (by decide) (ht9 _ k188) (fun _ h9 => h9) rfl d_Node_setPlainKey_21 ?_
    refine lv_bipush (v := 32) hx hb d_Node_setPlainKey_24 (by decide) ?_
    have hPc := hP.sub (ws' := [(kke, .inl (cB, 11, .inl c2))]) [2] rfl
    have hDc := hD.sub (ws' := [(kke, .inl (cB, 11, .inl c2))]) [2] (by decide +kernel) rfl
    have hFc := va_free (wc := [(kke, .inl (cB, 11, .inl c2))]) hD hS hA [2] rfl
    have hkc : 0 ≤ 0 := by decide
    have hks : 0 ≤ 0 := by decide
    refine va_callv (va_runS (As := [.ref kke, .int 32]) (rest := []) ⟨hx, hb, hml, hown, hts⟩ (c3_Arrays_fill l D cB cI cJ cZ cN cF H.size kke 11 c2 32 (by (try dsimp only); first | assumption | omega | trivial)) (va_cwS 2 hts (lg_goodSX k843 k844 k126 kc_Arrays_fill) rfl rfl rfl (by decide +kernel) ⟨Nat.le_of_ble_eq_true rfl, Nat.le_of_ble_eq_true rfl⟩) ⟨fun a U g mk q => by obtain ⟨q0, q1, qP, qK, qN, qD⟩ := q; exact ⟨q0, q1, qP, va_K.moved (u := U) (U := U.calling g mk a) (Vm.Alike.refl U.vm) qK, qN.calling, qD⟩, fun U hU hW => ⟨rfl, by rw [hU], by rw [hU]; exact hPc, va_K.moved hW.alike hK, NN.warm hW hN, hDc.weaken (fun _ _ _ _ => trivial)⟩⟩ rfl rfl hl.1 rfl (lv_room (Nat.le_of_ble_eq_true rfl)) d_Node_setPlainKey_26 ⟨hkc, hks⟩) hS (fun q _ h => hFc q h) hFc (fun u t H1 locs ht hvm hp_r1 hB hz1 hk1 hS => ?_)
    obtain ⟨g_2, rfl⟩ : ∃ z, z = u := ⟨_, rfl⟩
    obtain ⟨hP1, hD1⟩ := hB
    rw [ht] at hP1
    obtain ⟨hP, hD⟩ := va_join (wr := [(h0, .inr (5, [.int so, .ref kna, .ref kke, .ref kta, .int nu, .int pa, .int ab, .int mo, .int ow, .int gr, .int si, .int sd])), (kna, .inl (cB, l1, .inl c1))]) (w1 := [(kke, .inl (cB, 11, .inl g_2))]) hP hD [2] [0, 1] rfl rfl (by decide +kernel) (by decide +kernel) hk1 hFc hP1 hD1
    clear hPc hDc hFc hP1 hD1 hk1 hz1 hkc hks
    generalize H1 = H at hP hS ⊢
    have hP : va_P D CL [(h0, .inr (5, [.int so, .ref kna, .ref kke, .ref kta, .int nu, .int pa, .int ab, .int mo, .int ow, .int gr, .int si, .int sd])), (kna, .inl (cB, l1, .inl c1)), (kke, .inl (cB, 11, .inl g_2))] H := hP
    have hD : va_D A [(h0, .inr (5, [.int so, .ref kna, .ref kke, .ref kta, .int nu, .int pa, .int ab, .int mo, .int ow, .int gr, .int si, .int sd])), (kna, .inl (cB, l1, .inl c1)), (kke, .inl (cB, 11, .inl g_2))] := hD
    refine lv_iconst (v := 0) hx hb d_Node_setPlainKey_29 (by decide) ?_
    refine lv_istore_n hx hb d_Node_setPlainKey_30 rfl hl (by decide) rfl (fun ls hl => ?_)
    have hl : lv_has ls 3 [(2, .int 0), (1, .int dt), (0, .ref h0)] := hl
    refine zz_labM (B := fun (lk : Nat) (K : Heap → List Loc → Array Slot → List Value → Prop) => ∀ (kx : Int32) (lf : Nat → Int32) (H : Heap) (locs : List Loc) (ls : Array Slot), lk = (8 - kx.toInt).toNat → (0 ≤ kx.toInt ∧ kx.toInt ≤ 8) → va_P D CL [(h0, .inr (5, [.int so, .ref kna, .ref kke, .ref kta, .int nu, .int pa, .int ab, .int mo, .int ow, .int gr, .int si, .int sd])), (kna, .inl (cB, l1, .inl c1)), (kke, .inl (cB, 11, .inl lf))] H → va_D A [(h0, .inr (5, [.int so, .ref kna, .ref kke, .ref kta, .int nu, .int pa, .int ab, .int mo, .int ow, .int gr, .int si, .int sd])), (kna, .inl (cB, l1, .inl c1)), (kke, .inl (cB, 11, .inl lf))] → va_S A s.heap H locs → lv_has ls 3 [(0, .ref h0), (1, .int dt), (2, .int kx)] → K H locs ls []) 31 ?_ ?_
    · skip
      intro lk ih31 kx lf H locs ls hm31 e2 hP hD hS hl
      refine lv_iload_n hx hb d_Node_setPlainKey_31 rfl (lv_at hl 2 rfl) ?_
      refine lv_bipush (v := 8) hx hb d_Node_setPlainKey_32 (by decide) ?_
      refine lv_icmp_ge (tgt := 63) hx hb d_Node_setPlainKey_34 (by decide) (fun h_9 => ?_) (fun h_9 => ?_)
      · skip
        have g34_10 : 8 ≤ kx.toInt := (i_le (by decide) rfl).mp h_9
        refine lv_iconst (v := 0) hx hb d_Node_setPlainKey_63 (by decide) ?_
        refine lv_istore_n hx hb d_Node_setPlainKey_64 rfl hl (by decide) rfl (fun ls hl => ?_)
        have hl : lv_has ls 3 [(2, .int 0), (0, .ref h0), (1, .int dt)] := hl
        refine zz_labM (B := fun (lk : Nat) (K : Heap → List Loc → Array Slot → List Value → Prop) => ∀ (ky : Int32) (lg : Nat → Int32) (H : Heap) (locs : List Loc) (ls : Array Slot), lk = (3 - ky.toInt).toNat → (0 ≤ ky.toInt ∧ ky.toInt ≤ 3) → va_P D CL [(h0, .inr (5, [.int so, .ref kna, .ref kke, .ref kta, .int nu, .int pa, .int ab, .int mo, .int ow, .int gr, .int si, .int sd])), (kna, .inl (cB, l1, .inl c1)), (kke, .inl (cB, 11, .inl lg))] H → va_D A [(h0, .inr (5, [.int so, .ref kna, .ref kke, .ref kta, .int nu, .int pa, .int ab, .int mo, .int ow, .int gr, .int si, .int sd])), (kna, .inl (cB, l1, .inl c1)), (kke, .inl (cB, 11, .inl lg))] → va_S A s.heap H locs → lv_has ls 3 [(0, .ref h0), (1, .int dt), (2, .int ky)] → K H locs ls []) 65 ?_ ?_
        · skip
          intro lk ih65 ky lg H locs ls hm65 e3 hP hD hS hl
          refine lv_iload_n hx hb d_Node_setPlainKey_65 rfl (lv_at hl 2 rfl) ?_
          refine lv_iconst (v := 3) hx hb d_Node_setPlainKey_66 (by decide) ?_
          refine lv_icmp_ge (tgt := 111) hx hb d_Node_setPlainKey_67 (by decide) (fun h_9 => ?_) (fun h_9 => ?_)
          · skip
            have g67_15 : 3 ≤ ky.toInt := (i_le (by decide) rfl).mp h_9
            have hP9 := hP.sub (ws' := [(h0, .inr (5, [.int so, .ref kna, .ref kke, .ref kta, .int nu, .int pa, .int ab, .int mo, .int ow, .int gr, .int si, .int sd])), (kna, .inl (cB, l1, .inl c1)), (kke, .inl (cB, 11, .inl lg))]) [0, 1, 2] rfl
            have hD9 := hD.sub (ws' := [(h0, .inr (5, [.int so, .ref kna, .ref kke, .ref kta, .int nu, .int pa, .int ab, .int mo, .int ow, .int gr, .int si, .int sd])), (kna, .inl (cB, l1, .inl c1)), (kke, .inl (cB, 11, .inl lg))]) [0, 1, 2] (by decide +kernel) rfl
            exact W.vret hx hb hr (fun t ht hW => ⟨⟨lg, rfl, trivial, by rw [ht]; exact hP9, hD9⟩, hS.F ht⟩) hS.2.2 d_Node_setPlainKey_111
          · skip
            have g67_15 : ¬ 3 ≤ ky.toInt := fun h8 => h_9 ((i_le (by decide) rfl).mpr h8)
            refine lv_iload_n hx hb d_Node_setPlainKey_70 rfl (lv_at hl 1 rfl) ?_
            refine lv_iconst (v := 1) hx hb d_Node_setPlainKey_71 (by decide) ?_
            refine lv_iadd hx hb d_Node_setPlainKey_72 ?_
            refine lv_topi (fun v3 e_v3 => ?_)
            have t_v3 : v3.toInt = dt.toInt + 1 := by rw [e_v3]; exact i_add rfl (by decide) (by omega) (by omega)
            refine lv_iload_n hx hb d_Node_setPlainKey_73 rfl (lv_at hl 2 rfl) ?_
            refine lv_iadd hx hb d_Node_setPlainKey_74 ?_
            refine lv_topi (fun v4 e_v4 => ?_)
            have t_v4 : v4.toInt = v3.toInt + ky.toInt := by rw [e_v4]; exact i_add rfl rfl (by omega) (by omega)
            refine lv_aload_n hx hb d_Node_setPlainKey_75 rfl (lv_at hl 0 rfl) ?_
            refine va_get (D := D) (ci := 5) (v := .ref kna) (C := "DiscMaker$Node") (T := F_Node) (N := 12) hx hb ht9 in_Node hown hK hP 0 rfl rfl 1 (by decide) (ht9 _ k183) (fun _ h9 => h9) rfl d_Node_setPlainKey_76 ?_
            refine va_alen (v := nI l1) hx hb hK hP 1 0 rfl rfl rfl d_Node_setPlainKey_79 ?_
            refine lv_topi (fun v5 e_v5 => ?_)
            have t_v5 : v5.toInt = l1 := by rw [e_v5]; exact nI_toInt (by omega)
            refine lv_icmp_ge (tgt := 111) hx hb d_Node_setPlainKey_80 (by decide) (fun h_9 => ?_) (fun h_9 => ?_)
            · skip
              have g80_25 : v5.toInt ≤ v4.toInt := (i_le rfl rfl).mp h_9
              have hP9 := hP.sub (ws' := [(h0, .inr (5, [.int so, .ref kna, .ref kke, .ref kta, .int nu, .int pa, .int ab, .int mo, .int ow, .int gr, .int si, .int sd])), (kna, .inl (cB, l1, .inl c1)), (kke, .inl (cB, 11, .inl lg))]) [0, 1, 2] rfl
              have hD9 := hD.sub (ws' := [(h0, .inr (5, [.int so, .ref kna, .ref kke, .ref kta, .int nu, .int pa, .int ab, .int mo, .int ow, .int gr, .int si, .int sd])), (kna, .inl (cB, l1, .inl c1)), (kke, .inl (cB, 11, .inl lg))]) [0, 1, 2] (by decide +kernel) rfl
              exact W.vret hx hb hr (fun t ht hW => ⟨⟨lg, rfl, trivial, by rw [ht]; exact hP9, hD9⟩, hS.F ht⟩) hS.2.2 d_Node_setPlainKey_111
            · skip
              have g80_25 : ¬ v5.toInt ≤ v4.toInt := fun h8 => h_9 ((i_le rfl rfl).mpr h8)
              refine lv_aload_n hx hb d_Node_setPlainKey_83 rfl (lv_at hl 0 rfl) ?_
              refine va_get (D := D) (ci := 5) (v := .ref kke) (C := "DiscMaker$Node") (T := F_Node) (N := 12) hx hb ht9 in_Node hown hK hP 0 rfl rfl 2 (by decide) (ht9 _ k188) (fun _ h9 => h9) rfl d_Node_setPlainKey_84 ?_
              refine lv_bipush (v := 8) hx hb d_Node_setPlainKey_87 (by decide) ?_
              refine lv_iload_n hx hb d_Node_setPlainKey_89 rfl (lv_at hl 2 rfl) ?_
              refine lv_iadd hx hb d_Node_setPlainKey_90 ?_
              refine lv_topi (fun v6 e_v6 => ?_)
              have t_v6 : v6.toInt = 8 + ky.toInt := by rw [e_v6]; exact i_add (by decide) rfl (by omega) (by omega)
              refine lv_aload_n hx hb d_Node_setPlainKey_91 rfl (lv_at hl 0 rfl) ?_
              refine va_get (D := D) (ci := 5) (v := .ref kna) (C := "DiscMaker$Node") (T := F_Node) (N := 12) hx hb ht9 in_Node hown hK hP 0 rfl rfl 1 (by decide) (ht9 _ k183) (fun _ h9 => h9) rfl d_Node_setPlainKey_92 ?_
              refine lv_iload_n hx hb d_Node_setPlainKey_95 rfl (lv_at hl 1 rfl) ?_
              refine lv_iconst (v := 1) hx hb d_Node_setPlainKey_96 (by decide) ?_
              refine lv_iadd hx hb d_Node_setPlainKey_97 ?_
              refine lv_topi (fun v7 e_v7 => ?_)
              have t_v7 : v7.toInt = dt.toInt + 1 := by rw [e_v7]; exact i_add rfl (by decide) (by omega) (by omega)
              refine lv_iload_n hx hb d_Node_setPlainKey_98 rfl (lv_at hl 2 rfl) ?_
              refine lv_iadd hx hb d_Node_setPlainKey_99 ?_
              refine lv_topi (fun v8 e_v8 => ?_)
              have t_v8 : v8.toInt = v7.toInt + ky.toInt := by rw [e_v8]; exact i_add rfl rfl (by omega) (by omega)
              refine va_bald hx hb hK hP 1 0 rfl rfl (vp_in_iff.mpr ⟨by omega, by omega⟩) d_Node_setPlainKey_100 ?_
              refine lv_topi (fun v9 e_v9 => ?_)
              have t_v9 : (-128) ≤ v9.toInt ∧ v9.toInt ≤ 127 := by
                rw [e_v9]; exact hB _ (by have := i_cl (a := v8) (by omega); omega)
              have hPc := hP.sub (ws' := []) [] rfl
              have hDc := hD.sub (ws' := []) [] (by decide +kernel) rfl
              have hFc := va_free (wc := []) hD hS hA [] rfl
              have hkc : 0 ≤ 0 := by decide
              have hks : 0 ≤ 0 := by decide
              refine va_calli (va_runS (As := [.int v9]) (rest := [.int v6, .ref kke]) ⟨hx, hb, hml, hown, hts⟩ (c3_capital l D cB cI cJ cZ cN cF H.size v9 (by (try dsimp only); first | assumption | omega | trivial)) (cwS 1 hts (lg_goodS k846 k847 k118 kc_Node_capital) rfl rfl rfl (by decide +kernel) ⟨Nat.le_of_ble_eq_true rfl, Nat.le_of_ble_eq_true rfl⟩) ⟨fun a U g mk q => by obtain ⟨q0, q1, qP, qK, qN, qD⟩ := q; exact ⟨q0, q1, qP, va_K.moved (u := U) (U := U.calling g mk a) (Vm.Alike.refl U.vm) qK, qN.calling, qD⟩, fun U hU hW => ⟨rfl, by rw [hU], by rw [hU]; exact hPc, va_K.moved hW.alike hK, NN.warm hW hN, hDc.weaken (fun _ _ _ _ => trivial)⟩⟩ rfl rfl hl.1 rfl (lv_room (Nat.le_of_ble_eq_true rfl)) d_Node_setPlainKey_101 ⟨hkc, hks⟩) hS (fun q _ h => hFc q h) hFc (fun r10 u t H1 locs ht hvm hp_r10 hB hz1 hk1 hS => ?_)
              obtain ⟨hP1, hD1⟩ := hB
              rw [ht] at hP1
              obtain ⟨hP, hD⟩ := va_join (wr := [(h0, .inr (5, [.int so, .ref kna, .ref kke, .ref kta, .int nu, .int pa, .int ab, .int mo, .int ow, .int gr, .int si, .int sd])), (kna, .inl (cB, l1, .inl c1)), (kke, .inl (cB, 11, .inl lg))]) (w1 := []) hP hD [] [0, 1, 2] rfl rfl (by decide +kernel) (by decide +kernel) hk1 hFc hP1 hD1
              clear hPc hDc hFc hP1 hD1 hk1 hz1 hkc hks
              generalize H1 = H at hP hS ⊢
              have hP : va_P D CL [(h0, .inr (5, [.int so, .ref kna, .ref kke, .ref kta, .int nu, .int pa, .int ab, .int mo, .int ow, .int gr, .int si, .int sd])), (kna, .inl (cB, l1, .inl c1)), (kke, .inl (cB, 11, .inl lg))] H := hP
              have hD : va_D A [(h0, .inr (5, [.int so, .ref kna, .ref kke, .ref kta, .int nu, .int pa, .int ab, .int mo, .int ow, .int gr, .int si, .int sd])), (kna, .inl (cB, l1, .inl c1)), (kke, .inl (cB, 11, .inl lg))] := hD
              try dsimp only at hp_r10
              have hr_11 := hp_r10
              refine zq_bast hx hb hK hP hD hS 2 0 rfl rfl (vp_in_iff.mpr ⟨by omega, by omega⟩) d_Node_setPlainKey_104 (fun fz12 e_fz12 H locs hP hD hS => ?_)
              have hP : va_P D CL [(h0, .inr (5, [.int so, .ref kna, .ref kke, .ref kta, .int nu, .int pa, .int ab, .int mo, .int ow, .int gr, .int si, .int sd])), (kna, .inl (cB, l1, .inl c1)), (kke, .inl (cB, 11, .inl fz12))] H := hP
              have hD : va_D A [(h0, .inr (5, [.int so, .ref kna, .ref kke, .ref kta, .int nu, .int pa, .int ab, .int mo, .int ow, .int gr, .int si, .int sd])), (kna, .inl (cB, l1, .inl c1)), (kke, .inl (cB, 11, .inl fz12))] := hD
              obtain ⟨v13, e_v13⟩ : ∃ z : Int32, z = ky + 1 := ⟨_, rfl⟩
              refine lv_iinc (v := v13) hx hb d_Node_setPlainKey_105 hl (k := 2) rfl e_v13.symm (by decide +kernel) rfl (fun ls hl => ?_)
              have t_v13 : v13.toInt = ky.toInt + 1 := by rw [e_v13]; exact i_add rfl (by decide) (by omega) (by omega)
              have hl : lv_has ls 3 [(2, .int v13), (0, .ref h0), (1, .int dt)] := hl
              refine lv_goto (tgt := 65) hx hb d_Node_setPlainKey_108 (by decide) ?_
              have hP := hP.sub (ws' := [(h0, .inr (5, [.int so, .ref kna, .ref kke, .ref kta, .int nu, .int pa, .int ab, .int mo, .int ow, .int gr, .int si, .int sd])), (kna, .inl (cB, l1, .inl c1)), (kke, .inl (cB, 11, .inl fz12))]) [0, 1, 2] rfl
              have hD := hD.sub (ws' := [(h0, .inr (5, [.int so, .ref kna, .ref kke, .ref kta, .int nu, .int pa, .int ab, .int mo, .int ow, .int gr, .int si, .int sd])), (kna, .inl (cB, l1, .inl c1)), (kke, .inl (cB, 11, .inl fz12))]) [0, 1, 2] (by decide +kernel) rfl
              have hl := lv_sub hl [1, 2, 0] rfl
              exact ih65 _ (by first | omega | (dsimp only; omega)) v13 fz12 _ _ _ rfl ((by (try dsimp only); first | assumption | omega | trivial)) hP hD hS hl
        · skip
          intro kk65
          have hP := hP.sub (ws' := [(h0, .inr (5, [.int so, .ref kna, .ref kke, .ref kta, .int nu, .int pa, .int ab, .int mo, .int ow, .int gr, .int si, .int sd])), (kna, .inl (cB, l1, .inl c1)), (kke, .inl (cB, 11, .inl lf))]) [0, 1, 2] rfl
          have hD := hD.sub (ws' := [(h0, .inr (5, [.int so, .ref kna, .ref kke, .ref kta, .int nu, .int pa, .int ab, .int mo, .int ow, .int gr, .int si, .int sd])), (kna, .inl (cB, l1, .inl c1)), (kke, .inl (cB, 11, .inl lf))]) [0, 1, 2] (by decide +kernel) rfl
          have hl := lv_sub hl [1, 2, 0] rfl
          exact kk65 _ 0 lf _ _ _ rfl ((by (try dsimp only); first | assumption | omega | trivial)) hP hD hS hl
      · skip
        have g34_10 : ¬ 8 ≤ kx.toInt := fun h8 => h_9 ((i_le (by decide) rfl).mpr h8)
        refine lv_iload_n hx hb d_Node_setPlainKey_37 rfl (lv_at hl 2 rfl) ?_
        refine lv_iload_n hx hb d_Node_setPlainKey_38 rfl (lv_at hl 1 rfl) ?_
        refine lv_icmp_ge (tgt := 63) hx hb d_Node_setPlainKey_39 (by decide) (fun h_9 => ?_) (fun h_9 => ?_)
        · skip
          have g39_47 : dt.toInt ≤ kx.toInt := (i_le rfl rfl).mp h_9
          refine lv_iconst (v := 0) hx hb d_Node_setPlainKey_63 (by decide) ?_
          refine lv_istore_n hx hb d_Node_setPlainKey_64 rfl hl (by decide) rfl (fun ls hl => ?_)
          have hl : lv_has ls 3 [(2, .int 0), (0, .ref h0), (1, .int dt)] := hl
          refine zz_labM (B := fun (lk : Nat) (K : Heap → List Loc → Array Slot → List Value → Prop) => ∀ (ky : Int32) (lg : Nat → Int32) (H : Heap) (locs : List Loc) (ls : Array Slot), lk = (3 - ky.toInt).toNat → (0 ≤ ky.toInt ∧ ky.toInt ≤ 3) → va_P D CL [(h0, .inr (5, [.int so, .ref kna, .ref kke, .ref kta, .int nu, .int pa, .int ab, .int mo, .int ow, .int gr, .int si, .int sd])), (kna, .inl (cB, l1, .inl c1)), (kke, .inl (cB, 11, .inl lg))] H → va_D A [(h0, .inr (5, [.int so, .ref kna, .ref kke, .ref kta, .int nu, .int pa, .int ab, .int mo, .int ow, .int gr, .int si, .int sd])), (kna, .inl (cB, l1, .inl c1)), (kke, .inl (cB, 11, .inl lg))] → va_S A s.heap H locs → lv_has ls 3 [(0, .ref h0), (1, .int dt), (2, .int ky)] → K H locs ls []) 65 ?_ ?_
          · skip
            intro lk ih65 ky lg H locs ls hm65 e3 hP hD hS hl
            refine lv_iload_n hx hb d_Node_setPlainKey_65 rfl (lv_at hl 2 rfl) ?_
            refine lv_iconst (v := 3) hx hb d_Node_setPlainKey_66 (by decide) ?_
            refine lv_icmp_ge (tgt := 111) hx hb d_Node_setPlainKey_67 (by decide) (fun h_9 => ?_) (fun h_9 => ?_)
            · skip
              have g67_52 : 3 ≤ ky.toInt := (i_le (by decide) rfl).mp h_9
              have hP9 := hP.sub (ws' := [(h0, .inr (5, [.int so, .ref kna, .ref kke, .ref kta, .int nu, .int pa, .int ab, .int mo, .int ow, .int gr, .int si, .int sd])), (kna, .inl (cB, l1, .inl c1)), (kke, .inl (cB, 11, .inl lg))]) [0, 1, 2] rfl
              have hD9 := hD.sub (ws' := [(h0, .inr (5, [.int so, .ref kna, .ref kke, .ref kta, .int nu, .int pa, .int ab, .int mo, .int ow, .int gr, .int si, .int sd])), (kna, .inl (cB, l1, .inl c1)), (kke, .inl (cB, 11, .inl lg))]) [0, 1, 2] (by decide +kernel) rfl
              exact W.vret hx hb hr (fun t ht hW => ⟨⟨lg, rfl, trivial, by rw [ht]; exact hP9, hD9⟩, hS.F ht⟩) hS.2.2 d_Node_setPlainKey_111
            · skip
              have g67_52 : ¬ 3 ≤ ky.toInt := fun h8 => h_9 ((i_le (by decide) rfl).mpr h8)
              refine lv_iload_n hx hb d_Node_setPlainKey_70 rfl (lv_at hl 1 rfl) ?_
              refine lv_iconst (v := 1) hx hb d_Node_setPlainKey_71 (by decide) ?_
              refine lv_iadd hx hb d_Node_setPlainKey_72 ?_
              refine lv_topi (fun v14 e_v14 => ?_)
              have t_v14 : v14.toInt = dt.toInt + 1 := by rw [e_v14]; exact i_add rfl (by decide) (by omega) (by omega)
              refine lv_iload_n hx hb d_Node_setPlainKey_73 rfl (lv_at hl 2 rfl) ?_
              refine lv_iadd hx hb d_Node_setPlainKey_74 ?_
              refine lv_topi (fun v15 e_v15 => ?_)
              have t_v15 : v15.toInt = v14.toInt + ky.toInt := by rw [e_v15]; exact i_add rfl rfl (by omega) (by omega)
              refine lv_aload_n hx hb d_Node_setPlainKey_75 rfl (lv_at hl 0 rfl) ?_
              refine va_get (D := D) (ci := 5) (v := .ref kna) (C := "DiscMaker$Node") (T := F_Node) (N := 12) hx hb ht9 in_Node hown hK hP 0 rfl rfl 1 (by decide) (ht9 _ k183) (fun _ h9 => h9) rfl d_Node_setPlainKey_76 ?_
              refine va_alen (v := nI l1) hx hb hK hP 1 0 rfl rfl rfl d_Node_setPlainKey_79 ?_
              refine lv_topi (fun v16 e_v16 => ?_)
              have t_v16 : v16.toInt = l1 := by rw [e_v16]; exact nI_toInt (by omega)
              refine lv_icmp_ge (tgt := 111) hx hb d_Node_setPlainKey_80 (by decide) (fun h_9 => ?_) (fun h_9 => ?_)
              · skip
                have g80_62 : v16.toInt ≤ v15.toInt := (i_le rfl rfl).mp h_9
                have hP9 := hP.sub (ws' := [(h0, .inr (5, [.int so, .ref kna, .ref kke, .ref kta, .int nu, .int pa, .int ab, .int mo, .int ow, .int gr, .int si, .int sd])), (kna, .inl (cB, l1, .inl c1)), (kke, .inl (cB, 11, .inl lg))]) [0, 1, 2] rfl
                have hD9 := hD.sub (ws' := [(h0, .inr (5, [.int so, .ref kna, .ref kke, .ref kta, .int nu, .int pa, .int ab, .int mo, .int ow, .int gr, .int si, .int sd])), (kna, .inl (cB, l1, .inl c1)), (kke, .inl (cB, 11, .inl lg))]) [0, 1, 2] (by decide +kernel) rfl
                exact W.vret hx hb hr (fun t ht hW => ⟨⟨lg, rfl, trivial, by rw [ht]; exact hP9, hD9⟩, hS.F ht⟩) hS.2.2 d_Node_setPlainKey_111
              · skip
                have g80_62 : ¬ v16.toInt ≤ v15.toInt := fun h8 => h_9 ((i_le rfl rfl).mpr h8)
                refine lv_aload_n hx hb d_Node_setPlainKey_83 rfl (lv_at hl 0 rfl) ?_
                refine va_get (D := D) (ci := 5) (v := .ref kke) (C := "DiscMaker$Node") (T := F_Node) (N := 12) hx hb ht9 in_Node hown hK hP 0 rfl rfl 2 (by decide) (ht9 _ k188) (fun _ h9 => h9) rfl d_Node_setPlainKey_84 ?_
                refine lv_bipush (v := 8) hx hb d_Node_setPlainKey_87 (by decide) ?_
                refine lv_iload_n hx hb d_Node_setPlainKey_89 rfl (lv_at hl 2 rfl) ?_
                refine lv_iadd hx hb d_Node_setPlainKey_90 ?_
                refine lv_topi (fun v17 e_v17 => ?_)
                have t_v17 : v17.toInt = 8 + ky.toInt := by rw [e_v17]; exact i_add (by decide) rfl (by omega) (by omega)
                refine lv_aload_n hx hb d_Node_setPlainKey_91 rfl (lv_at hl 0 rfl) ?_
                refine va_get (D := D) (ci := 5) (v := .ref kna) (C := "DiscMaker$Node") (T := F_Node) (N := 12) hx hb ht9 in_Node hown hK hP 0 rfl rfl 1 (by decide) (ht9 _ k183) (fun _ h9 => h9) rfl d_Node_setPlainKey_92 ?_
                refine lv_iload_n hx hb d_Node_setPlainKey_95 rfl (lv_at hl 1 rfl) ?_
                refine lv_iconst (v := 1) hx hb d_Node_setPlainKey_96 (by decide) ?_
                refine lv_iadd hx hb d_Node_setPlainKey_97 ?_
                refine lv_topi (fun v18 e_v18 => ?_)
                have t_v18 : v18.toInt = dt.toInt + 1 := by rw [e_v18]; exact i_add rfl (by decide) (by omega) (by omega)
                refine lv_iload_n hx hb d_Node_setPlainKey_98 rfl (lv_at hl 2 rfl) ?_
                refine lv_iadd hx hb d_Node_setPlainKey_99 ?_
                refine lv_topi (fun v19 e_v19 => ?_)
                have t_v19 : v19.toInt = v18.toInt + ky.toInt := by rw [e_v19]; exact i_add rfl rfl (by omega) (by omega)
                refine va_bald hx hb hK hP 1 0 rfl rfl (vp_in_iff.mpr ⟨by omega, by omega⟩) d_Node_setPlainKey_100 ?_
                refine lv_topi (fun v20 e_v20 => ?_)
                have t_v20 : (-128) ≤ v20.toInt ∧ v20.toInt ≤ 127 := by
                  rw [e_v20]; exact hB _ (by have := i_cl (a := v19) (by omega); omega)
                have hPc := hP.sub (ws' := []) [] rfl
                have hDc := hD.sub (ws' := []) [] (by decide +kernel) rfl
                have hFc := va_free (wc := []) hD hS hA [] rfl
                have hkc : 0 ≤ 0 := by decide
                have hks : 0 ≤ 0 := by decide
                refine va_calli (va_runS (As := [.int v20]) (rest := [.int v17, .ref kke]) ⟨hx, hb, hml, hown, hts⟩ (c3_capital l D cB cI cJ cZ cN cF H.size v20 (by (try dsimp only); first | assumption | omega | trivial)) (cwS 1 hts (lg_goodS k846 k847 k118 kc_Node_capital) rfl rfl rfl (by decide +kernel) ⟨Nat.le_of_ble_eq_true rfl, Nat.le_of_ble_eq_true rfl⟩) ⟨fun a U g mk q => by obtain ⟨q0, q1, qP, qK, qN, qD⟩ := q; exact ⟨q0, q1, qP, va_K.moved (u := U) (U := U.calling g mk a) (Vm.Alike.refl U.vm) qK, qN.calling, qD⟩, fun U hU hW => ⟨rfl, by rw [hU], by rw [hU]; exact hPc, va_K.moved hW.alike hK, NN.warm hW hN, hDc.weaken (fun _ _ _ _ => trivial)⟩⟩ rfl rfl hl.1 rfl (lv_room (Nat.le_of_ble_eq_true rfl)) d_Node_setPlainKey_101 ⟨hkc, hks⟩) hS (fun q _ h => hFc q h) hFc (fun r21 u t H1 locs ht hvm hp_r21 hB hz1 hk1 hS => ?_)
                obtain ⟨hP1, hD1⟩ := hB
                rw [ht] at hP1
                obtain ⟨hP, hD⟩ := va_join (wr := [(h0, .inr (5, [.int so, .ref kna, .ref kke, .ref kta, .int nu, .int pa, .int ab, .int mo, .int ow, .int gr, .int si, .int sd])), (kna, .inl (cB, l1, .inl c1)), (kke, .inl (cB, 11, .inl lg))]) (w1 := []) hP hD [] [0, 1, 2] rfl rfl (by decide +kernel) (by decide +kernel) hk1 hFc hP1 hD1
                clear hPc hDc hFc hP1 hD1 hk1 hz1 hkc hks
                generalize H1 = H at hP hS ⊢
                have hP : va_P D CL [(h0, .inr (5, [.int so, .ref kna, .ref kke, .ref kta, .int nu, .int pa, .int ab, .int mo, .int ow, .int gr, .int si, .int sd])), (kna, .inl (cB, l1, .inl c1)), (kke, .inl (cB, 11, .inl lg))] H := hP
                have hD : va_D A [(h0, .inr (5, [.int so, .ref kna, .ref kke, .ref kta, .int nu, .int pa, .int ab, .int mo, .int ow, .int gr, .int si, .int sd])), (kna, .inl (cB, l1, .inl c1)), (kke, .inl (cB, 11, .inl lg))] := hD
                try dsimp only at hp_r21
                have hr_22 := hp_r21
                refine zq_bast hx hb hK hP hD hS 2 0 rfl rfl (vp_in_iff.mpr ⟨by omega, by omega⟩) d_Node_setPlainKey_104 (fun fz23 e_fz23 H locs hP hD hS => ?_)
                have hP : va_P D CL [(h0, .inr (5, [.int so, .ref kna, .ref kke, .ref kta, .int nu, .int pa, .int ab, .int mo, .int ow, .int gr, .int si, .int sd])), (kna, .inl (cB, l1, .inl c1)), (kke, .inl (cB, 11, .inl fz23))] H := hP
                have hD : va_D A [(h0, .inr (5, [.int so, .ref kna, .ref kke, .ref kta, .int nu, .int pa, .int ab, .int mo, .int ow, .int gr, .int si, .int sd])), (kna, .inl (cB, l1, .inl c1)), (kke, .inl (cB, 11, .inl fz23))] := hD
                obtain ⟨v24, e_v24⟩ : ∃ z : Int32, z = ky + 1 := ⟨_, rfl⟩
                refine lv_iinc (v := v24) hx hb d_Node_setPlainKey_105 hl (k := 2) rfl e_v24.symm (by decide +kernel) rfl (fun ls hl => ?_)
                have t_v24 : v24.toInt = ky.toInt + 1 := by rw [e_v24]; exact i_add rfl (by decide) (by omega) (by omega)
                have hl : lv_has ls 3 [(2, .int v24), (0, .ref h0), (1, .int dt)] := hl
                refine lv_goto (tgt := 65) hx hb d_Node_setPlainKey_108 (by decide) ?_
                have hP := hP.sub (ws' := [(h0, .inr (5, [.int so, .ref kna, .ref kke, .ref kta, .int nu, .int pa, .int ab, .int mo, .int ow, .int gr, .int si, .int sd])), (kna, .inl (cB, l1, .inl c1)), (kke, .inl (cB, 11, .inl fz23))]) [0, 1, 2] rfl
                have hD := hD.sub (ws' := [(h0, .inr (5, [.int so, .ref kna, .ref kke, .ref kta, .int nu, .int pa, .int ab, .int mo, .int ow, .int gr, .int si, .int sd])), (kna, .inl (cB, l1, .inl c1)), (kke, .inl (cB, 11, .inl fz23))]) [0, 1, 2] (by decide +kernel) rfl
                have hl := lv_sub hl [1, 2, 0] rfl
                exact ih65 _ (by first | omega | (dsimp only; omega)) v24 fz23 _ _ _ rfl ((by (try dsimp only); first | assumption | omega | trivial)) hP hD hS hl
          · skip
            intro kk65
            have hP := hP.sub (ws' := [(h0, .inr (5, [.int so, .ref kna, .ref kke, .ref kta, .int nu, .int pa, .int ab, .int mo, .int ow, .int gr, .int si, .int sd])), (kna, .inl (cB, l1, .inl c1)), (kke, .inl (cB, 11, .inl lf))]) [0, 1, 2] rfl
            have hD := hD.sub (ws' := [(h0, .inr (5, [.int so, .ref kna, .ref kke, .ref kta, .int nu, .int pa, .int ab, .int mo, .int ow, .int gr, .int si, .int sd])), (kna, .inl (cB, l1, .inl c1)), (kke, .inl (cB, 11, .inl lf))]) [0, 1, 2] (by decide +kernel) rfl
            have hl := lv_sub hl [1, 2, 0] rfl
            exact kk65 _ 0 lf _ _ _ rfl ((by (try dsimp only); first | assumption | omega | trivial)) hP hD hS hl
        · skip
          have g39_47 : ¬ dt.toInt ≤ kx.toInt := fun h8 => h_9 ((i_le rfl rfl).mpr h8)
          refine lv_aload_n hx hb d_Node_setPlainKey_42 rfl (lv_at hl 0 rfl) ?_
          refine va_get (D := D) (ci := 5) (v := .ref kke) (C := "DiscMaker$Node") (T := F_Node) (N := 12) hx hb ht9 in_Node hown hK hP 0 rfl rfl 2 (by decide) (ht9 _ k188) (fun _ h9 => h9) rfl d_Node_setPlainKey_43 ?_
          refine lv_iload_n hx hb d_Node_setPlainKey_46 rfl (lv_at hl 2 rfl) ?_
          refine lv_aload_n hx hb d_Node_setPlainKey_47 rfl (lv_at hl 0 rfl) ?_
          refine va_get (D := D) (ci := 5) (v := .ref kna) (C := "DiscMaker$Node") (T := F_Node) (N := 12) hx hb ht9 in_Node hown hK hP 0 rfl rfl 1 (by decide) (ht9 _ k183) (fun _ h9 => h9) rfl d_Node_setPlainKey_48 ?_
          refine lv_iload_n hx hb d_Node_setPlainKey_51 rfl (lv_at hl 2 rfl) ?_
          refine va_bald hx hb hK hP 1 0 rfl rfl (vp_in_iff.mpr ⟨by omega, by omega⟩) d_Node_setPlainKey_52 ?_
          refine lv_topi (fun v25 e_v25 => ?_)
          have t_v25 : (-128) ≤ v25.toInt ∧ v25.toInt ≤ 127 := by
            rw [e_v25]; exact hB _ (by have := i_cl (a := kx) (by omega); omega)
          have hPc := hP.sub (ws' := []) [] rfl
          have hDc := hD.sub (ws' := []) [] (by decide +kernel) rfl
          have hFc := va_free (wc := []) hD hS hA [] rfl
          have hkc : 0 ≤ 0 := by decide
          have hks : 0 ≤ 0 := by decide
          refine va_calli (va_runS (As := [.int v25]) (rest := [.int kx, .ref kke]) ⟨hx, hb, hml, hown, hts⟩ (c3_capital l D cB cI cJ cZ cN cF H.size v25 (by (try dsimp only); first | assumption | omega | trivial)) (cwS 1 hts (lg_goodS k846 k847 k118 kc_Node_capital) rfl rfl rfl (by decide +kernel) ⟨Nat.le_of_ble_eq_true rfl, Nat.le_of_ble_eq_true rfl⟩) ⟨fun a U g mk q => by obtain ⟨q0, q1, qP, qK, qN, qD⟩ := q; exact ⟨q0, q1, qP, va_K.moved (u := U) (U := U.calling g mk a) (Vm.Alike.refl U.vm) qK, qN.calling, qD⟩, fun U hU hW => ⟨rfl, by rw [hU], by rw [hU]; exact hPc, va_K.moved hW.alike hK, NN.warm hW hN, hDc.weaken (fun _ _ _ _ => trivial)⟩⟩ rfl rfl hl.1 rfl (lv_room (Nat.le_of_ble_eq_true rfl)) d_Node_setPlainKey_53 ⟨hkc, hks⟩) hS (fun q _ h => hFc q h) hFc (fun r26 u t H1 locs ht hvm hp_r26 hB hz1 hk1 hS => ?_)
          obtain ⟨hP1, hD1⟩ := hB
          rw [ht] at hP1
          obtain ⟨hP, hD⟩ := va_join (wr := [(h0, .inr (5, [.int so, .ref kna, .ref kke, .ref kta, .int nu, .int pa, .int ab, .int mo, .int ow, .int gr, .int si, .int sd])), (kna, .inl (cB, l1, .inl c1)), (kke, .inl (cB, 11, .inl lf))]) (w1 := []) hP hD [] [0, 1, 2] rfl rfl (by decide +kernel) (by decide +kernel) hk1 hFc hP1 hD1
          clear hPc hDc hFc hP1 hD1 hk1 hz1 hkc hks
          generalize H1 = H at hP hS ⊢
          have hP : va_P D CL [(h0, .inr (5, [.int so, .ref kna, .ref kke, .ref kta, .int nu, .int pa, .int ab, .int mo, .int ow, .int gr, .int si, .int sd])), (kna, .inl (cB, l1, .inl c1)), (kke, .inl (cB, 11, .inl lf))] H := hP
          have hD : va_D A [(h0, .inr (5, [.int so, .ref kna, .ref kke, .ref kta, .int nu, .int pa, .int ab, .int mo, .int ow, .int gr, .int si, .int sd])), (kna, .inl (cB, l1, .inl c1)), (kke, .inl (cB, 11, .inl lf))] := hD
          try dsimp only at hp_r26
          have hr_27 := hp_r26
          refine zq_bast hx hb hK hP hD hS 2 0 rfl rfl (vp_in_iff.mpr ⟨by omega, by omega⟩) d_Node_setPlainKey_56 (fun fz28 e_fz28 H locs hP hD hS => ?_)
          have hP : va_P D CL [(h0, .inr (5, [.int so, .ref kna, .ref kke, .ref kta, .int nu, .int pa, .int ab, .int mo, .int ow, .int gr, .int si, .int sd])), (kna, .inl (cB, l1, .inl c1)), (kke, .inl (cB, 11, .inl fz28))] H := hP
          have hD : va_D A [(h0, .inr (5, [.int so, .ref kna, .ref kke, .ref kta, .int nu, .int pa, .int ab, .int mo, .int ow, .int gr, .int si, .int sd])), (kna, .inl (cB, l1, .inl c1)), (kke, .inl (cB, 11, .inl fz28))] := hD
          obtain ⟨v29, e_v29⟩ : ∃ z : Int32, z = kx + 1 := ⟨_, rfl⟩
          refine lv_iinc (v := v29) hx hb d_Node_setPlainKey_57 hl (k := 2) rfl e_v29.symm (by decide +kernel) rfl (fun ls hl => ?_)
          have t_v29 : v29.toInt = kx.toInt + 1 := by rw [e_v29]; exact i_add rfl (by decide) (by omega) (by omega)
          have hl : lv_has ls 3 [(2, .int v29), (0, .ref h0), (1, .int dt)] := hl
          refine lv_goto (tgt := 31) hx hb d_Node_setPlainKey_60 (by decide) ?_
          have hP := hP.sub (ws' := [(h0, .inr (5, [.int so, .ref kna, .ref kke, .ref kta, .int nu, .int pa, .int ab, .int mo, .int ow, .int gr, .int si, .int sd])), (kna, .inl (cB, l1, .inl c1)), (kke, .inl (cB, 11, .inl fz28))]) [0, 1, 2] rfl
          have hD := hD.sub (ws' := [(h0, .inr (5, [.int so, .ref kna, .ref kke, .ref kta, .int nu, .int pa, .int ab, .int mo, .int ow, .int gr, .int si, .int sd])), (kna, .inl (cB, l1, .inl c1)), (kke, .inl (cB, 11, .inl fz28))]) [0, 1, 2] (by decide +kernel) rfl
          have hl := lv_sub hl [1, 2, 0] rfl
          exact ih31 _ (by first | omega | (dsimp only; omega)) v29 fz28 _ _ _ rfl ((by (try dsimp only); first | assumption | omega | trivial)) hP hD hS hl
    · skip
      intro kk31
      have hP := hP.sub (ws' := [(h0, .inr (5, [.int so, .ref kna, .ref kke, .ref kta, .int nu, .int pa, .int ab, .int mo, .int ow, .int gr, .int si, .int sd])), (kna, .inl (cB, l1, .inl c1)), (kke, .inl (cB, 11, .inl g_2))]) [0, 1, 2] rfl
      have hD := hD.sub (ws' := [(h0, .inr (5, [.int so, .ref kna, .ref kke, .ref kta, .int nu, .int pa, .int ab, .int mo, .int ow, .int gr, .int si, .int sd])), (kna, .inl (cB, l1, .inl c1)), (kke, .inl (cB, 11, .inl g_2))]) [0, 1, 2] (by decide +kernel) rfl
      have hl := lv_sub hl [2, 1, 0] rfl
      exact kk31 _ 0 g_2 _ _ _ rfl ((by (try dsimp only); first | assumption | omega | trivial)) hP hD hS hl
  · skip
    intro kk19
    refine lv_aload_n hx hb d_Node_setPlainKey_0 rfl (lv_at hl 0 rfl) ?_
    refine va_get (D := D) (ci := 5) (v := .int so) (C := "DiscMaker$Node") (T := F_Node) (N := 12) hx hb ht9 in_Node hown hK hP 0 rfl rfl 0 (by decide) (ht9 _ k178) (fun _ h9 => h9) rfl d_Node_setPlainKey_1 ?_
    refine lv_if_ne (tgt := 15) hx hb d_Node_setPlainKey_4 (by decide) (fun h_9 => ?_) (fun h_9 => ?_)
    · skip
      have g4_96 : ¬ so.toInt = 0 := fun h8 => h_9 ((i_eq rfl (by decide)).mpr h8)
      refine lv_aload_n hx hb d_Node_setPlainKey_15 rfl (lv_at hl 0 rfl) ?_
      have hPc := hP.sub (ws' := []) [] rfl
      have hDc := hD.sub (ws' := []) [] (by decide +kernel) rfl
      have hFc := va_free (wc := []) hD hS hA [] rfl
      have hkc : 0 ≤ 0 := by decide
      have hks : 0 ≤ 0 := by decide
      refine va_calli (va_runV (C := "DiscMaker$Node") (As := []) (rest := []) ⟨hx, hb, hml, hown, hts⟩ (c3_findDot l D cB cI cJ cZ cN cF s.heap.size h0 kna kke kta so nu pa ab mo ow gr si sd l1 c1 (by (try dsimp only); first | assumption | omega | trivial)) (cwV 0 hts (lg_goodV k839 k841 k6 k118 kc_Node_findDot) rfl rfl rfl (by decide +kernel) ⟨Nat.le_of_ble_eq_true rfl, Nat.le_of_ble_eq_true rfl⟩) ⟨fun a U g mk q => by obtain ⟨q0, q1, qP, qK, qN, qD, qZ0⟩ := q; exact ⟨q0, q1, qP, va_K.moved (u := U) (U := U.calling g mk a) (Vm.Alike.refl U.vm) qK, qN.calling, qD, RO_blind qZ0⟩, va_recv hK hP (ci := 5) (q0 := 0) rfl rfl, fun U hU hW => ⟨rfl, by rw [hU], by rw [hU]; exact hPc, va_K.moved hW.alike hK, NN.warm hW hN, hDc.weaken (fun _ _ _ _ => trivial), (RO_app (w1 := [(h0, .inr (5, [.int so, .ref kna, .ref kke, .ref kta, .int nu, .int pa, .int ab, .int mo, .int ow, .int gr, .int si, .int sd]))]) (w2 := [(kna, .inl (cB, l1, .inl c1))]) (RO_mut hP hD [] rfl 0 rfl (by decide) hU) (RO_mut hP hD [] rfl 1 rfl (by decide) hU))⟩⟩ rfl rfl hl.1 rfl (lv_room (Nat.le_of_ble_eq_true rfl)) d_Node_setPlainKey_16 ⟨hkc, hks⟩) hS (fun q _ h => hFc q h) hFc (fun r30 u t H1 locs ht hvm hp_r30 hB hz1 hk1 hS => ?_)
      obtain ⟨hP1, hD1⟩ := hB
      rw [ht] at hP1
      obtain ⟨hP, hD⟩ := va_join (wr := [(h0, .inr (5, [.int so, .ref kna, .ref kke, .ref kta, .int nu, .int pa, .int ab, .int mo, .int ow, .int gr, .int si, .int sd])), (kna, .inl (cB, l1, .inl c1)), (kke, .inl (cB, 11, .inl c2))]) (w1 := []) hP hD [] [0, 1, 2] rfl rfl (by decide +kernel) (by decide +kernel) hk1 hFc hP1 hD1
      clear hPc hDc hFc hP1 hD1 hk1 hz1 hkc hks
      generalize H1 = H at hP hS ⊢
      have hP : va_P D CL [(h0, .inr (5, [.int so, .ref kna, .ref kke, .ref kta, .int nu, .int pa, .int ab, .int mo, .int ow, .int gr, .int si, .int sd])), (kna, .inl (cB, l1, .inl c1)), (kke, .inl (cB, 11, .inl c2))] H := hP
      have hD : va_D A [(h0, .inr (5, [.int so, .ref kna, .ref kke, .ref kta, .int nu, .int pa, .int ab, .int mo, .int ow, .int gr, .int si, .int sd])), (kna, .inl (cB, l1, .inl c1)), (kke, .inl (cB, 11, .inl c2))] := hD
      try dsimp only at hp_r30
      have hr_31 := hp_r30
      have hP := hP.sub (ws' := [(h0, .inr (5, [.int so, .ref kna, .ref kke, .ref kta, .int nu, .int pa, .int ab, .int mo, .int ow, .int gr, .int si, .int sd])), (kna, .inl (cB, l1, .inl c1)), (kke, .inl (cB, 11, .inl c2))]) [0, 1, 2] rfl
      have hD := hD.sub (ws' := [(h0, .inr (5, [.int so, .ref kna, .ref kke, .ref kta, .int nu, .int pa, .int ab, .int mo, .int ow, .int gr, .int si, .int sd])), (kna, .inl (cB, l1, .inl c1)), (kke, .inl (cB, 11, .inl c2))]) [0, 1, 2] (by decide +kernel) rfl
      have hl := lv_sub hl [0] rfl
      exact kk19 _ r30 _ _ _ rfl ((by (try dsimp only); first | assumption | omega | trivial)) hP hD hS hl
    · skip
      have g4_96 : so.toInt = 0 := (i_eq rfl (by decide)).mp h_9
      refine lv_aload_n hx hb d_Node_setPlainKey_7 rfl (lv_at hl 0 rfl) ?_
      refine va_get (D := D) (ci := 5) (v := .ref kna) (C := "DiscMaker$Node") (T := F_Node) (N := 12) hx hb ht9 in_Node hown hK hP 0 rfl rfl 1 (by decide) (ht9 _ k183) (fun _ h9 => h9) rfl d_Node_setPlainKey_8 ?_
      refine va_alen (v := nI l1) hx hb hK hP 1 0 rfl rfl rfl d_Node_setPlainKey_11 ?_
      refine lv_topi (fun v32 e_v32 => ?_)
      have t_v32 : v32.toInt = l1 := by rw [e_v32]; exact nI_toInt (by omega)
      refine lv_goto (tgt := 19) hx hb d_Node_setPlainKey_12 (by decide) ?_
      have hP := hP.sub (ws' := [(h0, .inr (5, [.int so, .ref kna, .ref kke, .ref kta, .int nu, .int pa, .int ab, .int mo, .int ow, .int gr, .int si, .int sd])), (kna, .inl (cB, l1, .inl c1)), (kke, .inl (cB, 11, .inl c2))]) [0, 1, 2] rfl
      have hD := hD.sub (ws' := [(h0, .inr (5, [.int so, .ref kna, .ref kke, .ref kta, .int nu, .int pa, .int ab, .int mo, .int ow, .int gr, .int si, .int sd])), (kna, .inl (cB, l1, .inl c1)), (kke, .inl (cB, 11, .inl c2))]) [0, 1, 2] (by decide +kernel) rfl
      have hl := lv_sub hl [0] rfl
      exact kk19 _ v32 _ _ _ rfl ((by (try dsimp only); first | assumption | omega | trivial)) hP hD hS hl

theorem d_Node_setNumberedKey_0 : decode b_Node_setNumberedKey 0 = .ok (.aload_n 0, 1) := by decide +kernel
theorem d_Node_setNumberedKey_1 : decode b_Node_setNumberedKey 1 = .ok (.getfield 31, 3) := by decide +kernel
theorem d_Node_setNumberedKey_4 : decode b_Node_setNumberedKey 4 = .ok (.iload_n 1, 1) := by decide +kernel
theorem d_Node_setNumberedKey_5 : decode b_Node_setNumberedKey 5 = .ok (.bipush 48, 2) := by decide +kernel
theorem d_Node_setNumberedKey_7 : decode b_Node_setNumberedKey 7 = .ok (.iload_n 2, 1) := by decide +kernel
theorem d_Node_setNumberedKey_8 : decode b_Node_setNumberedKey 8 = .ok (.bipush 100, 2) := by decide +kernel
theorem d_Node_setNumberedKey_10 : decode b_Node_setNumberedKey 10 = .ok (.idiv, 1) := by decide +kernel
theorem d_Node_setNumberedKey_11 : decode b_Node_setNumberedKey 11 = .ok (.bipush 10, 2) := by decide +kernel
theorem d_Node_setNumberedKey_13 : decode b_Node_setNumberedKey 13 = .ok (.irem, 1) := by decide +kernel
theorem d_Node_setNumberedKey_14 : decode b_Node_setNumberedKey 14 = .ok (.iadd, 1) := by decide +kernel
theorem d_Node_setNumberedKey_15 : decode b_Node_setNumberedKey 15 = .ok (.i2b, 1) := by decide +kernel
theorem d_Node_setNumberedKey_16 : decode b_Node_setNumberedKey 16 = .ok (.bastore, 1) := by decide +kernel
theorem d_Node_setNumberedKey_17 : decode b_Node_setNumberedKey 17 = .ok (.aload_n 0, 1) := by decide +kernel
theorem d_Node_setNumberedKey_18 : decode b_Node_setNumberedKey 18 = .ok (.getfield 31, 3) := by decide +kernel
theorem d_Node_setNumberedKey_21 : decode b_Node_setNumberedKey 21 = .ok (.iload_n 1, 1) := by decide +kernel
theorem d_Node_setNumberedKey_22 : decode b_Node_setNumberedKey 22 = .ok (.iconst 1, 1) := by decide +kernel
theorem d_Node_setNumberedKey_23 : decode b_Node_setNumberedKey 23 = .ok (.iadd, 1) := by decide +kernel
theorem d_Node_setNumberedKey_24 : decode b_Node_setNumberedKey 24 = .ok (.bipush 48, 2) := by decide +kernel
theorem d_Node_setNumberedKey_26 : decode b_Node_setNumberedKey 26 = .ok (.iload_n 2, 1) := by decide +kernel
theorem d_Node_setNumberedKey_27 : decode b_Node_setNumberedKey 27 = .ok (.bipush 10, 2) := by decide +kernel
theorem d_Node_setNumberedKey_29 : decode b_Node_setNumberedKey 29 = .ok (.idiv, 1) := by decide +kernel
theorem d_Node_setNumberedKey_30 : decode b_Node_setNumberedKey 30 = .ok (.bipush 10, 2) := by decide +kernel
theorem d_Node_setNumberedKey_32 : decode b_Node_setNumberedKey 32 = .ok (.irem, 1) := by decide +kernel
theorem d_Node_setNumberedKey_33 : decode b_Node_setNumberedKey 33 = .ok (.iadd, 1) := by decide +kernel
theorem d_Node_setNumberedKey_34 : decode b_Node_setNumberedKey 34 = .ok (.i2b, 1) := by decide +kernel
theorem d_Node_setNumberedKey_35 : decode b_Node_setNumberedKey 35 = .ok (.bastore, 1) := by decide +kernel
theorem d_Node_setNumberedKey_36 : decode b_Node_setNumberedKey 36 = .ok (.aload_n 0, 1) := by decide +kernel
theorem d_Node_setNumberedKey_37 : decode b_Node_setNumberedKey 37 = .ok (.getfield 31, 3) := by decide +kernel
theorem d_Node_setNumberedKey_40 : decode b_Node_setNumberedKey 40 = .ok (.iload_n 1, 1) := by decide +kernel
theorem d_Node_setNumberedKey_41 : decode b_Node_setNumberedKey 41 = .ok (.iconst 2, 1) := by decide +kernel
theorem d_Node_setNumberedKey_42 : decode b_Node_setNumberedKey 42 = .ok (.iadd, 1) := by decide +kernel
theorem d_Node_setNumberedKey_43 : decode b_Node_setNumberedKey 43 = .ok (.bipush 48, 2) := by decide +kernel
theorem d_Node_setNumberedKey_45 : decode b_Node_setNumberedKey 45 = .ok (.iload_n 2, 1) := by decide +kernel
theorem d_Node_setNumberedKey_46 : decode b_Node_setNumberedKey 46 = .ok (.bipush 10, 2) := by decide +kernel
theorem d_Node_setNumberedKey_48 : decode b_Node_setNumberedKey 48 = .ok (.irem, 1) := by decide +kernel
theorem d_Node_setNumberedKey_49 : decode b_Node_setNumberedKey 49 = .ok (.iadd, 1) := by decide +kernel
theorem d_Node_setNumberedKey_50 : decode b_Node_setNumberedKey 50 = .ok (.i2b, 1) := by decide +kernel
theorem d_Node_setNumberedKey_51 : decode b_Node_setNumberedKey 51 = .ok (.bastore, 1) := by decide +kernel
theorem d_Node_setNumberedKey_52 : decode b_Node_setNumberedKey 52 = .ok (.return_, 1) := by decide +kernel
set_option maxHeartbeats 4000000 in
set_option maxRecDepth 100000 in
theorem c3_setNumberedKey (l : Launch) (D : va_G) (cB cI cJ cZ cN cF : ClassId) (sz : Nat) (h0 : Nat) (kna : Nat) (kke : Nat) (kta : Nat) (so : Int32) (nu : Int32) (pa : Int32) (ab : Int32) (mo : Int32) (ow : Int32) (gr : Int32) (si : Int32) (sd : Int32) (c2 : Nat → Int32) (x : Int32) (y : Int32) (hx : 0 ≤ x.toInt ∧ x.toInt ≤ 5) (hy : 0 ≤ y.toInt ∧ y.toInt ≤ 1000) : Met l y_Node_setNumberedKey w_Node_setNumberedKey ({ frames := 0, cells := 0, slots := 0, locals := 0 }) (va_Pc [.ref h0, .int x, .int y] (fun U => U.heap.size = sz ∧ va_P D CL [(h0, .inr (5, [.int so, .ref kna, .ref kke, .ref kta, .int nu, .int pa, .int ab, .int mo, .int ow, .int gr, .int si, .int sd])), (kke, .inl (cB, 11, .inl c2))] U.heap ∧ va_K D CL (TY cB cI cJ cZ cN cF) U ∧ NN U ∧ va_D (fun _ => True) [(h0, .inr (5, [.int so, .ref kna, .ref kke, .ref kta, .int nu, .int pa, .int ab, .int mo, .int ow, .int gr, .int si, .int sd])), (kke, .inl (cB, 11, .inl c2))])) (va_Qv (fun (u : (Nat → Int32)) => True) (fun (u : (Nat → Int32)) (t : State) => match u with | g => va_P D CL [(h0, .inr (5, [.int so, .ref kna, .ref kke, .ref kta, .int nu, .int pa, .int ab, .int mo, .int ow, .int gr, .int si, .int sd])), (kke, .inl (cB, 11, .inl g))] t.heap ∧ va_D (va_A [(h0, .inr (5, [.int so, .ref kna, .ref kke, .ref kta, .int nu, .int pa, .int ab, .int mo, .int ow, .int gr, .int si, .int sd])), (kke, .inl (cB, 11, .inl c2))] sz) [(h0, .inr (5, [.int so, .ref kna, .ref kke, .ref kta, .int nu, .int pa, .int ab, .int mo, .int ow, .int gr, .int si, .int sd])), (kke, .inl (cB, 11, .inl g))]) (va_A [(h0, .inr (5, [.int so, .ref kna, .ref kke, .ref kta, .int nu, .int pa, .int ab, .int mo, .int ow, .int gr, .int si, .int sd])), (kke, .inl (cB, 11, .inl c2))] sz)) 0 0 (va_A [(h0, .inr (5, [.int so, .ref kna, .ref kke, .ref kta, .int nu, .int pa, .int ab, .int mo, .int ow, .int gr, .int si, .int sd])), (kke, .inl (cB, 11, .inl c2))] sz) := by
  refine Met.ofW (cc := b_Node_setNumberedKey) (maxL := 3) (ret := none) (by decide +kernel) rfl ?_
  intro p e s m args below meth c s₁ B hml hv
  obtain ⟨rfl, hsz, hP, hK, hN, hD0⟩ := hv
  have hx := B.exec
  have hb := B.bytes
  have hr := B.returns
  have hts := atoms_spec (ws := w_Node_setNumberedKey) B.pre
  have ht9 := fun (w : Cond) (h : w ∈ lw_g) => hts w (List.mem_cons_of_mem _ h)
  have hown : s.vm.findClass "DiscMaker$Node" = some m.cls := findClass_of_methodNamed B.named
  have hlocks := B.notSynchronized
  subst hsz
  have hD := hD0.self (sz := s.heap.size)
  generalize hAe : va_A [(h0, .inr (5, [.int so, .ref kna, .ref kke, .ref kta, .int nu, .int pa, .int ab, .int mo, .int ow, .int gr, .int si, .int sd])), (kke, .inl (cB, 11, .inl c2))] s.heap.size = A at hD ⊢
  have hA : ∀ q : Nat, s.heap.size ≤ q → A q := fun q h => by rw [← hAe]; exact Or.inr h
  have hS : va_S A s.heap s.heap [] := va_S.rf
  have hP : va_P D CL [(h0, .inr (5, [.int so, .ref kna, .ref kke, .ref kta, .int nu, .int pa, .int ab, .int mo, .int ow, .int gr, .int si, .int sd])), (kke, .inl (cB, 11, .inl c2))] s.heap := hP
  have hl := lv_entry [.ref h0, .int x, .int y] (n := 3) (Nat.le_of_ble_eq_true rfl)
  rw [lg_entry_eq]
  generalize (lg_sl [.ref h0, .int x, .int y] ++ List.replicate (3 - (lg_sl [.ref h0, .int x, .int y]).length) Slot.unset).toArray = ls at hl ⊢
  have hl : lv_has ls 3 [(0, .ref h0), (1, .int x), (2, .int y)] := hl
  have L_m1 : ((-1) : Int32).toInt = (-1) := by decide
  have L_0 : (0 : Int32).toInt = 0 := by decide
  have L_1 : (1 : Int32).toInt = 1 := by decide
  have L_2 : (2 : Int32).toInt = 2 := by decide
  have L_10 : (10 : Int32).toInt = 10 := by decide
  have L_48 : (48 : Int32).toInt = 48 := by decide
  have L_100 : (100 : Int32).toInt = 100 := by decide
  refine lv_aload_n hx hb d_Node_setNumberedKey_0 rfl (lv_at hl 0 rfl) ?_
  refine va_get (D := D) (ci := 5) (v := .ref kke) (C := "DiscMaker$Node") (T := F_Node) (N := 12) hx hb ht9 in_Node hown hK hP 0 rfl rfl 2 (by decide) (ht9 _ k188) (fun _ h9 => h9) rfl d_Node_setNumberedKey_1 ?_
  refine lv_iload_n hx hb d_Node_setNumberedKey_4 rfl (lv_at hl 1 rfl) ?_
  refine lv_bipush (v := 48) hx hb d_Node_setNumberedKey_5 (by decide) ?_
  refine lv_iload_n hx hb d_Node_setNumberedKey_7 rfl (lv_at hl 2 rfl) ?_
  refine lv_bipush (v := 100) hx hb d_Node_setNumberedKey_8 (by decide) ?_
  refine lv_idiv hx hb d_Node_setNumberedKey_10 (by decide) ?_
  refine lv_topi (fun v1 e_v1 => ?_)
  have t_v1 : v1.toInt = y.toInt / 100 := by rw [e_v1]; exact i_div rfl (by decide) (by omega) (by omega)
  refine lv_bipush (v := 10) hx hb d_Node_setNumberedKey_11 (by decide) ?_
  refine lv_irem hx hb d_Node_setNumberedKey_13 (by decide) ?_
  refine lv_topi (fun v2 e_v2 => ?_)
  have t_v2 : v2.toInt = v1.toInt % 10 := by rw [e_v2]; exact i_rem rfl (by decide) (by omega) (by omega)
  refine lv_iadd hx hb d_Node_setNumberedKey_14 ?_
  refine lv_topi (fun v3 e_v3 => ?_)
  have t_v3 : v3.toInt = 48 + v2.toInt := by rw [e_v3]; exact i_add (by decide) rfl (by omega) (by omega)
  refine lv_i2b hx hb d_Node_setNumberedKey_15 rfl ?_
  refine lv_topi (fun v4 e_v4 => ?_)
  have t_v4 : (-128) ≤ v4.toInt ∧ v4.toInt ≤ 127 := by rw [e_v4]; exact i_b _
  refine zq_bast hx hb hK hP hD hS 1 0 rfl rfl (vp_in_iff.mpr ⟨by omega, by omega⟩) d_Node_setNumberedKey_16 (fun fz5 e_fz5 H locs hP hD hS => ?_)
  have hP : va_P D CL [(h0, .inr (5, [.int so, .ref kna, .ref kke, .ref kta, .int nu, .int pa, .int ab, .int mo, .int ow, .int gr, .int si, .int sd])), (kke, .inl (cB, 11, .inl fz5))] H := hP
  have hD : va_D A [(h0, .inr (5, [.int so, .ref kna, .ref kke, .ref kta, .int nu, .int pa, .int ab, .int mo, .int ow, .int gr, .int si, .int sd])), (kke, .inl (cB, 11, .inl fz5))] := hD
  refine lv_aload_n hx hb d_Node_setNumberedKey_17 rfl (lv_at hl 0 rfl) ?_
  refine va_get (D := D) (ci := 5) (v := .ref kke) (C := "DiscMaker$Node") (T := F_Node) (N := 12) hx hb ht9 in_Node hown hK hP 0 rfl rfl 2 (by decide) (ht9 _ k188) (fun _ h9 => h9) rfl d_Node_setNumberedKey_18 ?_
  refine lv_iload_n hx hb d_Node_setNumberedKey_21 rfl (lv_at hl 1 rfl) ?_
  refine lv_iconst (v := 1) hx hb d_Node_setNumberedKey_22 (by decide) ?_
  refine lv_iadd hx hb d_Node_setNumberedKey_23 ?_
  refine lv_topi (fun v6 e_v6 => ?_)
  have t_v6 : v6.toInt = x.toInt + 1 := by rw [e_v6]; exact i_add rfl (by decide) (by omega) (by omega)
  refine lv_bipush (v := 48) hx hb d_Node_setNumberedKey_24 (by decide) ?_
  refine lv_iload_n hx hb d_Node_setNumberedKey_26 rfl (lv_at hl 2 rfl) ?_
  refine lv_bipush (v := 10) hx hb d_Node_setNumberedKey_27 (by decide) ?_
  refine lv_idiv hx hb d_Node_setNumberedKey_29 (by decide) ?_
  refine lv_topi (fun v7 e_v7 => ?_)
  have t_v7 : v7.toInt = y.toInt / 10 := by rw [e_v7]; exact i_div rfl (by decide) (by omega) (by omega)
  refine lv_bipush (v := 10) hx hb d_Node_setNumberedKey_30 (by decide) ?_
  refine lv_irem hx hb d_Node_setNumberedKey_32 (by decide) ?_
  refine lv_topi (fun v8 e_v8 => ?_)
  have t_v8 : v8.toInt = v7.toInt % 10 := by rw [e_v8]; exact i_rem rfl (by decide) (by omega) (by omega)
  refine lv_iadd hx hb d_Node_setNumberedKey_33 ?_
  refine lv_topi (fun v9 e_v9 => ?_)
  have t_v9 : v9.toInt = 48 + v8.toInt := by rw [e_v9]; exact i_add (by decide) rfl (by omega) (by omega)
  refine lv_i2b hx hb d_Node_setNumberedKey_34 rfl ?_
  refine lv_topi (fun v10 e_v10 => ?_)
  have t_v10 : (-128) ≤ v10.toInt ∧ v10.toInt ≤ 127 := by rw [e_v10]; exact i_b _
  refine zq_bast hx hb hK hP hD hS 1 0 rfl rfl (vp_in_iff.mpr ⟨by omega, by omega⟩) d_Node_setNumberedKey_35 (fun fz11 e_fz11 H locs hP hD hS => ?_)
  have hP : va_P D CL [(h0, .inr (5, [.int so, .ref kna, .ref kke, .ref kta, .int nu, .int pa, .int ab, .int mo, .int ow, .int gr, .int si, .int sd])), (kke, .inl (cB, 11, .inl fz11))] H := hP
  have hD : va_D A [(h0, .inr (5, [.int so, .ref kna, .ref kke, .ref kta, .int nu, .int pa, .int ab, .int mo, .int ow, .int gr, .int si, .int sd])), (kke, .inl (cB, 11, .inl fz11))] := hD
  refine lv_aload_n hx hb d_Node_setNumberedKey_36 rfl (lv_at hl 0 rfl) ?_
  refine va_get (D := D) (ci := 5) (v := .ref kke) (C := "DiscMaker$Node") (T := F_Node) (N := 12) hx hb ht9 in_Node hown hK hP 0 rfl rfl 2 (by decide) (ht9 _ k188) (fun _ h9 => h9) rfl d_Node_setNumberedKey_37 ?_
  refine lv_iload_n hx hb d_Node_setNumberedKey_40 rfl (lv_at hl 1 rfl) ?_
  refine lv_iconst (v := 2) hx hb d_Node_setNumberedKey_41 (by decide) ?_
  refine lv_iadd hx hb d_Node_setNumberedKey_42 ?_
  refine lv_topi (fun v12 e_v12 => ?_)
  have t_v12 : v12.toInt = x.toInt + 2 := by rw [e_v12]; exact i_add rfl (by decide) (by omega) (by omega)
  refine lv_bipush (v := 48) hx hb d_Node_setNumberedKey_43 (by decide) ?_
  refine lv_iload_n hx hb d_Node_setNumberedKey_45 rfl (lv_at hl 2 rfl) ?_
  refine lv_bipush (v := 10) hx hb d_Node_setNumberedKey_46 (by decide) ?_
  refine lv_irem hx hb d_Node_setNumberedKey_48 (by decide) ?_
  refine lv_topi (fun v13 e_v13 => ?_)
  have t_v13 : v13.toInt = y.toInt % 10 := by rw [e_v13]; exact i_rem rfl (by decide) (by omega) (by omega)
  refine lv_iadd hx hb d_Node_setNumberedKey_49 ?_
  refine lv_topi (fun v14 e_v14 => ?_)
  have t_v14 : v14.toInt = 48 + v13.toInt := by rw [e_v14]; exact i_add (by decide) rfl (by omega) (by omega)
  refine lv_i2b hx hb d_Node_setNumberedKey_50 rfl ?_
  refine lv_topi (fun v15 e_v15 => ?_)
  have t_v15 : (-128) ≤ v15.toInt ∧ v15.toInt ≤ 127 := by rw [e_v15]; exact i_b _
  refine zq_bast hx hb hK hP hD hS 1 0 rfl rfl (vp_in_iff.mpr ⟨by omega, by omega⟩) d_Node_setNumberedKey_51 (fun fz16 e_fz16 H locs hP hD hS => ?_)
  have hP : va_P D CL [(h0, .inr (5, [.int so, .ref kna, .ref kke, .ref kta, .int nu, .int pa, .int ab, .int mo, .int ow, .int gr, .int si, .int sd])), (kke, .inl (cB, 11, .inl fz16))] H := hP
  have hD : va_D A [(h0, .inr (5, [.int so, .ref kna, .ref kke, .ref kta, .int nu, .int pa, .int ab, .int mo, .int ow, .int gr, .int si, .int sd])), (kke, .inl (cB, 11, .inl fz16))] := hD
  have hP9 := hP.sub (ws' := [(h0, .inr (5, [.int so, .ref kna, .ref kke, .ref kta, .int nu, .int pa, .int ab, .int mo, .int ow, .int gr, .int si, .int sd])), (kke, .inl (cB, 11, .inl fz16))]) [0, 1] rfl
  have hD9 := hD.sub (ws' := [(h0, .inr (5, [.int so, .ref kna, .ref kke, .ref kta, .int nu, .int pa, .int ab, .int mo, .int ow, .int gr, .int si, .int sd])), (kke, .inl (cB, 11, .inl fz16))]) [0, 1] (by decide +kernel) rfl
  exact W.vret hx hb hr (fun t ht hW => ⟨⟨fz16, rfl, trivial, by rw [ht]; exact hP9, hD9⟩, hS.F ht⟩) hS.2.2 d_Node_setNumberedKey_52

theorem d_Node_compareRows_0 : decode b_Node_compareRows 0 = .ok (.aload_n 0, 1) := by decide +kernel
theorem d_Node_compareRows_1 : decode b_Node_compareRows 1 = .ok (.arraylength, 1) := by decide +kernel
theorem d_Node_compareRows_2 : decode b_Node_compareRows 2 = .ok (.aload_n 1, 1) := by decide +kernel
theorem d_Node_compareRows_3 : decode b_Node_compareRows 3 = .ok (.arraylength, 1) := by decide +kernel
theorem d_Node_compareRows_4 : decode b_Node_compareRows 4 = .ok (.invokestatic 52, 3) := by decide +kernel
theorem d_Node_compareRows_7 : decode b_Node_compareRows 7 = .ok (.istore_n 2, 1) := by decide +kernel
theorem d_Node_compareRows_8 : decode b_Node_compareRows 8 = .ok (.iconst 0, 1) := by decide +kernel
theorem d_Node_compareRows_9 : decode b_Node_compareRows 9 = .ok (.istore_n 3, 1) := by decide +kernel
theorem d_Node_compareRows_10 : decode b_Node_compareRows 10 = .ok (.iload_n 3, 1) := by decide +kernel
theorem d_Node_compareRows_11 : decode b_Node_compareRows 11 = .ok (.iload_n 2, 1) := by decide +kernel
theorem d_Node_compareRows_12 : decode b_Node_compareRows 12 = .ok (.if_icmp .ge 26, 3) := by decide +kernel
theorem d_Node_compareRows_15 : decode b_Node_compareRows 15 = .ok (.aload_n 0, 1) := by decide +kernel
theorem d_Node_compareRows_16 : decode b_Node_compareRows 16 = .ok (.iload_n 3, 1) := by decide +kernel
theorem d_Node_compareRows_17 : decode b_Node_compareRows 17 = .ok (.baload, 1) := by decide +kernel
theorem d_Node_compareRows_18 : decode b_Node_compareRows 18 = .ok (.aload_n 1, 1) := by decide +kernel
theorem d_Node_compareRows_19 : decode b_Node_compareRows 19 = .ok (.iload_n 3, 1) := by decide +kernel
theorem d_Node_compareRows_20 : decode b_Node_compareRows 20 = .ok (.baload, 1) := by decide +kernel
theorem d_Node_compareRows_21 : decode b_Node_compareRows 21 = .ok (.if_icmp .eq 11, 3) := by decide +kernel
theorem d_Node_compareRows_24 : decode b_Node_compareRows 24 = .ok (.aload_n 0, 1) := by decide +kernel
theorem d_Node_compareRows_25 : decode b_Node_compareRows 25 = .ok (.iload_n 3, 1) := by decide +kernel
theorem d_Node_compareRows_26 : decode b_Node_compareRows 26 = .ok (.baload, 1) := by decide +kernel
theorem d_Node_compareRows_27 : decode b_Node_compareRows 27 = .ok (.aload_n 1, 1) := by decide +kernel
theorem d_Node_compareRows_28 : decode b_Node_compareRows 28 = .ok (.iload_n 3, 1) := by decide +kernel
theorem d_Node_compareRows_29 : decode b_Node_compareRows 29 = .ok (.baload, 1) := by decide +kernel
theorem d_Node_compareRows_30 : decode b_Node_compareRows 30 = .ok (.isub, 1) := by decide +kernel
theorem d_Node_compareRows_31 : decode b_Node_compareRows 31 = .ok (.ireturn, 1) := by decide +kernel
theorem d_Node_compareRows_32 : decode b_Node_compareRows 32 = .ok (.iinc 3 1, 3) := by decide +kernel
theorem d_Node_compareRows_35 : decode b_Node_compareRows 35 = .ok (.goto (-25), 3) := by decide +kernel
theorem d_Node_compareRows_38 : decode b_Node_compareRows 38 = .ok (.aload_n 0, 1) := by decide +kernel
theorem d_Node_compareRows_39 : decode b_Node_compareRows 39 = .ok (.arraylength, 1) := by decide +kernel
theorem d_Node_compareRows_40 : decode b_Node_compareRows 40 = .ok (.aload_n 1, 1) := by decide +kernel
theorem d_Node_compareRows_41 : decode b_Node_compareRows 41 = .ok (.arraylength, 1) := by decide +kernel
theorem d_Node_compareRows_42 : decode b_Node_compareRows 42 = .ok (.isub, 1) := by decide +kernel
theorem d_Node_compareRows_43 : decode b_Node_compareRows 43 = .ok (.ireturn, 1) := by decide +kernel
set_option maxHeartbeats 4000000 in
set_option maxRecDepth 100000 in
theorem c3_compareRows (l : Launch) (D : va_G) (cB cI cJ cZ cN cF : ClassId) (sz : Nat) (t1 : Nat) (m1 : Nat) (g1 : Nat → Int32) (t2 : Nat) (m2 : Nat) (g2 : Nat → Int32) (hm1 : m1 ≤ 400) (hm2 : m2 ≤ 400) : Met l y_Node_compareRows w_Node_compareRows ({ frames := 1, cells := 0, slots := 0, locals := 30 }) (va_Pc [.ref t1, .ref t2] (fun U => U.heap.size = sz ∧ va_P D CL [] U.heap ∧ va_K D CL (TY cB cI cJ cZ cN cF) U ∧ NN U ∧ va_D (fun _ => True) [] ∧ RO D [(t1, .inl (cB, m1, .inl g1)), (t2, .inl (cB, m2, .inl g2))] (va_A [] sz) U U.heap)) (va_Qi (fun (r : Int32) (u : Unit) => (Cmp3 r m1 g1 m2 g2)) (fun (u : Unit) (t : State) => match u with | () => va_P D CL [] t.heap ∧ va_D (va_A [] sz) []) (va_A [] sz)) 0 0 (va_A [] sz) := by
  refine Met.ofW (cc := b_Node_compareRows) (maxL := 4) (ret := some .int) (by decide +kernel) rfl ?_
  intro p e s m args below meth c s₁ B hml hv
  obtain ⟨rfl, hsz, hP, hK, hN, hD0, hZr⟩ := hv
  have hx := B.exec
  have hb := B.bytes
  have hr := B.returns
  have hts := atoms_spec (ws := w_Node_compareRows) B.pre
  have ht9 := fun (w : Cond) (h : w ∈ lw_g) => hts w (List.mem_cons_of_mem _ h)
  have hown : s.vm.findClass "DiscMaker$Node" = some m.cls := findClass_of_methodNamed B.named
  have hlocks := B.notSynchronized
  subst hsz
  have hD := hD0.self (sz := s.heap.size)
  generalize hAe : va_A [] s.heap.size = A at hD hZr ⊢
  have hA : ∀ q : Nat, s.heap.size ≤ q → A q := fun q h => by rw [← hAe]; exact Or.inr h
  have hS : va_S A s.heap s.heap [] := va_S.rf
  have hP : va_P D CL [] s.heap := hP
  have hl := lv_entry [.ref t1, .ref t2] (n := 4) (Nat.le_of_ble_eq_true rfl)
  rw [lg_entry_eq]
  generalize (lg_sl [.ref t1, .ref t2] ++ List.replicate (4 - (lg_sl [.ref t1, .ref t2]).length) Slot.unset).toArray = ls at hl ⊢
  have hl : lv_has ls 4 [(0, .ref t1), (1, .ref t2)] := hl
  have L_m1 : ((-1) : Int32).toInt = (-1) := by decide
  have L_0 : (0 : Int32).toInt = 0 := by decide
  have L_1 : (1 : Int32).toInt = 1 := by decide
  refine lv_aload_n hx hb d_Node_compareRows_0 rfl (lv_at hl 0 rfl) ?_
  have hPR := RO_at hZr hS
  refine va_alen (v := nI m1) hx hb hK hPR 0 0 rfl rfl rfl d_Node_compareRows_1 ?_
  refine lv_topi (fun v1 e_v1 => ?_)
  have t_v1 : v1.toInt = m1 := by rw [e_v1]; exact nI_toInt (by omega)
  refine lv_aload_n hx hb d_Node_compareRows_2 rfl (lv_at hl 1 rfl) ?_
  have hPR := RO_at hZr hS
  refine va_alen (v := nI m2) hx hb hK hPR 1 0 rfl rfl rfl d_Node_compareRows_3 ?_
  refine lv_topi (fun v2 e_v2 => ?_)
  have t_v2 : v2.toInt = m2 := by rw [e_v2]; exact nI_toInt (by omega)
  refine va_mmin (x := v1) (y := v2) hx hb (hml.trans hl.1.symm) hown (ht9 _ k826) (ht9 _ k607) (ht9 _ k137) (ht9 _ kMin) (Nat.le_of_ble_eq_true rfl) (Nat.le_of_ble_eq_true rfl) (by decide) (by decide) d_Node_compareRows_4 ?_
  refine lv_topi (fun v3 e_v3 => ?_)
  have t_v3 : (v3.toInt = v1.toInt ∧ v1.toInt ≤ v2.toInt) ∨ (v3.toInt = v2.toInt ∧ v2.toInt < v1.toInt) := by rw [e_v3]; exact i_min rfl rfl
  refine lv_istore_n hx hb d_Node_compareRows_7 rfl hl (by decide) rfl (fun ls hl => ?_)
  have hl : lv_has ls 4 [(2, .int v3), (0, .ref t1), (1, .ref t2)] := hl
  refine lv_iconst (v := 0) hx hb d_Node_compareRows_8 (by decide) ?_
  refine lv_istore_n hx hb d_Node_compareRows_9 rfl hl (by decide) rfl (fun ls hl => ?_)
  have hl : lv_has ls 4 [(3, .int 0), (2, .int v3), (0, .ref t1), (1, .ref t2)] := hl
  refine zz_labM (B := fun (lk : Nat) (K : Heap → List Loc → Array Slot → List Value → Prop) => ∀ (cm : Int32) (kx : Int32) (H : Heap) (locs : List Loc) (ls : Array Slot), lk = (cm.toInt - kx.toInt).toNat → (cm.toInt ≤ m1 ∧ cm.toInt ≤ m2 ∧ (cm.toInt = m1 ∨ cm.toInt = m2)) → (0 ≤ kx.toInt ∧ (kx.toInt ≤ cm.toInt ∨ kx.toInt = 0)) → (∀ j : Nat, (j : Int) < kx.toInt → g1 j = g2 j) → va_P D CL [] H → va_D A [] → va_S A s.heap H locs → lv_has ls 4 [(0, .ref t1), (1, .ref t2), (2, .int cm), (3, .int kx)] → K H locs ls []) 10 ?_ ?_
  · skip
    intro lk ih10 cm kx H locs ls hm10 e0 e1 e2 hP hD hS hl
    refine lv_iload_n hx hb d_Node_compareRows_10 rfl (lv_at hl 3 rfl) ?_
    refine lv_iload_n hx hb d_Node_compareRows_11 rfl (lv_at hl 2 rfl) ?_
    refine lv_icmp_ge (tgt := 38) hx hb d_Node_compareRows_12 (by decide) (fun h_9 => ?_) (fun h_9 => ?_)
    · skip
      have g12_11 : cm.toInt ≤ kx.toInt := (i_le rfl rfl).mp h_9
      refine lv_aload_n hx hb d_Node_compareRows_38 rfl (lv_at hl 0 rfl) ?_
      have hPR := RO_at hZr hS
      refine va_alen (v := nI m1) hx hb hK hPR 0 0 rfl rfl rfl d_Node_compareRows_39 ?_
      refine lv_topi (fun v4 e_v4 => ?_)
      have t_v4 : v4.toInt = m1 := by rw [e_v4]; exact nI_toInt (by omega)
      refine lv_aload_n hx hb d_Node_compareRows_40 rfl (lv_at hl 1 rfl) ?_
      have hPR := RO_at hZr hS
      refine va_alen (v := nI m2) hx hb hK hPR 1 0 rfl rfl rfl d_Node_compareRows_41 ?_
      refine lv_topi (fun v5 e_v5 => ?_)
      have t_v5 : v5.toInt = m2 := by rw [e_v5]; exact nI_toInt (by omega)
      refine lv_isub hx hb d_Node_compareRows_42 ?_
      refine lv_topi (fun v6 e_v6 => ?_)
      have t_v6 : v6.toInt = v4.toInt - v5.toInt := by rw [e_v6]; exact i_sub rfl rfl (by omega) (by omega)
      have hP9 := hP.sub (ws' := []) [] rfl
      have hD9 := hD.sub (ws' := []) [] (by decide +kernel) rfl
      exact W.iret (v := v6) hx hb hr (fun t ht hW => ⟨⟨v6, (), rfl, ((Decidable.em (m1 = m2)).elim (fun h8 => Or.inl ⟨by omega, h8, fun j hj => e2 j (by omega)⟩) (fun h8 => Or.inr (Or.inr ⟨fun j h1 h2 => e2 j (by omega), h8, by omega⟩))), by rw [ht]; exact hP9, hD9⟩, hS.F ht⟩) hS.2.2 d_Node_compareRows_43
    · skip
      have g12_11 : ¬ cm.toInt ≤ kx.toInt := fun h8 => h_9 ((i_le rfl rfl).mpr h8)
      refine lv_aload_n hx hb d_Node_compareRows_15 rfl (lv_at hl 0 rfl) ?_
      refine lv_iload_n hx hb d_Node_compareRows_16 rfl (lv_at hl 3 rfl) ?_
      have hPR := RO_at hZr hS
      refine va_bald hx hb hK hPR 0 0 rfl rfl (vp_in_iff.mpr ⟨by omega, by omega⟩) d_Node_compareRows_17 ?_
      refine lv_topi (fun v7 e_v7 => ?_)
      refine lv_aload_n hx hb d_Node_compareRows_18 rfl (lv_at hl 1 rfl) ?_
      refine lv_iload_n hx hb d_Node_compareRows_19 rfl (lv_at hl 3 rfl) ?_
      have hPR := RO_at hZr hS
      refine va_bald hx hb hK hPR 1 0 rfl rfl (vp_in_iff.mpr ⟨by omega, by omega⟩) d_Node_compareRows_20 ?_
      refine lv_topi (fun v8 e_v8 => ?_)
      refine lv_icmp_eq (tgt := 32) hx hb d_Node_compareRows_21 (by decide) (fun h_9 => ?_) (fun h_9 => ?_)
      · skip
        have g21_24 : v7.toInt = v8.toInt := (i_eq rfl rfl).mp h_9
        obtain ⟨v9, e_v9⟩ : ∃ z : Int32, z = kx + 1 := ⟨_, rfl⟩
        refine lv_iinc (v := v9) hx hb d_Node_compareRows_32 hl (k := 3) rfl e_v9.symm (by decide +kernel) rfl (fun ls hl => ?_)
        have t_v9 : v9.toInt = kx.toInt + 1 := by rw [e_v9]; exact i_add rfl (by decide) (by omega) (by omega)
        have hl : lv_has ls 4 [(3, .int v9), (0, .ref t1), (1, .ref t2), (2, .int cm)] := hl
        refine lv_goto (tgt := 10) hx hb d_Node_compareRows_35 (by decide) ?_
        have hP := hP.sub (ws' := []) [] rfl
        have hD := hD.sub (ws' := []) [] (by decide +kernel) rfl
        have hl := lv_sub hl [1, 2, 3, 0] rfl
        exact ih10 _ (by first | omega | (dsimp only; omega)) cm v9 _ _ _ rfl ((by (try dsimp only); first | assumption | omega | trivial)) ((by (try dsimp only); first | assumption | omega | trivial)) ((fun j hj => (Decidable.em (j = kx.toNatClampNeg)).elim (fun e => by subst e; rw [← e_v7, ← e_v8]; exact Int32.toInt_inj.mp (by omega)) (fun e => e2 j (by have := i_cl (a := kx) (by omega); omega)))) hP hD hS hl
      · skip
        have g21_24 : ¬ v7.toInt = v8.toInt := fun h8 => h_9 ((i_eq rfl rfl).mpr h8)
        refine lv_aload_n hx hb d_Node_compareRows_24 rfl (lv_at hl 0 rfl) ?_
        refine lv_iload_n hx hb d_Node_compareRows_25 rfl (lv_at hl 3 rfl) ?_
        have hPR := RO_at hZr hS
        refine va_bald hx hb hK hPR 0 0 rfl rfl (vp_in_iff.mpr ⟨by omega, by omega⟩) d_Node_compareRows_26 ?_
        refine lv_topi (fun v10 e_v10 => ?_)
        have q_v10 : v10.toInt = v7.toInt := by rw [e_v10, e_v7]
        refine lv_aload_n hx hb d_Node_compareRows_27 rfl (lv_at hl 1 rfl) ?_
        refine lv_iload_n hx hb d_Node_compareRows_28 rfl (lv_at hl 3 rfl) ?_
        have hPR := RO_at hZr hS
        refine va_bald hx hb hK hPR 1 0 rfl rfl (vp_in_iff.mpr ⟨by omega, by omega⟩) d_Node_compareRows_29 ?_
        refine lv_topi (fun v11 e_v11 => ?_)
        have q_v11 : v11.toInt = v8.toInt := by rw [e_v11, e_v8]
        refine lv_isub hx hb d_Node_compareRows_30 ?_
        refine lv_topi (fun v12 e_v12 => ?_)
        have h7 := i_cl (a := kx) (by omega)
        have hP9 := hP.sub (ws' := []) [] rfl
        have hD9 := hD.sub (ws' := []) [] (by decide +kernel) rfl
        exact W.iret (v := v12) hx hb hr (fun t ht hW => ⟨⟨v12, (), rfl, (Or.inr (Or.inl ⟨kx.toNatClampNeg, by omega, by omega, fun j hj => e2 j (by omega), fun h8 => by (have h9 : v7.toInt = v8.toInt := by rw [e_v7, e_v8, h8]); omega, by rw [e_v12, e_v10, e_v11]⟩)), by rw [ht]; exact hP9, hD9⟩, hS.F ht⟩) hS.2.2 d_Node_compareRows_31
  · skip
    intro kk10
    have hP := hP.sub (ws' := []) [] rfl
    have hD := hD.sub (ws' := []) [] (by decide +kernel) rfl
    have hl := lv_sub hl [2, 3, 1, 0] rfl
    exact kk10 _ v3 0 _ _ _ rfl ((by (try dsimp only); first | assumption | omega | trivial)) ((by (try dsimp only); first | assumption | omega | trivial)) ((fun j hj => absurd hj (by omega))) hP hD hS hl

theorem d_Node_isAlike_0 : decode b_Node_isAlike 0 = .ok (.aload_n 0, 1) := by decide +kernel
theorem d_Node_isAlike_1 : decode b_Node_isAlike 1 = .ok (.getfield 31, 3) := by decide +kernel
theorem d_Node_isAlike_4 : decode b_Node_isAlike 4 = .ok (.aload_n 1, 1) := by decide +kernel
theorem d_Node_isAlike_5 : decode b_Node_isAlike 5 = .ok (.getfield 31, 3) := by decide +kernel
theorem d_Node_isAlike_8 : decode b_Node_isAlike 8 = .ok (.invokestatic 57, 3) := by decide +kernel
theorem d_Node_isAlike_11 : decode b_Node_isAlike 11 = .ok (.ifCond .ne 7, 3) := by decide +kernel
theorem d_Node_isAlike_14 : decode b_Node_isAlike 14 = .ok (.iconst 1, 1) := by decide +kernel
theorem d_Node_isAlike_15 : decode b_Node_isAlike 15 = .ok (.goto 4, 3) := by decide +kernel
theorem d_Node_isAlike_18 : decode b_Node_isAlike 18 = .ok (.iconst 0, 1) := by decide +kernel
theorem d_Node_isAlike_19 : decode b_Node_isAlike 19 = .ok (.ireturn, 1) := by decide +kernel
set_option maxHeartbeats 4000000 in
set_option maxRecDepth 100000 in
theorem c3_isAlike (l : Launch) (D : va_G) (cB cI cJ cZ cN cF : ClassId) (sz : Nat) (h0 : Nat) (kna : Nat) (kke : Nat) (kta : Nat) (so : Int32) (nu : Int32) (pa : Int32) (ab : Int32) (mo : Int32) (ow : Int32) (gr : Int32) (si : Int32) (sd : Int32) (c2 : Nat → Int32) (j0 : Nat) (j1 : Nat) (j2 : Nat) (j3 : Nat) (zso : Int32) (znu : Int32) (zpa : Int32) (zab : Int32) (zmo : Int32) (zow : Int32) (zgr : Int32) (zsi : Int32) (zsd : Int32) (d2 : Nat → Int32) : Met l y_Node_isAlike w_Node_isAlike ({ frames := 2, cells := 0, slots := 0, locals := 59 }) (va_Pc [.ref h0, .ref j0] (fun U => U.heap.size = sz ∧ va_P D CL [] U.heap ∧ va_K D CL (TY cB cI cJ cZ cN cF) U ∧ NN U ∧ va_D (fun _ => True) [] ∧ RO D [(h0, .inr (5, [.int so, .ref kna, .ref kke, .ref kta, .int nu, .int pa, .int ab, .int mo, .int ow, .int gr, .int si, .int sd])), (kke, .inl (cB, 11, .inl c2)), (j0, .inr (5, [.int zso, .ref j1, .ref j2, .ref j3, .int znu, .int zpa, .int zab, .int zmo, .int zow, .int zgr, .int zsi, .int zsd])), (j2, .inl (cB, 11, .inl d2))] (va_A [] sz) U U.heap)) (va_Qi (fun (r : Int32) (u : Unit) => (0 ≤ r.toInt ∧ r.toInt ≤ 1)) (fun (u : Unit) (t : State) => match u with | () => va_P D CL [] t.heap ∧ va_D (va_A [] sz) []) (va_A [] sz)) 0 0 (va_A [] sz) := by
  refine Met.ofW (cc := b_Node_isAlike) (maxL := 2) (ret := some .boolean) (by decide +kernel) rfl ?_
  intro p e s m args below meth c s₁ B hml hv
  obtain ⟨rfl, hsz, hP, hK, hN, hD0, hZr⟩ := hv
  have hx := B.exec
  have hb := B.bytes
  have hr := B.returns
  have hts := atoms_spec (ws := w_Node_isAlike) B.pre
  have ht9 := fun (w : Cond) (h : w ∈ lw_g) => hts w (List.mem_cons_of_mem _ h)
  have hown : s.vm.findClass "DiscMaker$Node" = some m.cls := findClass_of_methodNamed B.named
  have hlocks := B.notSynchronized
  subst hsz
  have hD := hD0.self (sz := s.heap.size)
  generalize hAe : va_A [] s.heap.size = A at hD hZr ⊢
  have hA : ∀ q : Nat, s.heap.size ≤ q → A q := fun q h => by rw [← hAe]; exact Or.inr h
  have hS : va_S A s.heap s.heap [] := va_S.rf
  have hP : va_P D CL [] s.heap := hP
  have hl := lv_entry [.ref h0, .ref j0] (n := 2) (Nat.le_of_ble_eq_true rfl)
  rw [lg_entry_eq]
  generalize (lg_sl [.ref h0, .ref j0] ++ List.replicate (2 - (lg_sl [.ref h0, .ref j0]).length) Slot.unset).toArray = ls at hl ⊢
  have hl : lv_has ls 2 [(0, .ref h0), (1, .ref j0)] := hl
  have L_m1 : ((-1) : Int32).toInt = (-1) := by decide
  have L_0 : (0 : Int32).toInt = 0 := by decide
  have L_1 : (1 : Int32).toInt = 1 := by decide
  refine lv_aload_n hx hb d_Node_isAlike_0 rfl (lv_at hl 0 rfl) ?_
  have hPR := RO_at hZr hS
  refine va_get (D := D) (ci := 5) (v := .ref kke) (C := "DiscMaker$Node") (T := F_Node) (N := 12) hx hb ht9 in_Node hown hK hPR 0 rfl rfl 2 (by decide) (ht9 _ k188) (fun _ h9 => h9) rfl d_Node_isAlike_1 ?_
  refine lv_aload_n hx hb d_Node_isAlike_4 rfl (lv_at hl 1 rfl) ?_
  have hPR := RO_at hZr hS
  refine va_get (D := D) (ci := 5) (v := .ref j2) (C := "DiscMaker$Node") (T := F_Node) (N := 12) hx hb ht9 in_Node hown hK hPR 2 rfl rfl 2 (by decide) (ht9 _ k188) (fun _ h9 => h9) rfl d_Node_isAlike_5 ?_
  have hPc := hP.sub (ws' := []) [] rfl
  have hDc := hD.sub (ws' := []) [] (by decide +kernel) rfl
  have hFc := va_free (wc := []) hD hS hA [] rfl
  have hkc : 0 ≤ 0 := by decide
  have hks : 0 ≤ 0 := by decide
  refine va_calli (va_runS (As := [.ref kke, .ref j2]) (rest := []) ⟨hx, hb, hml, hown, hts⟩ (c3_compareRows l D cB cI cJ cZ cN cF s.heap.size kke 11 c2 j2 11 d2 (by (try dsimp only); first | assumption | omega | trivial) (by (try dsimp only); first | assumption | omega | trivial)) (cwS 2 hts (lg_goodS k867 k824 k118 kc_Node_compareRows) rfl rfl rfl (by decide +kernel) ⟨Nat.le_of_ble_eq_true rfl, Nat.le_of_ble_eq_true rfl⟩) ⟨fun a U g mk q => by obtain ⟨q0, q1, qP, qK, qN, qD, qZ0⟩ := q; exact ⟨q0, q1, qP, va_K.moved (u := U) (U := U.calling g mk a) (Vm.Alike.refl U.vm) qK, qN.calling, qD, RO_blind qZ0⟩, fun U hU hW => ⟨rfl, by rw [hU], by rw [hU]; exact hPc, va_K.moved hW.alike hK, NN.warm hW hN, hDc.weaken (fun _ _ _ _ => trivial), (RO_app (w1 := [(kke, .inl (cB, 11, .inl c2))]) (w2 := [(j2, .inl (cB, 11, .inl d2))]) (RO_pass (RO_one hZr 1 rfl) hS hFc hU) (RO_pass (RO_one hZr 3 rfl) hS hFc hU))⟩⟩ rfl rfl hl.1 rfl (lv_room (Nat.le_of_ble_eq_true rfl)) d_Node_isAlike_8 ⟨hkc, hks⟩) hS (fun q _ h => hFc q h) hFc (fun r1 u t H1 locs ht hvm hp_r1 hB hz1 hk1 hS => ?_)
  obtain ⟨hP1, hD1⟩ := hB
  rw [ht] at hP1
  obtain ⟨hP, hD⟩ := va_join (wr := []) (w1 := []) hP hD [] [] rfl rfl (by decide +kernel) (by decide +kernel) hk1 hFc hP1 hD1
  clear hPc hDc hFc hP1 hD1 hk1 hz1 hkc hks
  generalize H1 = H at hP hS ⊢
  have hP : va_P D CL [] H := hP
  have hD : va_D A [] := hD
  try dsimp only at hp_r1
  have hv_2 := hp_r1
  refine lv_if_ne (tgt := 18) hx hb d_Node_isAlike_11 (by decide) (fun h_9 => ?_) (fun h_9 => ?_)
  · skip
    have g11_6 : ¬ r1.toInt = 0 := fun h8 => h_9 ((i_eq rfl (by decide)).mpr h8)
    refine lv_iconst (v := 0) hx hb d_Node_isAlike_18 (by decide) ?_
    have hP9 := hP.sub (ws' := []) [] rfl
    have hD9 := hD.sub (ws' := []) [] (by decide +kernel) rfl
    exact W.zret (v := 0) hx hb hr (by first | rfl | decide | exact i_narZ (by omega)) (fun t ht hW => ⟨⟨0, (), rfl, (by (try dsimp only); first | assumption | omega | trivial), by rw [ht]; exact hP9, hD9⟩, hS.F ht⟩) hS.2.2 d_Node_isAlike_19
  · skip
    have g11_6 : r1.toInt = 0 := (i_eq rfl (by decide)).mp h_9
    refine lv_iconst (v := 1) hx hb d_Node_isAlike_14 (by decide) ?_
    refine lv_goto (tgt := 19) hx hb d_Node_isAlike_15 (by decide) ?_
    have hP9 := hP.sub (ws' := []) [] rfl
    have hD9 := hD.sub (ws' := []) [] (by decide +kernel) rfl
    exact W.zret (v := 1) hx hb hr (by first | rfl | decide | exact i_narZ (by omega)) (fun t ht hW => ⟨⟨1, (), rfl, (by (try dsimp only); first | assumption | omega | trivial), by rw [ht]; exact hP9, hD9⟩, hS.F ht⟩) hS.2.2 d_Node_isAlike_19

theorem d_Node_addKeyTo_0 : decode b_Node_addKeyTo 0 = .ok (.aload_n 0, 1) := by decide +kernel
theorem d_Node_addKeyTo_1 : decode b_Node_addKeyTo 1 = .ok (.iload_n 2, 1) := by decide +kernel
theorem d_Node_addKeyTo_2 : decode b_Node_addKeyTo 2 = .ok (.iload_n 3, 1) := by decide +kernel
theorem d_Node_addKeyTo_3 : decode b_Node_addKeyTo 3 = .ok (.invokevirtual 48, 3) := by decide +kernel
theorem d_Node_addKeyTo_6 : decode b_Node_addKeyTo 6 = .ok (.istore 4, 2) := by decide +kernel
theorem d_Node_addKeyTo_8 : decode b_Node_addKeyTo 8 = .ok (.iconst 0, 1) := by decide +kernel
theorem d_Node_addKeyTo_9 : decode b_Node_addKeyTo 9 = .ok (.istore 5, 2) := by decide +kernel
theorem d_Node_addKeyTo_11 : decode b_Node_addKeyTo 11 = .ok (.iload 5, 2) := by decide +kernel
theorem d_Node_addKeyTo_13 : decode b_Node_addKeyTo 13 = .ok (.iload 4, 2) := by decide +kernel
theorem d_Node_addKeyTo_15 : decode b_Node_addKeyTo 15 = .ok (.if_icmp .ge 27, 3) := by decide +kernel
theorem d_Node_addKeyTo_18 : decode b_Node_addKeyTo 18 = .ok (.aload_n 1, 1) := by decide +kernel
theorem d_Node_addKeyTo_19 : decode b_Node_addKeyTo 19 = .ok (.aload_n 1, 1) := by decide +kernel
theorem d_Node_addKeyTo_20 : decode b_Node_addKeyTo 20 = .ok (.iconst 1, 1) := by decide +kernel
theorem d_Node_addKeyTo_21 : decode b_Node_addKeyTo 21 = .ok (.invokevirtual 65, 3) := by decide +kernel
theorem d_Node_addKeyTo_24 : decode b_Node_addKeyTo 24 = .ok (.aload_n 0, 1) := by decide +kernel
theorem d_Node_addKeyTo_25 : decode b_Node_addKeyTo 25 = .ok (.getfield 31, 3) := by decide +kernel
theorem d_Node_addKeyTo_28 : decode b_Node_addKeyTo 28 = .ok (.iload_n 2, 1) := by decide +kernel
theorem d_Node_addKeyTo_29 : decode b_Node_addKeyTo 29 = .ok (.iload 5, 2) := by decide +kernel
theorem d_Node_addKeyTo_31 : decode b_Node_addKeyTo 31 = .ok (.iadd, 1) := by decide +kernel
theorem d_Node_addKeyTo_32 : decode b_Node_addKeyTo 32 = .ok (.baload, 1) := by decide +kernel
theorem d_Node_addKeyTo_33 : decode b_Node_addKeyTo 33 = .ok (.invokevirtual 71, 3) := by decide +kernel
theorem d_Node_addKeyTo_36 : decode b_Node_addKeyTo 36 = .ok (.iinc 5 1, 3) := by decide +kernel
theorem d_Node_addKeyTo_39 : decode b_Node_addKeyTo 39 = .ok (.goto (-28), 3) := by decide +kernel
theorem d_Node_addKeyTo_42 : decode b_Node_addKeyTo 42 = .ok (.return_, 1) := by decide +kernel
set_option maxHeartbeats 4000000 in
set_option maxRecDepth 100000 in
theorem c3_addKeyTo (l : Launch) (D : va_G) (cB cI cJ cZ cN cF : ClassId) (sz : Nat) (h0 : Nat) (kna : Nat) (kke : Nat) (kta : Nat) (so : Int32) (nu : Int32) (pa : Int32) (ab : Int32) (mo : Int32) (ow : Int32) (gr : Int32) (si : Int32) (sd : Int32) (c2 : Nat → Int32) (bo : Nat) (bq : Nat) (n : Nat) (L : Int32) (f : Nat → Int32) (x : Int32) (y : Int32) (hL : 0 ≤ L.toInt ∧ L.toInt ≤ n) (hn : n ≤ 3000000) (hx : 0 ≤ x.toInt ∧ 0 ≤ y.toInt ∧ x.toInt + y.toInt ≤ 11) : Met l y_Node_addKeyTo w_Node_addKeyTo ({ frames := 1, cells := 0, slots := 0, locals := 29 }) (va_Pc [.ref h0, .ref bo, .int x, .int y] (fun U => U.heap.size = sz ∧ va_P D CL [(bo, .inr (1, [.ref bq, .int L])), (bq, .inl (cB, n, .inl f))] U.heap ∧ va_K D CL (TY cB cI cJ cZ cN cF) U ∧ NN U ∧ va_D (fun _ => True) [(bo, .inr (1, [.ref bq, .int L])), (bq, .inl (cB, n, .inl f))] ∧ RO D [(h0, .inr (5, [.int so, .ref kna, .ref kke, .ref kta, .int nu, .int pa, .int ab, .int mo, .int ow, .int gr, .int si, .int sd])), (kke, .inl (cB, 11, .inl c2))] (va_A [(bo, .inr (1, [.ref bq, .int L])), (bq, .inl (cB, n, .inl f))] sz) U U.heap)) (va_Qv (fun (u : Int32 × (Nat → Int32)) => match u with | (L2, g) => (0 ≤ L2.toInt ∧ L2.toInt ≤ n)) (fun (u : Int32 × (Nat → Int32)) (t : State) => match u with | (L2, g) => va_P D CL [(bo, .inr (1, [.ref bq, .int L2])), (bq, .inl (cB, n, .inl g))] t.heap ∧ va_D (va_A [(bo, .inr (1, [.ref bq, .int L])), (bq, .inl (cB, n, .inl f))] sz) [(bo, .inr (1, [.ref bq, .int L2])), (bq, .inl (cB, n, .inl g))]) (va_A [(bo, .inr (1, [.ref bq, .int L])), (bq, .inl (cB, n, .inl f))] sz)) 0 0 (va_A [(bo, .inr (1, [.ref bq, .int L])), (bq, .inl (cB, n, .inl f))] sz) := by
  refine Met.ofW (cc := b_Node_addKeyTo) (maxL := 6) (ret := none) (by decide +kernel) rfl ?_
  intro p e s m args below meth c s₁ B hml hv
  obtain ⟨rfl, hsz, hP, hK, hN, hD0, hZr⟩ := hv
  have hx := B.exec
  have hb := B.bytes
  have hr := B.returns
  have hts := atoms_spec (ws := w_Node_addKeyTo) B.pre
  have ht9 := fun (w : Cond) (h : w ∈ lw_g) => hts w (List.mem_cons_of_mem _ h)
  have hown : s.vm.findClass "DiscMaker$Node" = some m.cls := findClass_of_methodNamed B.named
  have hlocks := B.notSynchronized
  subst hsz
  have hD := hD0.self (sz := s.heap.size)
  generalize hAe : va_A [(bo, .inr (1, [.ref bq, .int L])), (bq, .inl (cB, n, .inl f))] s.heap.size = A at hD hZr ⊢
  have hA : ∀ q : Nat, s.heap.size ≤ q → A q := fun q h => by rw [← hAe]; exact Or.inr h
  have hS : va_S A s.heap s.heap [] := va_S.rf
  have hP : va_P D CL [(bo, .inr (1, [.ref bq, .int L])), (bq, .inl (cB, n, .inl f))] s.heap := hP
  have hl := lv_entry [.ref h0, .ref bo, .int x, .int y] (n := 6) (Nat.le_of_ble_eq_true rfl)
  rw [lg_entry_eq]
  generalize (lg_sl [.ref h0, .ref bo, .int x, .int y] ++ List.replicate (6 - (lg_sl [.ref h0, .ref bo, .int x, .int y]).length) Slot.unset).toArray = ls at hl ⊢
  have hl : lv_has ls 6 [(0, .ref h0), (1, .ref bo), (2, .int x), (3, .int y)] := hl
  have L_m1 : ((-1) : Int32).toInt = (-1) := by decide
  have L_0 : (0 : Int32).toInt = 0 := by decide
  have L_1 : (1 : Int32).toInt = 1 := by decide
  refine lv_aload_n hx hb d_Node_addKeyTo_0 rfl (lv_at hl 0 rfl) ?_
  refine lv_iload_n hx hb d_Node_addKeyTo_1 rfl (lv_at hl 2 rfl) ?_
  refine lv_iload_n hx hb d_Node_addKeyTo_2 rfl (lv_at hl 3 rfl) ?_
  have hPc := hP.sub (ws' := []) [] rfl
  have hDc := hD.sub (ws' := []) [] (by decide +kernel) rfl
  have hFc := va_free (wc := []) hD hS hA [] rfl
  have hPR := RO_at hZr hS
  have hkc : 0 ≤ 0 := by decide
  have hks : 0 ≤ 0 := by decide
  refine va_calli (va_runV (C := "DiscMaker$Node") (As := [.int x, .int y]) (rest := []) ⟨hx, hb, hml, hown, hts⟩ (c3_lengthOf l D cB cI cJ cZ cN cF s.heap.size h0 kna kke kta so nu pa ab mo ow gr si sd c2 x y (by (try dsimp only); first | assumption | omega | trivial)) (cwV 2 hts (lg_goodV k855 k857 k7 k118 kc_Node_lengthOf) rfl rfl rfl (by decide +kernel) ⟨Nat.le_of_ble_eq_true rfl, Nat.le_of_ble_eq_true rfl⟩) ⟨fun a U g mk q => by obtain ⟨q0, q1, qP, qK, qN, qD, qZ0⟩ := q; exact ⟨q0, q1, qP, va_K.moved (u := U) (U := U.calling g mk a) (Vm.Alike.refl U.vm) qK, qN.calling, qD, RO_blind qZ0⟩, va_recv hK hPR (ci := 5) (q0 := 0) rfl rfl, fun U hU hW => ⟨rfl, by rw [hU], by rw [hU]; exact hPc, va_K.moved hW.alike hK, NN.warm hW hN, hDc.weaken (fun _ _ _ _ => trivial), (RO_app (w1 := [(h0, .inr (5, [.int so, .ref kna, .ref kke, .ref kta, .int nu, .int pa, .int ab, .int mo, .int ow, .int gr, .int si, .int sd]))]) (w2 := [(kke, .inl (cB, 11, .inl c2))]) (RO_pass (RO_one hZr 0 rfl) hS hFc hU) (RO_pass (RO_one hZr 1 rfl) hS hFc hU))⟩⟩ rfl rfl hl.1 rfl (lv_room (Nat.le_of_ble_eq_true rfl)) d_Node_addKeyTo_3 ⟨hkc, hks⟩) hS (fun q _ h => hFc q h) hFc (fun r1 u t H1 locs ht hvm hp_r1 hB hz1 hk1 hS => ?_)
  obtain ⟨hP1, hD1⟩ := hB
  rw [ht] at hP1
  obtain ⟨hP, hD⟩ := va_join (wr := [(bo, .inr (1, [.ref bq, .int L])), (bq, .inl (cB, n, .inl f))]) (w1 := []) hP hD [] [0, 1] rfl rfl (by decide +kernel) (by decide +kernel) hk1 hFc hP1 hD1
  clear hPc hDc hFc hP1 hD1 hk1 hz1 hkc hks
  generalize H1 = H at hP hS ⊢
  have hP : va_P D CL [(bo, .inr (1, [.ref bq, .int L])), (bq, .inl (cB, n, .inl f))] H := hP
  have hD : va_D A [(bo, .inr (1, [.ref bq, .int L])), (bq, .inl (cB, n, .inl f))] := hD
  try dsimp only at hp_r1
  have hr_2 := hp_r1
  refine lv_istore hx hb d_Node_addKeyTo_6 hl (by decide) rfl (fun ls hl => ?_)
  have hl : lv_has ls 6 [(4, .int r1), (0, .ref h0), (1, .ref bo), (2, .int x), (3, .int y)] := hl
  refine lv_iconst (v := 0) hx hb d_Node_addKeyTo_8 (by decide) ?_
  refine lv_istore hx hb d_Node_addKeyTo_9 hl (by decide) rfl (fun ls hl => ?_)
  have hl : lv_has ls 6 [(5, .int 0), (4, .int r1), (0, .ref h0), (1, .ref bo), (2, .int x), (3, .int y)] := hl
  refine zz_labM (B := fun (lk : Nat) (K : Heap → List Loc → Array Slot → List Value → Prop) => ∀ (ct : Int32) (kx : Int32) (lL : Int32) (lf : Nat → Int32) (H : Heap) (locs : List Loc) (ls : Array Slot), lk = (ct.toInt - kx.toInt).toNat → (0 ≤ ct.toInt ∧ ct.toInt ≤ y.toInt) → (0 ≤ kx.toInt ∧ kx.toInt ≤ ct.toInt) → (0 ≤ lL.toInt ∧ lL.toInt ≤ n) → va_P D CL [(bo, .inr (1, [.ref bq, .int lL])), (bq, .inl (cB, n, .inl lf))] H → va_D A [(bo, .inr (1, [.ref bq, .int lL])), (bq, .inl (cB, n, .inl lf))] → va_S A s.heap H locs → lv_has ls 6 [(0, .ref h0), (1, .ref bo), (2, .int x), (3, .int y), (4, .int ct), (5, .int kx)] → K H locs ls []) 11 ?_ ?_
  · skip
    intro lk ih11 ct kx lL lf H locs ls hm11 e0 e1 e2 hP hD hS hl
    refine lv_iload hx hb d_Node_addKeyTo_11 (lv_at hl 5 rfl) ?_
    refine lv_iload hx hb d_Node_addKeyTo_13 (lv_at hl 4 rfl) ?_
    refine lv_icmp_ge (tgt := 42) hx hb d_Node_addKeyTo_15 (by decide) (fun h_9 => ?_) (fun h_9 => ?_)
    · skip
      have g15_10 : ct.toInt ≤ kx.toInt := (i_le rfl rfl).mp h_9
      have hP9 := hP.sub (ws' := [(bo, .inr (1, [.ref bq, .int lL])), (bq, .inl (cB, n, .inl lf))]) [0, 1] rfl
      have hD9 := hD.sub (ws' := [(bo, .inr (1, [.ref bq, .int lL])), (bq, .inl (cB, n, .inl lf))]) [0, 1] (by decide +kernel) rfl
      exact W.vret hx hb hr (fun t ht hW => ⟨⟨(lL, lf), rfl, (by (try dsimp only); first | assumption | omega | trivial), by rw [ht]; exact hP9, hD9⟩, hS.F ht⟩) hS.2.2 d_Node_addKeyTo_42
    · skip
      have g15_10 : ¬ ct.toInt ≤ kx.toInt := fun h8 => h_9 ((i_le rfl rfl).mpr h8)
      refine lv_aload_n hx hb d_Node_addKeyTo_18 rfl (lv_at hl 1 rfl) ?_
      refine lv_aload_n hx hb d_Node_addKeyTo_19 rfl (lv_at hl 1 rfl) ?_
      refine lv_iconst (v := 1) hx hb d_Node_addKeyTo_20 (by decide) ?_
      have hPc := hP.sub (ws' := [(bo, .inr (1, [.ref bq, .int lL])), (bq, .inl (cB, n, .inl lf))]) [0, 1] rfl
      have hDc := hD.sub (ws' := [(bo, .inr (1, [.ref bq, .int lL])), (bq, .inl (cB, n, .inl lf))]) [0, 1] (by decide +kernel) rfl
      have hFc := va_free (wc := [(bo, .inr (1, [.ref bq, .int lL])), (bq, .inl (cB, n, .inl lf))]) hD hS hA [0, 1] rfl
      have hkc : 0 ≤ 0 := by decide
      have hks : 0 ≤ 0 := by decide
      refine va_calli (va_runV (C := "DiscMaker$Bytes") (As := [.int 1]) (rest := [.ref bo]) ⟨hx, hb, hml, hown, hts⟩ (c3_extend l D cB cI cJ cZ cN cF H.size bo bq n lL lf 1 (by (try dsimp only); first | assumption | omega | trivial) (by (try dsimp only); first | assumption | omega | trivial) (by (try dsimp only); first | assumption | omega | trivial)) (cwV 1 hts (lg_goodV k983 k908 k909 k119 kc_Bytes_extend) rfl rfl rfl (by decide +kernel) ⟨Nat.le_of_ble_eq_true rfl, Nat.le_of_ble_eq_true rfl⟩) ⟨fun a U g mk q => by obtain ⟨q0, q1, qP, qK, qN, qD⟩ := q; exact ⟨q0, q1, qP, va_K.moved (u := U) (U := U.calling g mk a) (Vm.Alike.refl U.vm) qK, qN.calling, qD⟩, va_recv hK hP (ci := 1) (q0 := 0) rfl rfl, fun U hU hW => ⟨rfl, by rw [hU], by rw [hU]; exact hPc, va_K.moved hW.alike hK, NN.warm hW hN, hDc.weaken (fun _ _ _ _ => trivial)⟩⟩ rfl rfl hl.1 rfl (lv_room (Nat.le_of_ble_eq_true rfl)) d_Node_addKeyTo_21 ⟨hkc, hks⟩) hS (fun q _ h => hFc q h) hFc (fun r3 u t H1 locs ht hvm hp_r3 hB hz1 hk1 hS => ?_)
      obtain ⟨L2_4, g_5⟩ := u
      obtain ⟨hP1, hD1⟩ := hB
      rw [ht] at hP1
      obtain ⟨hP, hD⟩ := va_join (wr := []) (w1 := [(bo, .inr (1, [.ref bq, .int L2_4])), (bq, .inl (cB, n, .inl g_5))]) hP hD [0, 1] [] rfl rfl (by decide +kernel) (by decide +kernel) hk1 hFc hP1 hD1
      clear hPc hDc hFc hP1 hD1 hk1 hz1 hkc hks
      generalize H1 = H at hP hS ⊢
      have hP : va_P D CL [(bo, .inr (1, [.ref bq, .int L2_4])), (bq, .inl (cB, n, .inl g_5))] H := hP
      have hD : va_D A [(bo, .inr (1, [.ref bq, .int L2_4])), (bq, .inl (cB, n, .inl g_5))] := hD
      try dsimp only at hp_r3
      obtain ⟨hv_6, hE_7⟩ := hp_r3
      try rw [L_1] at hE_7
      refine lv_aload_n hx hb d_Node_addKeyTo_24 rfl (lv_at hl 0 rfl) ?_
      have hPR := RO_at hZr hS
      refine va_get (D := D) (ci := 5) (v := .ref kke) (C := "DiscMaker$Node") (T := F_Node) (N := 12) hx hb ht9 in_Node hown hK hPR 0 rfl rfl 2 (by decide) (ht9 _ k188) (fun _ h9 => h9) rfl d_Node_addKeyTo_25 ?_
      refine lv_iload_n hx hb d_Node_addKeyTo_28 rfl (lv_at hl 2 rfl) ?_
      refine lv_iload hx hb d_Node_addKeyTo_29 (lv_at hl 5 rfl) ?_
      refine lv_iadd hx hb d_Node_addKeyTo_31 ?_
      refine lv_topi (fun v8 e_v8 => ?_)
      have t_v8 : v8.toInt = x.toInt + kx.toInt := by rw [e_v8]; exact i_add rfl rfl (by omega) (by omega)
      have hPR := RO_at hZr hS
      refine va_bald hx hb hK hPR 1 0 rfl rfl (vp_in_iff.mpr ⟨by omega, by omega⟩) d_Node_addKeyTo_32 ?_
      refine lv_topi (fun v9 e_v9 => ?_)
      have hPc := hP.sub (ws' := [(bo, .inr (1, [.ref bq, .int L2_4])), (bq, .inl (cB, n, .inl g_5))]) [0, 1] rfl
      have hDc := hD.sub (ws' := [(bo, .inr (1, [.ref bq, .int L2_4])), (bq, .inl (cB, n, .inl g_5))]) [0, 1] (by decide +kernel) rfl
      have hFc := va_free (wc := [(bo, .inr (1, [.ref bq, .int L2_4])), (bq, .inl (cB, n, .inl g_5))]) hD hS hA [0, 1] rfl
      have hkc : 0 ≤ 0 := by decide
      have hks : 0 ≤ 0 := by decide
      refine va_callv (va_runV (C := "DiscMaker$Bytes") (As := [.int r3, .int v9]) (rest := []) ⟨hx, hb, hml, hown, hts⟩ (c3_put l D cB cI cJ cZ cN cF H.size bo bq n L2_4 g_5 r3 v9 (by (try dsimp only); first | assumption | omega | trivial) (by (try dsimp only); first | assumption | omega | trivial)) (cwV 2 hts (lg_goodV k997 k912 k913 k119 kc_Bytes_put) rfl rfl rfl (by decide +kernel) ⟨Nat.le_of_ble_eq_true rfl, Nat.le_of_ble_eq_true rfl⟩) ⟨fun a U g mk q => by obtain ⟨q0, q1, qP, qK, qN, qD⟩ := q; exact ⟨q0, q1, qP, va_K.moved (u := U) (U := U.calling g mk a) (Vm.Alike.refl U.vm) qK, qN.calling, qD⟩, va_recv hK hP (ci := 1) (q0 := 0) rfl rfl, fun U hU hW => ⟨rfl, by rw [hU], by rw [hU]; exact hPc, va_K.moved hW.alike hK, NN.warm hW hN, hDc.weaken (fun _ _ _ _ => trivial)⟩⟩ rfl rfl hl.1 rfl (lv_room (Nat.le_of_ble_eq_true rfl)) d_Node_addKeyTo_33 ⟨hkc, hks⟩) hS (fun q _ h => hFc q h) hFc (fun u t H1 locs ht hvm hp_r10 hB hz1 hk1 hS => ?_)
      obtain ⟨g_11, rfl⟩ : ∃ z, z = u := ⟨_, rfl⟩
      obtain ⟨hP1, hD1⟩ := hB
      rw [ht] at hP1
      obtain ⟨hP, hD⟩ := va_join (wr := []) (w1 := [(bo, .inr (1, [.ref bq, .int L2_4])), (bq, .inl (cB, n, .inl g_11))]) hP hD [0, 1] [] rfl rfl (by decide +kernel) (by decide +kernel) hk1 hFc hP1 hD1
      clear hPc hDc hFc hP1 hD1 hk1 hz1 hkc hks
      generalize H1 = H at hP hS ⊢
      have hP : va_P D CL [(bo, .inr (1, [.ref bq, .int L2_4])), (bq, .inl (cB, n, .inl g_11))] H := hP
      have hD : va_D A [(bo, .inr (1, [.ref bq, .int L2_4])), (bq, .inl (cB, n, .inl g_11))] := hD
      obtain ⟨v12, e_v12⟩ : ∃ z : Int32, z = kx + 1 := ⟨_, rfl⟩
      refine lv_iinc (v := v12) hx hb d_Node_addKeyTo_36 hl (k := 5) rfl e_v12.symm (by decide +kernel) rfl (fun ls hl => ?_)
      have t_v12 : v12.toInt = kx.toInt + 1 := by rw [e_v12]; exact i_add rfl (by decide) (by omega) (by omega)
      have hl : lv_has ls 6 [(5, .int v12), (0, .ref h0), (1, .ref bo), (2, .int x), (3, .int y), (4, .int ct)] := hl
      refine lv_goto (tgt := 11) hx hb d_Node_addKeyTo_39 (by decide) ?_
      have hP := hP.sub (ws' := [(bo, .inr (1, [.ref bq, .int L2_4])), (bq, .inl (cB, n, .inl g_11))]) [0, 1] rfl
      have hD := hD.sub (ws' := [(bo, .inr (1, [.ref bq, .int L2_4])), (bq, .inl (cB, n, .inl g_11))]) [0, 1] (by decide +kernel) rfl
      have hl := lv_sub hl [1, 2, 3, 4, 5, 0] rfl
      exact ih11 _ (by first | omega | (dsimp only; omega)) ct v12 L2_4 g_11 _ _ _ rfl ((by (try dsimp only); first | assumption | omega | trivial)) ((by (try dsimp only); first | assumption | omega | trivial)) ((by (try dsimp only); first | assumption | omega | trivial)) hP hD hS hl
  · skip
    intro kk11
    have hP := hP.sub (ws' := [(bo, .inr (1, [.ref bq, .int L])), (bq, .inl (cB, n, .inl f))]) [0, 1] rfl
    have hD := hD.sub (ws' := [(bo, .inr (1, [.ref bq, .int L])), (bq, .inl (cB, n, .inl f))]) [0, 1] (by decide +kernel) rfl
    have hl := lv_sub hl [2, 3, 4, 5, 1, 0] rfl
    exact kk11 _ r1 0 L f _ _ _ rfl ((by (try dsimp only); first | assumption | omega | trivial)) ((by (try dsimp only); first | assumption | omega | trivial)) ((by (try dsimp only); first | assumption | omega | trivial)) hP hD hS hl

theorem d_Node_addShortTo_0 : decode b_Node_addShortTo 0 = .ok (.aload_n 0, 1) := by decide +kernel
theorem d_Node_addShortTo_1 : decode b_Node_addShortTo 1 = .ok (.aload_n 1, 1) := by decide +kernel
theorem d_Node_addShortTo_2 : decode b_Node_addShortTo 2 = .ok (.iconst 0, 1) := by decide +kernel
theorem d_Node_addShortTo_3 : decode b_Node_addShortTo 3 = .ok (.bipush 8, 2) := by decide +kernel
theorem d_Node_addShortTo_5 : decode b_Node_addShortTo 5 = .ok (.invokevirtual 61, 3) := by decide +kernel
theorem d_Node_addShortTo_8 : decode b_Node_addShortTo 8 = .ok (.aload_n 0, 1) := by decide +kernel
theorem d_Node_addShortTo_9 : decode b_Node_addShortTo 9 = .ok (.getfield 9, 3) := by decide +kernel
theorem d_Node_addShortTo_12 : decode b_Node_addShortTo 12 = .ok (.ifCond .eq 44, 3) := by decide +kernel
theorem d_Node_addShortTo_15 : decode b_Node_addShortTo 15 = .ok (.aload_n 1, 1) := by decide +kernel
theorem d_Node_addShortTo_16 : decode b_Node_addShortTo 16 = .ok (.aload_n 1, 1) := by decide +kernel
theorem d_Node_addShortTo_17 : decode b_Node_addShortTo 17 = .ok (.iconst 1, 1) := by decide +kernel
theorem d_Node_addShortTo_18 : decode b_Node_addShortTo 18 = .ok (.invokevirtual 65, 3) := by decide +kernel
theorem d_Node_addShortTo_21 : decode b_Node_addShortTo 21 = .ok (.bipush 46, 2) := by decide +kernel
theorem d_Node_addShortTo_23 : decode b_Node_addShortTo 23 = .ok (.invokevirtual 71, 3) := by decide +kernel
theorem d_Node_addShortTo_26 : decode b_Node_addShortTo 26 = .ok (.aload_n 0, 1) := by decide +kernel
theorem d_Node_addShortTo_27 : decode b_Node_addShortTo 27 = .ok (.aload_n 1, 1) := by decide +kernel
theorem d_Node_addShortTo_28 : decode b_Node_addShortTo 28 = .ok (.bipush 8, 2) := by decide +kernel
theorem d_Node_addShortTo_30 : decode b_Node_addShortTo 30 = .ok (.iconst 3, 1) := by decide +kernel
theorem d_Node_addShortTo_31 : decode b_Node_addShortTo 31 = .ok (.invokevirtual 61, 3) := by decide +kernel
theorem d_Node_addShortTo_34 : decode b_Node_addShortTo 34 = .ok (.aload_n 1, 1) := by decide +kernel
theorem d_Node_addShortTo_35 : decode b_Node_addShortTo 35 = .ok (.aload_n 1, 1) := by decide +kernel
theorem d_Node_addShortTo_36 : decode b_Node_addShortTo 36 = .ok (.iconst 1, 1) := by decide +kernel
theorem d_Node_addShortTo_37 : decode b_Node_addShortTo 37 = .ok (.invokevirtual 65, 3) := by decide +kernel
theorem d_Node_addShortTo_40 : decode b_Node_addShortTo 40 = .ok (.bipush 59, 2) := by decide +kernel
theorem d_Node_addShortTo_42 : decode b_Node_addShortTo 42 = .ok (.invokevirtual 71, 3) := by decide +kernel
theorem d_Node_addShortTo_45 : decode b_Node_addShortTo 45 = .ok (.aload_n 1, 1) := by decide +kernel
theorem d_Node_addShortTo_46 : decode b_Node_addShortTo 46 = .ok (.aload_n 1, 1) := by decide +kernel
theorem d_Node_addShortTo_47 : decode b_Node_addShortTo 47 = .ok (.iconst 1, 1) := by decide +kernel
theorem d_Node_addShortTo_48 : decode b_Node_addShortTo 48 = .ok (.invokevirtual 65, 3) := by decide +kernel
theorem d_Node_addShortTo_51 : decode b_Node_addShortTo 51 = .ok (.bipush 49, 2) := by decide +kernel
theorem d_Node_addShortTo_53 : decode b_Node_addShortTo 53 = .ok (.invokevirtual 71, 3) := by decide +kernel
theorem d_Node_addShortTo_56 : decode b_Node_addShortTo 56 = .ok (.return_, 1) := by decide +kernel
set_option maxHeartbeats 4000000 in
set_option maxRecDepth 100000 in
theorem c3_addShortTo (l : Launch) (D : va_G) (cB cI cJ cZ cN cF : ClassId) (sz : Nat) (h0 : Nat) (kna : Nat) (kke : Nat) (kta : Nat) (so : Int32) (nu : Int32) (pa : Int32) (ab : Int32) (mo : Int32) (ow : Int32) (gr : Int32) (si : Int32) (sd : Int32) (c2 : Nat → Int32) (bo : Nat) (bq : Nat) (n : Nat) (L : Int32) (f : Nat → Int32) (hL : 0 ≤ L.toInt ∧ L.toInt ≤ n) (hn : n ≤ 3000000) : Met l y_Node_addShortTo w_Node_addShortTo ({ frames := 2, cells := 0, slots := 0, locals := 60 }) (va_Pc [.ref h0, .ref bo] (fun U => U.heap.size = sz ∧ va_P D CL [(bo, .inr (1, [.ref bq, .int L])), (bq, .inl (cB, n, .inl f))] U.heap ∧ va_K D CL (TY cB cI cJ cZ cN cF) U ∧ NN U ∧ va_D (fun _ => True) [(bo, .inr (1, [.ref bq, .int L])), (bq, .inl (cB, n, .inl f))] ∧ RO D [(h0, .inr (5, [.int so, .ref kna, .ref kke, .ref kta, .int nu, .int pa, .int ab, .int mo, .int ow, .int gr, .int si, .int sd])), (kke, .inl (cB, 11, .inl c2))] (va_A [(bo, .inr (1, [.ref bq, .int L])), (bq, .inl (cB, n, .inl f))] sz) U U.heap)) (va_Qv (fun (u : Int32 × (Nat → Int32)) => match u with | (L2, g) => (0 ≤ L2.toInt ∧ L2.toInt ≤ n)) (fun (u : Int32 × (Nat → Int32)) (t : State) => match u with | (L2, g) => va_P D CL [(bo, .inr (1, [.ref bq, .int L2])), (bq, .inl (cB, n, .inl g))] t.heap ∧ va_D (va_A [(bo, .inr (1, [.ref bq, .int L])), (bq, .inl (cB, n, .inl f))] sz) [(bo, .inr (1, [.ref bq, .int L2])), (bq, .inl (cB, n, .inl g))]) (va_A [(bo, .inr (1, [.ref bq, .int L])), (bq, .inl (cB, n, .inl f))] sz)) 0 0 (va_A [(bo, .inr (1, [.ref bq, .int L])), (bq, .inl (cB, n, .inl f))] sz) := by
  refine Met.ofW (cc := b_Node_addShortTo) (maxL := 2) (ret := none) (by decide +kernel) rfl ?_
  intro p e s m args below meth c s₁ B hml hv
  obtain ⟨rfl, hsz, hP, hK, hN, hD0, hZr⟩ := hv
  have hx := B.exec
  have hb := B.bytes
  have hr := B.returns
  have hts := atoms_spec (ws := w_Node_addShortTo) B.pre
  have ht9 := fun (w : Cond) (h : w ∈ lw_g) => hts w (List.mem_cons_of_mem _ h)
  have hown : s.vm.findClass "DiscMaker$Node" = some m.cls := findClass_of_methodNamed B.named
  have hlocks := B.notSynchronized
  subst hsz
  have hD := hD0.self (sz := s.heap.size)
  generalize hAe : va_A [(bo, .inr (1, [.ref bq, .int L])), (bq, .inl (cB, n, .inl f))] s.heap.size = A at hD hZr ⊢
  have hA : ∀ q : Nat, s.heap.size ≤ q → A q := fun q h => by rw [← hAe]; exact Or.inr h
  have hS : va_S A s.heap s.heap [] := va_S.rf
  have hP : va_P D CL [(bo, .inr (1, [.ref bq, .int L])), (bq, .inl (cB, n, .inl f))] s.heap := hP
  have hl := lv_entry [.ref h0, .ref bo] (n := 2) (Nat.le_of_ble_eq_true rfl)
  rw [lg_entry_eq]
  generalize (lg_sl [.ref h0, .ref bo] ++ List.replicate (2 - (lg_sl [.ref h0, .ref bo]).length) Slot.unset).toArray = ls at hl ⊢
  have hl : lv_has ls 2 [(0, .ref h0), (1, .ref bo)] := hl
  have L_m1 : ((-1) : Int32).toInt = (-1) := by decide
  have L_0 : (0 : Int32).toInt = 0 := by decide
  have L_1 : (1 : Int32).toInt = 1 := by decide
  have L_3 : (3 : Int32).toInt = 3 := by decide
  have L_8 : (8 : Int32).toInt = 8 := by decide
  have L_46 : (46 : Int32).toInt = 46 := by decide
  have L_49 : (49 : Int32).toInt = 49 := by decide
  have L_59 : (59 : Int32).toInt = 59 := by decide
  refine lv_aload_n hx hb d_Node_addShortTo_0 rfl (lv_at hl 0 rfl) ?_
  refine lv_aload_n hx hb d_Node_addShortTo_1 rfl (lv_at hl 1 rfl) ?_
  refine lv_iconst (v := 0) hx hb d_Node_addShortTo_2 (by decide) ?_
  refine lv_bipush (v := 8) hx hb d_Node_addShortTo_3 (by decide) ?_
  have hPc := hP.sub (ws' := [(bo, .inr (1, [.ref bq, .int L])), (bq, .inl (cB, n, .inl f))]) [0, 1] rfl
  have hDc := hD.sub (ws' := [(bo, .inr (1, [.ref bq, .int L])), (bq, .inl (cB, n, .inl f))]) [0, 1] (by decide +kernel) rfl
  have hFc := va_free (wc := [(bo, .inr (1, [.ref bq, .int L])), (bq, .inl (cB, n, .inl f))]) hD hS hA [0, 1] rfl
  have hPR := RO_at hZr hS
  have hkc : 0 ≤ 0 := by decide
  have hks : 0 ≤ 0 := by decide
  refine va_callv (va_runV (C := "DiscMaker$Node") (As := [.ref bo, .int 0, .int 8]) (rest := []) ⟨hx, hb, hml, hown, hts⟩ (c3_addKeyTo l D cB cI cJ cZ cN cF s.heap.size h0 kna kke kta so nu pa ab mo ow gr si sd c2 bo bq n L f 0 8 (by (try dsimp only); first | assumption | omega | trivial) (by (try dsimp only); first | assumption | omega | trivial) (by (try dsimp only); first | assumption | omega | trivial)) (cwV 3 hts (lg_goodV k993 k995 k19 k118 kc_Node_addKeyTo) rfl rfl rfl (by decide +kernel) ⟨Nat.le_of_ble_eq_true rfl, Nat.le_of_ble_eq_true rfl⟩) ⟨fun a U g mk q => by obtain ⟨q0, q1, qP, qK, qN, qD, qZ0⟩ := q; exact ⟨q0, q1, qP, va_K.moved (u := U) (U := U.calling g mk a) (Vm.Alike.refl U.vm) qK, qN.calling, qD, RO_blind qZ0⟩, va_recv hK hPR (ci := 5) (q0 := 0) rfl rfl, fun U hU hW => ⟨rfl, by rw [hU], by rw [hU]; exact hPc, va_K.moved hW.alike hK, NN.warm hW hN, hDc.weaken (fun _ _ _ _ => trivial), (RO_app (w1 := [(h0, .inr (5, [.int so, .ref kna, .ref kke, .ref kta, .int nu, .int pa, .int ab, .int mo, .int ow, .int gr, .int si, .int sd]))]) (w2 := [(kke, .inl (cB, 11, .inl c2))]) (RO_pass (RO_one hZr 0 rfl) hS hFc hU) (RO_pass (RO_one hZr 1 rfl) hS hFc hU))⟩⟩ rfl rfl hl.1 rfl (lv_room (Nat.le_of_ble_eq_true rfl)) d_Node_addShortTo_5 ⟨hkc, hks⟩) hS (fun q _ h => hFc q h) hFc (fun u t H1 locs ht hvm hp_r1 hB hz1 hk1 hS => ?_)
  obtain ⟨L2_2, g_3⟩ := u
  obtain ⟨hP1, hD1⟩ := hB
  rw [ht] at hP1
  obtain ⟨hP, hD⟩ := va_join (wr := []) (w1 := [(bo, .inr (1, [.ref bq, .int L2_2])), (bq, .inl (cB, n, .inl g_3))]) hP hD [0, 1] [] rfl rfl (by decide +kernel) (by decide +kernel) hk1 hFc hP1 hD1
  clear hPc hDc hFc hP1 hD1 hk1 hz1 hkc hks
  generalize H1 = H at hP hS ⊢
  have hP : va_P D CL [(bo, .inr (1, [.ref bq, .int L2_2])), (bq, .inl (cB, n, .inl g_3))] H := hP
  have hD : va_D A [(bo, .inr (1, [.ref bq, .int L2_2])), (bq, .inl (cB, n, .inl g_3))] := hD
  try dsimp only at hp_r1
  have hL2_4 := hp_r1
  refine lv_aload_n hx hb d_Node_addShortTo_8 rfl (lv_at hl 0 rfl) ?_
  have hPR := RO_at hZr hS
  refine va_get (D := D) (ci := 5) (v := .int so) (C := "DiscMaker$Node") (T := F_Node) (N := 12) hx hb ht9 in_Node hown hK hPR 0 rfl rfl 0 (by decide) (ht9 _ k178) (fun _ h9 => h9) rfl d_Node_addShortTo_9 ?_
  refine lv_if_eq (tgt := 56) hx hb d_Node_addShortTo_12 (by decide) (fun h_9 => ?_) (fun h_9 => ?_)
  · skip
    have g12_8 : so.toInt = 0 := (i_eq rfl (by decide)).mp h_9
    have hP9 := hP.sub (ws' := [(bo, .inr (1, [.ref bq, .int L2_2])), (bq, .inl (cB, n, .inl g_3))]) [0, 1] rfl
    have hD9 := hD.sub (ws' := [(bo, .inr (1, [.ref bq, .int L2_2])), (bq, .inl (cB, n, .inl g_3))]) [0, 1] (by decide +kernel) rfl
    exact W.vret hx hb hr (fun t ht hW => ⟨⟨(L2_2, g_3), rfl, (by (try dsimp only); first | assumption | omega | trivial), by rw [ht]; exact hP9, hD9⟩, hS.F ht⟩) hS.2.2 d_Node_addShortTo_56
  · skip
    have g12_8 : ¬ so.toInt = 0 := fun h8 => h_9 ((i_eq rfl (by decide)).mpr h8)
    refine lv_aload_n hx hb d_Node_addShortTo_15 rfl (lv_at hl 1 rfl) ?_
    refine lv_aload_n hx hb d_Node_addShortTo_16 rfl (lv_at hl 1 rfl) ?_
    refine lv_iconst (v := 1) hx hb d_Node_addShortTo_17 (by decide) ?_
    have hPc := hP.sub (ws' := [(bo, .inr (1, [.ref bq, .int L2_2])), (bq, .inl (cB, n, .inl g_3))]) [0, 1] rfl
    have hDc := hD.sub (ws' := [(bo, .inr (1, [.ref bq, .int L2_2])), (bq, .inl (cB, n, .inl g_3))]) [0, 1] (by decide +kernel) rfl
    have hFc := va_free (wc := [(bo, .inr (1, [.ref bq, .int L2_2])), (bq, .inl (cB, n, .inl g_3))]) hD hS hA [0, 1] rfl
    have hkc : 0 ≤ 0 := by decide
    have hks : 0 ≤ 0 := by decide
    refine va_calli (va_runV (C := "DiscMaker$Bytes") (As := [.int 1]) (rest := [.ref bo]) ⟨hx, hb, hml, hown, hts⟩ (c3_extend l D cB cI cJ cZ cN cF H.size bo bq n L2_2 g_3 1 (by (try dsimp only); first | assumption | omega | trivial) (by (try dsimp only); first | assumption | omega | trivial) (by (try dsimp only); first | assumption | omega | trivial)) (cwV 1 hts (lg_goodV k983 k908 k909 k119 kc_Bytes_extend) rfl rfl rfl (by decide +kernel) ⟨Nat.le_of_ble_eq_true rfl, Nat.le_of_ble_eq_true rfl⟩) ⟨fun a U g mk q => by obtain ⟨q0, q1, qP, qK, qN, qD⟩ := q; exact ⟨q0, q1, qP, va_K.moved (u := U) (U := U.calling g mk a) (Vm.Alike.refl U.vm) qK, qN.calling, qD⟩, va_recv hK hP (ci := 1) (q0 := 0) rfl rfl, fun U hU hW => ⟨rfl, by rw [hU], by rw [hU]; exact hPc, va_K.moved hW.alike hK, NN.warm hW hN, hDc.weaken (fun _ _ _ _ => trivial)⟩⟩ rfl rfl hl.1 rfl (lv_room (Nat.le_of_ble_eq_true rfl)) d_Node_addShortTo_18 ⟨hkc, hks⟩) hS (fun q _ h => hFc q h) hFc (fun r5 u t H1 locs ht hvm hp_r5 hB hz1 hk1 hS => ?_)
    obtain ⟨L2_6, g_7⟩ := u
    obtain ⟨hP1, hD1⟩ := hB
    rw [ht] at hP1
    obtain ⟨hP, hD⟩ := va_join (wr := []) (w1 := [(bo, .inr (1, [.ref bq, .int L2_6])), (bq, .inl (cB, n, .inl g_7))]) hP hD [0, 1] [] rfl rfl (by decide +kernel) (by decide +kernel) hk1 hFc hP1 hD1
    clear hPc hDc hFc hP1 hD1 hk1 hz1 hkc hks
    generalize H1 = H at hP hS ⊢
    have hP : va_P D CL [(bo, .inr (1, [.ref bq, .int L2_6])), (bq, .inl (cB, n, .inl g_7))] H := hP
    have hD : va_D A [(bo, .inr (1, [.ref bq, .int L2_6])), (bq, .inl (cB, n, .inl g_7))] := hD
    try dsimp only at hp_r5
    obtain ⟨hv_8, hE_9⟩ := hp_r5
    try rw [L_1] at hE_9
    refine lv_bipush (v := 46) hx hb d_Node_addShortTo_21 (by decide) ?_
    have hPc := hP.sub (ws' := [(bo, .inr (1, [.ref bq, .int L2_6])), (bq, .inl (cB, n, .inl g_7))]) [0, 1] rfl
    have hDc := hD.sub (ws' := [(bo, .inr (1, [.ref bq, .int L2_6])), (bq, .inl (cB, n, .inl g_7))]) [0, 1] (by decide +kernel) rfl
    have hFc := va_free (wc := [(bo, .inr (1, [.ref bq, .int L2_6])), (bq, .inl (cB, n, .inl g_7))]) hD hS hA [0, 1] rfl
    have hkc : 0 ≤ 0 := by decide
    have hks : 0 ≤ 0 := by decide
    refine va_callv (va_runV (C := "DiscMaker$Bytes") (As := [.int r5, .int 46]) (rest := []) ⟨hx, hb, hml, hown, hts⟩ (c3_put l D cB cI cJ cZ cN cF H.size bo bq n L2_6 g_7 r5 46 (by (try dsimp only); first | assumption | omega | trivial) (by (try dsimp only); first | assumption | omega | trivial)) (cwV 2 hts (lg_goodV k997 k912 k913 k119 kc_Bytes_put) rfl rfl rfl (by decide +kernel) ⟨Nat.le_of_ble_eq_true rfl, Nat.le_of_ble_eq_true rfl⟩) ⟨fun a U g mk q => by obtain ⟨q0, q1, qP, qK, qN, qD⟩ := q; exact ⟨q0, q1, qP, va_K.moved (u := U) (U := U.calling g mk a) (Vm.Alike.refl U.vm) qK, qN.calling, qD⟩, va_recv hK hP (ci := 1) (q0 := 0) rfl rfl, fun U hU hW => ⟨rfl, by rw [hU], by rw [hU]; exact hPc, va_K.moved hW.alike hK, NN.warm hW hN, hDc.weaken (fun _ _ _ _ => trivial)⟩⟩ rfl rfl hl.1 rfl (lv_room (Nat.le_of_ble_eq_true rfl)) d_Node_addShortTo_23 ⟨hkc, hks⟩) hS (fun q _ h => hFc q h) hFc (fun u t H1 locs ht hvm hp_r10 hB hz1 hk1 hS => ?_)
    obtain ⟨g_11, rfl⟩ : ∃ z, z = u := ⟨_, rfl⟩
    obtain ⟨hP1, hD1⟩ := hB
    rw [ht] at hP1
    obtain ⟨hP, hD⟩ := va_join (wr := []) (w1 := [(bo, .inr (1, [.ref bq, .int L2_6])), (bq, .inl (cB, n, .inl g_11))]) hP hD [0, 1] [] rfl rfl (by decide +kernel) (by decide +kernel) hk1 hFc hP1 hD1
    clear hPc hDc hFc hP1 hD1 hk1 hz1 hkc hks
    generalize H1 = H at hP hS ⊢
    have hP : va_P D CL [(bo, .inr (1, [.ref bq, .int L2_6])), (bq, .inl (cB, n, .inl g_11))] H := hP
    have hD : va_D A [(bo, .inr (1, [.ref bq, .int L2_6])), (bq, .inl (cB, n, .inl g_11))] := hD
    refine lv_aload_n hx hb d_Node_addShortTo_26 rfl (lv_at hl 0 rfl) ?_
    refine lv_aload_n hx hb d_Node_addShortTo_27 rfl (lv_at hl 1 rfl) ?_
    refine lv_bipush (v := 8) hx hb d_Node_addShortTo_28 (by decide) ?_
    refine lv_iconst (v := 3) hx hb d_Node_addShortTo_30 (by decide) ?_
    have hPc := hP.sub (ws' := [(bo, .inr (1, [.ref bq, .int L2_6])), (bq, .inl (cB, n, .inl g_11))]) [0, 1] rfl
    have hDc := hD.sub (ws' := [(bo, .inr (1, [.ref bq, .int L2_6])), (bq, .inl (cB, n, .inl g_11))]) [0, 1] (by decide +kernel) rfl
    have hFc := va_free (wc := [(bo, .inr (1, [.ref bq, .int L2_6])), (bq, .inl (cB, n, .inl g_11))]) hD hS hA [0, 1] rfl
    have hPR := RO_at hZr hS
    have hkc : 0 ≤ 0 := by decide
    have hks : 0 ≤ 0 := by decide
    refine va_callv (va_runV (C := "DiscMaker$Node") (As := [.ref bo, .int 8, .int 3]) (rest := []) ⟨hx, hb, hml, hown, hts⟩ (c3_addKeyTo l D cB cI cJ cZ cN cF H.size h0 kna kke kta so nu pa ab mo ow gr si sd c2 bo bq n L2_6 g_11 8 3 (by (try dsimp only); first | assumption | omega | trivial) (by (try dsimp only); first | assumption | omega | trivial) (by (try dsimp only); first | assumption | omega | trivial)) (cwV 3 hts (lg_goodV k993 k995 k19 k118 kc_Node_addKeyTo) rfl rfl rfl (by decide +kernel) ⟨Nat.le_of_ble_eq_true rfl, Nat.le_of_ble_eq_true rfl⟩) ⟨fun a U g mk q => by obtain ⟨q0, q1, qP, qK, qN, qD, qZ0⟩ := q; exact ⟨q0, q1, qP, va_K.moved (u := U) (U := U.calling g mk a) (Vm.Alike.refl U.vm) qK, qN.calling, qD, RO_blind qZ0⟩, va_recv hK hPR (ci := 5) (q0 := 0) rfl rfl, fun U hU hW => ⟨rfl, by rw [hU], by rw [hU]; exact hPc, va_K.moved hW.alike hK, NN.warm hW hN, hDc.weaken (fun _ _ _ _ => trivial), (RO_app (w1 := [(h0, .inr (5, [.int so, .ref kna, .ref kke, .ref kta, .int nu, .int pa, .int ab, .int mo, .int ow, .int gr, .int si, .int sd]))]) (w2 := [(kke, .inl (cB, 11, .inl c2))]) (RO_pass (RO_one hZr 0 rfl) hS hFc hU) (RO_pass (RO_one hZr 1 rfl) hS hFc hU))⟩⟩ rfl rfl hl.1 rfl (lv_room (Nat.le_of_ble_eq_true rfl)) d_Node_addShortTo_31 ⟨hkc, hks⟩) hS (fun q _ h => hFc q h) hFc (fun u t H1 locs ht hvm hp_r12 hB hz1 hk1 hS => ?_)
    obtain ⟨L2_13, g_14⟩ := u
    obtain ⟨hP1, hD1⟩ := hB
    rw [ht] at hP1
    obtain ⟨hP, hD⟩ := va_join (wr := []) (w1 := [(bo, .inr (1, [.ref bq, .int L2_13])), (bq, .inl (cB, n, .inl g_14))]) hP hD [0, 1] [] rfl rfl (by decide +kernel) (by decide +kernel) hk1 hFc hP1 hD1
    clear hPc hDc hFc hP1 hD1 hk1 hz1 hkc hks
    generalize H1 = H at hP hS ⊢
    have hP : va_P D CL [(bo, .inr (1, [.ref bq, .int L2_13])), (bq, .inl (cB, n, .inl g_14))] H := hP
    have hD : va_D A [(bo, .inr (1, [.ref bq, .int L2_13])), (bq, .inl (cB, n, .inl g_14))] := hD
    try dsimp only at hp_r12
    have hL2_15 := hp_r12
    refine lv_aload_n hx hb d_Node_addShortTo_34 rfl (lv_at hl 1 rfl) ?_
    refine lv_aload_n hx hb d_Node_addShortTo_35 rfl (lv_at hl 1 rfl) ?_
    refine lv_iconst (v := 1) hx hb d_Node_addShortTo_36 (by decide) ?_
    have hPc := hP.sub (ws' := [(bo, .inr (1, [.ref bq, .int L2_13])), (bq, .inl (cB, n, .inl g_14))]) [0, 1] rfl
    have hDc := hD.sub (ws' := [(bo, .inr (1, [.ref bq, .int L2_13])), (bq, .inl (cB, n, .inl g_14))]) [0, 1] (by decide +kernel) rfl
    have hFc := va_free (wc := [(bo, .inr (1, [.ref bq, .int L2_13])), (bq, .inl (cB, n, .inl g_14))]) hD hS hA [0, 1] rfl
    have hkc : 0 ≤ 0 := by decide
    have hks : 0 ≤ 0 := by decide
    refine va_calli (va_runV (C := "DiscMaker$Bytes") (As := [.int 1]) (rest := [.ref bo]) ⟨hx, hb, hml, hown, hts⟩ (c3_extend l D cB cI cJ cZ cN cF H.size bo bq n L2_13 g_14 1 (by (try dsimp only); first | assumption | omega | trivial) (by (try dsimp only); first | assumption | omega | trivial) (by (try dsimp only); first | assumption | omega | trivial)) (cwV 1 hts (lg_goodV k983 k908 k909 k119 kc_Bytes_extend) rfl rfl rfl (by decide +kernel) ⟨Nat.le_of_ble_eq_true rfl, Nat.le_of_ble_eq_true rfl⟩) ⟨fun a U g mk q => by obtain ⟨q0, q1, qP, qK, qN, qD⟩ := q; exact ⟨q0, q1, qP, va_K.moved (u := U) (U := U.calling g mk a) (Vm.Alike.refl U.vm) qK, qN.calling, qD⟩, va_recv hK hP (ci := 1) (q0 := 0) rfl rfl, fun U hU hW => ⟨rfl, by rw [hU], by rw [hU]; exact hPc, va_K.moved hW.alike hK, NN.warm hW hN, hDc.weaken (fun _ _ _ _ => trivial)⟩⟩ rfl rfl hl.1 rfl (lv_room (Nat.le_of_ble_eq_true rfl)) d_Node_addShortTo_37 ⟨hkc, hks⟩) hS (fun q _ h => hFc q h) hFc (fun r16 u t H1 locs ht hvm hp_r16 hB hz1 hk1 hS => ?_)
    obtain ⟨L2_17, g_18⟩ := u
    obtain ⟨hP1, hD1⟩ := hB
    rw [ht] at hP1
    obtain ⟨hP, hD⟩ := va_join (wr := []) (w1 := [(bo, .inr (1, [.ref bq, .int L2_17])), (bq, .inl (cB, n, .inl g_18))]) hP hD [0, 1] [] rfl rfl (by decide +kernel) (by decide +kernel) hk1 hFc hP1 hD1
    clear hPc hDc hFc hP1 hD1 hk1 hz1 hkc hks
    generalize H1 = H at hP hS ⊢
    have hP : va_P D CL [(bo, .inr (1, [.ref bq, .int L2_17])), (bq, .inl (cB, n, .inl g_18))] H := hP
    have hD : va_D A [(bo, .inr (1, [.ref bq, .int L2_17])), (bq, .inl (cB, n, .inl g_18))] := hD
    try dsimp only at hp_r16
    obtain ⟨hv_19, hE_20⟩ := hp_r16
    try rw [L_1] at hE_20
    refine lv_bipush (v := 59) hx hb d_Node_addShortTo_40 (by decide) ?_
    have hPc := hP.sub (ws' := [(bo, .inr (1, [.ref bq, .int L2_17])), (bq, .inl (cB, n, .inl g_18))]) [0, 1] rfl
    have hDc := hD.sub (ws' := [(bo, .inr (1, [.ref bq, .int L2_17])), (bq, .inl (cB, n, .inl g_18))]) [0, 1] (by decide +kernel) rfl
    have hFc := va_free (wc := [(bo, .inr (1, [.ref bq, .int L2_17])), (bq, .inl (cB, n, .inl g_18))]) hD hS hA [0, 1] rfl
    have hkc : 0 ≤ 0 := by decide
    have hks : 0 ≤ 0 := by decide
    refine va_callv (va_runV (C := "DiscMaker$Bytes") (As := [.int r16, .int 59]) (rest := []) ⟨hx, hb, hml, hown, hts⟩ (c3_put l D cB cI cJ cZ cN cF H.size bo bq n L2_17 g_18 r16 59 (by (try dsimp only); first | assumption | omega | trivial) (by (try dsimp only); first | assumption | omega | trivial)) (cwV 2 hts (lg_goodV k997 k912 k913 k119 kc_Bytes_put) rfl rfl rfl (by decide +kernel) ⟨Nat.le_of_ble_eq_true rfl, Nat.le_of_ble_eq_true rfl⟩) ⟨fun a U g mk q => by obtain ⟨q0, q1, qP, qK, qN, qD⟩ := q; exact ⟨q0, q1, qP, va_K.moved (u := U) (U := U.calling g mk a) (Vm.Alike.refl U.vm) qK, qN.calling, qD⟩, va_recv hK hP (ci := 1) (q0 := 0) rfl rfl, fun U hU hW => ⟨rfl, by rw [hU], by rw [hU]; exact hPc, va_K.moved hW.alike hK, NN.warm hW hN, hDc.weaken (fun _ _ _ _ => trivial)⟩⟩ rfl rfl hl.1 rfl (lv_room (Nat.le_of_ble_eq_true rfl)) d_Node_addShortTo_42 ⟨hkc, hks⟩) hS (fun q _ h => hFc q h) hFc (fun u t H1 locs ht hvm hp_r21 hB hz1 hk1 hS => ?_)
    obtain ⟨g_22, rfl⟩ : ∃ z, z = u := ⟨_, rfl⟩
    obtain ⟨hP1, hD1⟩ := hB
    rw [ht] at hP1
    obtain ⟨hP, hD⟩ := va_join (wr := []) (w1 := [(bo, .inr (1, [.ref bq, .int L2_17])), (bq, .inl (cB, n, .inl g_22))]) hP hD [0, 1] [] rfl rfl (by decide +kernel) (by decide +kernel) hk1 hFc hP1 hD1
    clear hPc hDc hFc hP1 hD1 hk1 hz1 hkc hks
    generalize H1 = H at hP hS ⊢
    have hP : va_P D CL [(bo, .inr (1, [.ref bq, .int L2_17])), (bq, .inl (cB, n, .inl g_22))] H := hP
    have hD : va_D A [(bo, .inr (1, [.ref bq, .int L2_17])), (bq, .inl (cB, n, .inl g_22))] := hD
    refine lv_aload_n hx hb d_Node_addShortTo_45 rfl (lv_at hl 1 rfl) ?_
    refine lv_aload_n hx hb d_Node_addShortTo_46 rfl (lv_at hl 1 rfl) ?_
    refine lv_iconst (v := 1) hx hb d_Node_addShortTo_47 (by decide) ?_
    have hPc := hP.sub (ws' := [(bo, .inr (1, [.ref bq, .int L2_17])), (bq, .inl (cB, n, .inl g_22))]) [0, 1] rfl
    have hDc := hD.sub (ws' := [(bo, .inr (1, [.ref bq, .int L2_17])), (bq, .inl (cB, n, .inl g_22))]) [0, 1] (by decide +kernel) rfl
    have hFc := va_free (wc := [(bo, .inr (1, [.ref bq, .int L2_17])), (bq, .inl (cB, n, .inl g_22))]) hD hS hA [0, 1] rfl
    have hkc : 0 ≤ 0 := by decide
    have hks : 0 ≤ 0 := by decide
    refine va_calli (va_runV (C := "DiscMaker$Bytes") (As := [.int 1]) (rest := [.ref bo]) ⟨hx, hb, hml, hown, hts⟩ (c3_extend l D cB cI cJ cZ cN cF H.size bo bq n L2_17 g_22 1 (by (try dsimp only); first | assumption | omega | trivial) (by (try dsimp only); first | assumption | omega | trivial) (by (try dsimp only); first | assumption | omega | trivial)) (cwV 1 hts (lg_goodV k983 k908 k909 k119 kc_Bytes_extend) rfl rfl rfl (by decide +kernel) ⟨Nat.le_of_ble_eq_true rfl, Nat.le_of_ble_eq_true rfl⟩) ⟨fun a U g mk q => by obtain ⟨q0, q1, qP, qK, qN, qD⟩ := q; exact ⟨q0, q1, qP, va_K.moved (u := U) (U := U.calling g mk a) (Vm.Alike.refl U.vm) qK, qN.calling, qD⟩, va_recv hK hP (ci := 1) (q0 := 0) rfl rfl, fun U hU hW => ⟨rfl, by rw [hU], by rw [hU]; exact hPc, va_K.moved hW.alike hK, NN.warm hW hN, hDc.weaken (fun _ _ _ _ => trivial)⟩⟩ rfl rfl hl.1 rfl (lv_room (Nat.le_of_ble_eq_true rfl)) d_Node_addShortTo_48 ⟨hkc, hks⟩) hS (fun q _ h => hFc q h) hFc (fun r23 u t H1 locs ht hvm hp_r23 hB hz1 hk1 hS => ?_)
    obtain ⟨L2_24, g_25⟩ := u
    obtain ⟨hP1, hD1⟩ := hB
    rw [ht] at hP1
    obtain ⟨hP, hD⟩ := va_join (wr := []) (w1 := [(bo, .inr (1, [.ref bq, .int L2_24])), (bq, .inl (cB, n, .inl g_25))]) hP hD [0, 1] [] rfl rfl (by decide +kernel) (by decide +kernel) hk1 hFc hP1 hD1
    clear hPc hDc hFc hP1 hD1 hk1 hz1 hkc hks
    generalize H1 = H at hP hS ⊢
    have hP : va_P D CL [(bo, .inr (1, [.ref bq, .int L2_24])), (bq, .inl (cB, n, .inl g_25))] H := hP
    have hD : va_D A [(bo, .inr (1, [.ref bq, .int L2_24])), (bq, .inl (cB, n, .inl g_25))] := hD
    try dsimp only at hp_r23
    obtain ⟨hv_26, hE_27⟩ := hp_r23
    try rw [L_1] at hE_27
    refine lv_bipush (v := 49) hx hb d_Node_addShortTo_51 (by decide) ?_
    have hPc := hP.sub (ws' := [(bo, .inr (1, [.ref bq, .int L2_24])), (bq, .inl (cB, n, .inl g_25))]) [0, 1] rfl
    have hDc := hD.sub (ws' := [(bo, .inr (1, [.ref bq, .int L2_24])), (bq, .inl (cB, n, .inl g_25))]) [0, 1] (by decide +kernel) rfl
    have hFc := va_free (wc := [(bo, .inr (1, [.ref bq, .int L2_24])), (bq, .inl (cB, n, .inl g_25))]) hD hS hA [0, 1] rfl
    have hkc : 0 ≤ 0 := by decide
    have hks : 0 ≤ 0 := by decide
    refine va_callv (va_runV (C := "DiscMaker$Bytes") (As := [.int r23, .int 49]) (rest := []) ⟨hx, hb, hml, hown, hts⟩ (c3_put l D cB cI cJ cZ cN cF H.size bo bq n L2_24 g_25 r23 49 (by (try dsimp only); first | assumption | omega | trivial) (by (try dsimp only); first | assumption | omega | trivial)) (cwV 2 hts (lg_goodV k997 k912 k913 k119 kc_Bytes_put) rfl rfl rfl (by decide +kernel) ⟨Nat.le_of_ble_eq_true rfl, Nat.le_of_ble_eq_true rfl⟩) ⟨fun a U g mk q => by obtain ⟨q0, q1, qP, qK, qN, qD⟩ := q; exact ⟨q0, q1, qP, va_K.moved (u := U) (U := U.calling g mk a) (Vm.Alike.refl U.vm) qK, qN.calling, qD⟩, va_recv hK hP (ci := 1) (q0 := 0) rfl rfl, fun U hU hW => ⟨rfl, by rw [hU], by rw [hU]; exact hPc, va_K.moved hW.alike hK, NN.warm hW hN, hDc.weaken (fun _ _ _ _ => trivial)⟩⟩ rfl rfl hl.1 rfl (lv_room (Nat.le_of_ble_eq_true rfl)) d_Node_addShortTo_53 ⟨hkc, hks⟩) hS (fun q _ h => hFc q h) hFc (fun u t H1 locs ht hvm hp_r28 hB hz1 hk1 hS => ?_)
    obtain ⟨g_29, rfl⟩ : ∃ z, z = u := ⟨_, rfl⟩
    obtain ⟨hP1, hD1⟩ := hB
    rw [ht] at hP1
    obtain ⟨hP, hD⟩ := va_join (wr := []) (w1 := [(bo, .inr (1, [.ref bq, .int L2_24])), (bq, .inl (cB, n, .inl g_29))]) hP hD [0, 1] [] rfl rfl (by decide +kernel) (by decide +kernel) hk1 hFc hP1 hD1
    clear hPc hDc hFc hP1 hD1 hk1 hz1 hkc hks
    generalize H1 = H at hP hS ⊢
    have hP : va_P D CL [(bo, .inr (1, [.ref bq, .int L2_24])), (bq, .inl (cB, n, .inl g_29))] H := hP
    have hD : va_D A [(bo, .inr (1, [.ref bq, .int L2_24])), (bq, .inl (cB, n, .inl g_29))] := hD
    have hP9 := hP.sub (ws' := [(bo, .inr (1, [.ref bq, .int L2_24])), (bq, .inl (cB, n, .inl g_29))]) [0, 1] rfl
    have hD9 := hD.sub (ws' := [(bo, .inr (1, [.ref bq, .int L2_24])), (bq, .inl (cB, n, .inl g_29))]) [0, 1] (by decide +kernel) rfl
    exact W.vret hx hb hr (fun t ht hW => ⟨⟨(L2_24, g_29), rfl, (by (try dsimp only); first | assumption | omega | trivial), by rw [ht]; exact hP9, hD9⟩, hS.F ht⟩) hS.2.2 d_Node_addShortTo_56

theorem d_Node_addLongTo_0 : decode b_Node_addLongTo 0 = .ok (.iconst 0, 1) := by decide +kernel
theorem d_Node_addLongTo_1 : decode b_Node_addLongTo 1 = .ok (.istore_n 2, 1) := by decide +kernel
theorem d_Node_addLongTo_2 : decode b_Node_addLongTo 2 = .ok (.iload_n 2, 1) := by decide +kernel
theorem d_Node_addLongTo_3 : decode b_Node_addLongTo 3 = .ok (.aload_n 0, 1) := by decide +kernel
theorem d_Node_addLongTo_4 : decode b_Node_addLongTo 4 = .ok (.getfield 15, 3) := by decide +kernel
theorem d_Node_addLongTo_7 : decode b_Node_addLongTo 7 = .ok (.arraylength, 1) := by decide +kernel
theorem d_Node_addLongTo_8 : decode b_Node_addLongTo 8 = .ok (.if_icmp .ge 25, 3) := by decide +kernel
theorem d_Node_addLongTo_11 : decode b_Node_addLongTo 11 = .ok (.aload_n 1, 1) := by decide +kernel
theorem d_Node_addLongTo_12 : decode b_Node_addLongTo 12 = .ok (.aload_n 1, 1) := by decide +kernel
theorem d_Node_addLongTo_13 : decode b_Node_addLongTo 13 = .ok (.iconst 2, 1) := by decide +kernel
theorem d_Node_addLongTo_14 : decode b_Node_addLongTo 14 = .ok (.invokevirtual 65, 3) := by decide +kernel
theorem d_Node_addLongTo_17 : decode b_Node_addLongTo 17 = .ok (.aload_n 0, 1) := by decide +kernel
theorem d_Node_addLongTo_18 : decode b_Node_addLongTo 18 = .ok (.getfield 15, 3) := by decide +kernel
theorem d_Node_addLongTo_21 : decode b_Node_addLongTo 21 = .ok (.iload_n 2, 1) := by decide +kernel
theorem d_Node_addLongTo_22 : decode b_Node_addLongTo 22 = .ok (.baload, 1) := by decide +kernel
theorem d_Node_addLongTo_23 : decode b_Node_addLongTo 23 = .ok (.iconst 2, 1) := by decide +kernel
theorem d_Node_addLongTo_24 : decode b_Node_addLongTo 24 = .ok (.invokevirtual 75, 3) := by decide +kernel
theorem d_Node_addLongTo_27 : decode b_Node_addLongTo 27 = .ok (.iinc 2 1, 3) := by decide +kernel
theorem d_Node_addLongTo_30 : decode b_Node_addLongTo 30 = .ok (.goto (-28), 3) := by decide +kernel
theorem d_Node_addLongTo_33 : decode b_Node_addLongTo 33 = .ok (.return_, 1) := by decide +kernel
set_option maxHeartbeats 4000000 in
set_option maxRecDepth 100000 in
theorem c3_addLongTo (l : Launch) (D : va_G) (cB cI cJ cZ cN cF : ClassId) (sz : Nat) (h0 : Nat) (kna : Nat) (kke : Nat) (kta : Nat) (so : Int32) (nu : Int32) (pa : Int32) (ab : Int32) (mo : Int32) (ow : Int32) (gr : Int32) (si : Int32) (sd : Int32) (l1 : Nat) (c1 : Nat → Int32) (bo : Nat) (bq : Nat) (n : Nat) (L : Int32) (f : Nat → Int32) (hL : 0 ≤ L.toInt ∧ L.toInt ≤ n) (hn : n ≤ 3000000) (hl1 : l1 ≤ 400) : Met l y_Node_addLongTo w_Node_addLongTo ({ frames := 2, cells := 0, slots := 0, locals := 58 }) (va_Pc [.ref h0, .ref bo] (fun U => U.heap.size = sz ∧ va_P D CL [(bo, .inr (1, [.ref bq, .int L])), (bq, .inl (cB, n, .inl f))] U.heap ∧ va_K D CL (TY cB cI cJ cZ cN cF) U ∧ NN U ∧ va_D (fun _ => True) [(bo, .inr (1, [.ref bq, .int L])), (bq, .inl (cB, n, .inl f))] ∧ RO D [(h0, .inr (5, [.int so, .ref kna, .ref kke, .ref kta, .int nu, .int pa, .int ab, .int mo, .int ow, .int gr, .int si, .int sd])), (kna, .inl (cB, l1, .inl c1))] (va_A [(bo, .inr (1, [.ref bq, .int L])), (bq, .inl (cB, n, .inl f))] sz) U U.heap)) (va_Qv (fun (u : Int32 × (Nat → Int32)) => match u with | (L2, g) => (0 ≤ L2.toInt ∧ L2.toInt ≤ n)) (fun (u : Int32 × (Nat → Int32)) (t : State) => match u with | (L2, g) => va_P D CL [(bo, .inr (1, [.ref bq, .int L2])), (bq, .inl (cB, n, .inl g))] t.heap ∧ va_D (va_A [(bo, .inr (1, [.ref bq, .int L])), (bq, .inl (cB, n, .inl f))] sz) [(bo, .inr (1, [.ref bq, .int L2])), (bq, .inl (cB, n, .inl g))]) (va_A [(bo, .inr (1, [.ref bq, .int L])), (bq, .inl (cB, n, .inl f))] sz)) 0 0 (va_A [(bo, .inr (1, [.ref bq, .int L])), (bq, .inl (cB, n, .inl f))] sz) := by
  refine Met.ofW (cc := b_Node_addLongTo) (maxL := 3) (ret := none) (by decide +kernel) rfl ?_
  intro p e s m args below meth c s₁ B hml hv
  obtain ⟨rfl, hsz, hP, hK, hN, hD0, hZr⟩ := hv
  have hx := B.exec
  have hb := B.bytes
  have hr := B.returns
  have hts := atoms_spec (ws := w_Node_addLongTo) B.pre
  have ht9 := fun (w : Cond) (h : w ∈ lw_g) => hts w (List.mem_cons_of_mem _ h)
  have hown : s.vm.findClass "DiscMaker$Node" = some m.cls := findClass_of_methodNamed B.named
  have hlocks := B.notSynchronized
  subst hsz
  have hD := hD0.self (sz := s.heap.size)
  generalize hAe : va_A [(bo, .inr (1, [.ref bq, .int L])), (bq, .inl (cB, n, .inl f))] s.heap.size = A at hD hZr ⊢
  have hA : ∀ q : Nat, s.heap.size ≤ q → A q := fun q h => by rw [← hAe]; exact Or.inr h
  have hS : va_S A s.heap s.heap [] := va_S.rf
  have hP : va_P D CL [(bo, .inr (1, [.ref bq, .int L])), (bq, .inl (cB, n, .inl f))] s.heap := hP
  have hl := lv_entry [.ref h0, .ref bo] (n := 3) (Nat.le_of_ble_eq_true rfl)
  rw [lg_entry_eq]
  generalize (lg_sl [.ref h0, .ref bo] ++ List.replicate (3 - (lg_sl [.ref h0, .ref bo]).length) Slot.unset).toArray = ls at hl ⊢
  have hl : lv_has ls 3 [(0, .ref h0), (1, .ref bo)] := hl
  have L_m1 : ((-1) : Int32).toInt = (-1) := by decide
  have L_0 : (0 : Int32).toInt = 0 := by decide
  have L_1 : (1 : Int32).toInt = 1 := by decide
  have L_2 : (2 : Int32).toInt = 2 := by decide
  refine lv_iconst (v := 0) hx hb d_Node_addLongTo_0 (by decide) ?_
  refine lv_istore_n hx hb d_Node_addLongTo_1 rfl hl (by decide) rfl (fun ls hl => ?_)
  have hl : lv_has ls 3 [(2, .int 0), (0, .ref h0), (1, .ref bo)] := hl
  refine zz_labM (B := fun (lk : Nat) (K : Heap → List Loc → Array Slot → List Value → Prop) => ∀ (kx : Int32) (lL : Int32) (lf : Nat → Int32) (H : Heap) (locs : List Loc) (ls : Array Slot), lk = (l1 - kx.toInt).toNat → (0 ≤ kx.toInt ∧ kx.toInt ≤ l1) → (0 ≤ lL.toInt ∧ lL.toInt ≤ n) → va_P D CL [(bo, .inr (1, [.ref bq, .int lL])), (bq, .inl (cB, n, .inl lf))] H → va_D A [(bo, .inr (1, [.ref bq, .int lL])), (bq, .inl (cB, n, .inl lf))] → va_S A s.heap H locs → lv_has ls 3 [(0, .ref h0), (1, .ref bo), (2, .int kx)] → K H locs ls []) 2 ?_ ?_
  · skip
    intro lk ih2 kx lL lf H locs ls hm2 e1 e2 hP hD hS hl
    refine lv_iload_n hx hb d_Node_addLongTo_2 rfl (lv_at hl 2 rfl) ?_
    refine lv_aload_n hx hb d_Node_addLongTo_3 rfl (lv_at hl 0 rfl) ?_
    have hPR := RO_at hZr hS
    refine va_get (D := D) (ci := 5) (v := .ref kna) (C := "DiscMaker$Node") (T := F_Node) (N := 12) hx hb ht9 in_Node hown hK hPR 0 rfl rfl 1 (by decide) (ht9 _ k183) (fun _ h9 => h9) rfl d_Node_addLongTo_4 ?_
    have hPR := RO_at hZr hS
    refine va_alen (v := nI l1) hx hb hK hPR 1 0 rfl rfl rfl d_Node_addLongTo_7 ?_
    refine lv_topi (fun v1 e_v1 => ?_)
    have t_v1 : v1.toInt = l1 := by rw [e_v1]; exact nI_toInt (by omega)
    refine lv_icmp_ge (tgt := 33) hx hb d_Node_addLongTo_8 (by decide) (fun h_9 => ?_) (fun h_9 => ?_)
    · skip
      have g8_7 : v1.toInt ≤ kx.toInt := (i_le rfl rfl).mp h_9
      have hP9 := hP.sub (ws' := [(bo, .inr (1, [.ref bq, .int lL])), (bq, .inl (cB, n, .inl lf))]) [0, 1] rfl
      have hD9 := hD.sub (ws' := [(bo, .inr (1, [.ref bq, .int lL])), (bq, .inl (cB, n, .inl lf))]) [0, 1] (by decide +kernel) rfl
      exact W.vret hx hb hr (fun t ht hW => ⟨⟨(lL, lf), rfl, (by (try dsimp only); first | assumption | omega | trivial), by rw [ht]; exact hP9, hD9⟩, hS.F ht⟩) hS.2.2 d_Node_addLongTo_33
    · skip
      have g8_7 : ¬ v1.toInt ≤ kx.toInt := fun h8 => h_9 ((i_le rfl rfl).mpr h8)
      refine lv_aload_n hx hb d_Node_addLongTo_11 rfl (lv_at hl 1 rfl) ?_
      refine lv_aload_n hx hb d_Node_addLongTo_12 rfl (lv_at hl 1 rfl) ?_
      refine lv_iconst (v := 2) hx hb d_Node_addLongTo_13 (by decide) ?_
      have hPc := hP.sub (ws' := [(bo, .inr (1, [.ref bq, .int lL])), (bq, .inl (cB, n, .inl lf))]) [0, 1] rfl
      have hDc := hD.sub (ws' := [(bo, .inr (1, [.ref bq, .int lL])), (bq, .inl (cB, n, .inl lf))]) [0, 1] (by decide +kernel) rfl
      have hFc := va_free (wc := [(bo, .inr (1, [.ref bq, .int lL])), (bq, .inl (cB, n, .inl lf))]) hD hS hA [0, 1] rfl
      have hkc : 0 ≤ 0 := by decide
      have hks : 0 ≤ 0 := by decide
      refine va_calli (va_runV (C := "DiscMaker$Bytes") (As := [.int 2]) (rest := [.ref bo]) ⟨hx, hb, hml, hown, hts⟩ (c3_extend l D cB cI cJ cZ cN cF H.size bo bq n lL lf 2 (by (try dsimp only); first | assumption | omega | trivial) (by (try dsimp only); first | assumption | omega | trivial) (by (try dsimp only); first | assumption | omega | trivial)) (cwV 1 hts (lg_goodV k983 k908 k909 k119 kc_Bytes_extend) rfl rfl rfl (by decide +kernel) ⟨Nat.le_of_ble_eq_true rfl, Nat.le_of_ble_eq_true rfl⟩) ⟨fun a U g mk q => by obtain ⟨q0, q1, qP, qK, qN, qD⟩ := q; exact ⟨q0, q1, qP, va_K.moved (u := U) (U := U.calling g mk a) (Vm.Alike.refl U.vm) qK, qN.calling, qD⟩, va_recv hK hP (ci := 1) (q0 := 0) rfl rfl, fun U hU hW => ⟨rfl, by rw [hU], by rw [hU]; exact hPc, va_K.moved hW.alike hK, NN.warm hW hN, hDc.weaken (fun _ _ _ _ => trivial)⟩⟩ rfl rfl hl.1 rfl (lv_room (Nat.le_of_ble_eq_true rfl)) d_Node_addLongTo_14 ⟨hkc, hks⟩) hS (fun q _ h => hFc q h) hFc (fun r2 u t H1 locs ht hvm hp_r2 hB hz1 hk1 hS => ?_)
      obtain ⟨L2_3, g_4⟩ := u
      obtain ⟨hP1, hD1⟩ := hB
      rw [ht] at hP1
      obtain ⟨hP, hD⟩ := va_join (wr := []) (w1 := [(bo, .inr (1, [.ref bq, .int L2_3])), (bq, .inl (cB, n, .inl g_4))]) hP hD [0, 1] [] rfl rfl (by decide +kernel) (by decide +kernel) hk1 hFc hP1 hD1
      clear hPc hDc hFc hP1 hD1 hk1 hz1 hkc hks
      generalize H1 = H at hP hS ⊢
      have hP : va_P D CL [(bo, .inr (1, [.ref bq, .int L2_3])), (bq, .inl (cB, n, .inl g_4))] H := hP
      have hD : va_D A [(bo, .inr (1, [.ref bq, .int L2_3])), (bq, .inl (cB, n, .inl g_4))] := hD
      try dsimp only at hp_r2
      obtain ⟨hv_5, hE_6⟩ := hp_r2
      try rw [L_2] at hE_6
      refine lv_aload_n hx hb d_Node_addLongTo_17 rfl (lv_at hl 0 rfl) ?_
      have hPR := RO_at hZr hS
      refine va_get (D := D) (ci := 5) (v := .ref kna) (C := "DiscMaker$Node") (T := F_Node) (N := 12) hx hb ht9 in_Node hown hK hPR 0 rfl rfl 1 (by decide) (ht9 _ k183) (fun _ h9 => h9) rfl d_Node_addLongTo_18 ?_
      refine lv_iload_n hx hb d_Node_addLongTo_21 rfl (lv_at hl 2 rfl) ?_
      have hPR := RO_at hZr hS
      refine va_bald hx hb hK hPR 1 0 rfl rfl (vp_in_iff.mpr ⟨by omega, by omega⟩) d_Node_addLongTo_22 ?_
      refine lv_topi (fun v7 e_v7 => ?_)
      refine lv_iconst (v := 2) hx hb d_Node_addLongTo_23 (by decide) ?_
      have hPc := hP.sub (ws' := [(bo, .inr (1, [.ref bq, .int L2_3])), (bq, .inl (cB, n, .inl g_4))]) [0, 1] rfl
      have hDc := hD.sub (ws' := [(bo, .inr (1, [.ref bq, .int L2_3])), (bq, .inl (cB, n, .inl g_4))]) [0, 1] (by decide +kernel) rfl
      have hFc := va_free (wc := [(bo, .inr (1, [.ref bq, .int L2_3])), (bq, .inl (cB, n, .inl g_4))]) hD hS hA [0, 1] rfl
      have hkc : 0 ≤ 0 := by decide
      have hks : 0 ≤ 0 := by decide
      refine va_callv (va_runV (C := "DiscMaker$Bytes") (As := [.int r2, .int v7, .int 2]) (rest := []) ⟨hx, hb, hml, hown, hts⟩ (c3_putHigh l D cB cI cJ cZ cN cF H.size bo bq n L2_3 g_4 r2 v7 2 (by (try dsimp only); first | assumption | omega | trivial) (by (try dsimp only); first | assumption | omega | trivial) (by (try dsimp only); first | assumption | omega | trivial)) (cwV 3 hts (lg_goodV k984 k985 k986 k119 kc_Bytes_putHigh) rfl rfl rfl (by decide +kernel) ⟨Nat.le_of_ble_eq_true rfl, Nat.le_of_ble_eq_true rfl⟩) ⟨fun a U g mk q => by obtain ⟨q0, q1, qP, qK, qN, qD⟩ := q; exact ⟨q0, q1, qP, va_K.moved (u := U) (U := U.calling g mk a) (Vm.Alike.refl U.vm) qK, qN.calling, qD⟩, va_recv hK hP (ci := 1) (q0 := 0) rfl rfl, fun U hU hW => ⟨rfl, by rw [hU], by rw [hU]; exact hPc, va_K.moved hW.alike hK, NN.warm hW hN, hDc.weaken (fun _ _ _ _ => trivial)⟩⟩ rfl rfl hl.1 rfl (lv_room (Nat.le_of_ble_eq_true rfl)) d_Node_addLongTo_24 ⟨hkc, hks⟩) hS (fun q _ h => hFc q h) hFc (fun u t H1 locs ht hvm hp_r8 hB hz1 hk1 hS => ?_)
      obtain ⟨g_9, rfl⟩ : ∃ z, z = u := ⟨_, rfl⟩
      obtain ⟨hP1, hD1⟩ := hB
      rw [ht] at hP1
      obtain ⟨hP, hD⟩ := va_join (wr := []) (w1 := [(bo, .inr (1, [.ref bq, .int L2_3])), (bq, .inl (cB, n, .inl g_9))]) hP hD [0, 1] [] rfl rfl (by decide +kernel) (by decide +kernel) hk1 hFc hP1 hD1
      clear hPc hDc hFc hP1 hD1 hk1 hz1 hkc hks
      generalize H1 = H at hP hS ⊢
      have hP : va_P D CL [(bo, .inr (1, [.ref bq, .int L2_3])), (bq, .inl (cB, n, .inl g_9))] H := hP
      have hD : va_D A [(bo, .inr (1, [.ref bq, .int L2_3])), (bq, .inl (cB, n, .inl g_9))] := hD
      obtain ⟨v10, e_v10⟩ : ∃ z : Int32, z = kx + 1 := ⟨_, rfl⟩
      refine lv_iinc (v := v10) hx hb d_Node_addLongTo_27 hl (k := 2) rfl e_v10.symm (by decide +kernel) rfl (fun ls hl => ?_)
      have t_v10 : v10.toInt = kx.toInt + 1 := by rw [e_v10]; exact i_add rfl (by decide) (by omega) (by omega)
      have hl : lv_has ls 3 [(2, .int v10), (0, .ref h0), (1, .ref bo)] := hl
      refine lv_goto (tgt := 2) hx hb d_Node_addLongTo_30 (by decide) ?_
      have hP := hP.sub (ws' := [(bo, .inr (1, [.ref bq, .int L2_3])), (bq, .inl (cB, n, .inl g_9))]) [0, 1] rfl
      have hD := hD.sub (ws' := [(bo, .inr (1, [.ref bq, .int L2_3])), (bq, .inl (cB, n, .inl g_9))]) [0, 1] (by decide +kernel) rfl
      have hl := lv_sub hl [1, 2, 0] rfl
      exact ih2 _ (by first | omega | (dsimp only; omega)) v10 L2_3 g_9 _ _ _ rfl ((by (try dsimp only); first | assumption | omega | trivial)) ((by (try dsimp only); first | assumption | omega | trivial)) hP hD hS hl
  · skip
    intro kk2
    have hP := hP.sub (ws' := [(bo, .inr (1, [.ref bq, .int L])), (bq, .inl (cB, n, .inl f))]) [0, 1] rfl
    have hD := hD.sub (ws' := [(bo, .inr (1, [.ref bq, .int L])), (bq, .inl (cB, n, .inl f))]) [0, 1] (by decide +kernel) rfl
    have hl := lv_sub hl [1, 2, 0] rfl
    exact kk2 _ 0 L f _ _ _ rfl ((by (try dsimp only); first | assumption | omega | trivial)) ((by (try dsimp only); first | assumption | omega | trivial)) hP hD hS hl
