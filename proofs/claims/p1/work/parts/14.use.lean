theorem d_DiscMaker_sectorsFor_0 : decode b_DiscMaker_sectorsFor 0 = .ok (.iload_n 0, 1) := by decide +kernel
theorem d_DiscMaker_sectorsFor_1 : decode b_DiscMaker_sectorsFor 1 = .ok (.sipush 2048, 3) := by decide +kernel
theorem d_DiscMaker_sectorsFor_4 : decode b_DiscMaker_sectorsFor 4 = .ok (.iadd, 1) := by decide +kernel
theorem d_DiscMaker_sectorsFor_5 : decode b_DiscMaker_sectorsFor 5 = .ok (.iconst 1, 1) := by decide +kernel
theorem d_DiscMaker_sectorsFor_6 : decode b_DiscMaker_sectorsFor 6 = .ok (.isub, 1) := by decide +kernel
theorem d_DiscMaker_sectorsFor_7 : decode b_DiscMaker_sectorsFor 7 = .ok (.sipush 2048, 3) := by decide +kernel
theorem d_DiscMaker_sectorsFor_10 : decode b_DiscMaker_sectorsFor 10 = .ok (.idiv, 1) := by decide +kernel
theorem d_DiscMaker_sectorsFor_11 : decode b_DiscMaker_sectorsFor 11 = .ok (.ireturn, 1) := by decide +kernel
set_option maxHeartbeats 4000000 in
set_option maxRecDepth 100000 in
theorem c_sectorsFor (l : Launch) (D : va_G) (cB cI cJ cZ cN cF : ClassId) (sz : Nat) (x : Int32) : Met l y_DiscMaker_sectorsFor w_DiscMaker_sectorsFor ({ frames := 0, cells := 0, slots := 0, locals := 0 }) (va_Pc [.int x] (fun U => U.heap.size = sz ∧ va_P D CL [] U.heap ∧ va_K D CL (TY cB cI cJ cZ cN cF) U ∧ NN U ∧ va_D (fun _ => True) [])) (va_Qi (fun (r : Int32) (u : Unit) => r = (x + 2048 - 1) / 2048) (fun (u : Unit) (t : State) => match u with | () => va_P D CL [] t.heap ∧ va_D (va_A [] sz) []) (va_A [] sz)) 0 0 (va_A [] sz) := by
  refine Met.ofW (cc := b_DiscMaker_sectorsFor) (maxL := 1) (ret := some .int) (by decide) rfl ?_
  intro p e s m args below meth c s₁ B hml hv
  obtain ⟨rfl, hsz, hP, hK, hN, hD0⟩ := hv
  have hx := B.exec
  have hb := B.bytes
  have hr := B.returns
  have hts := atoms_spec (ws := w_DiscMaker_sectorsFor) B.pre
  have ht9 := fun (w : Cond) (h : w ∈ lw_g) => hts w (List.mem_cons_of_mem _ h)
  have hown : s.vm.findClass "DiscMaker" = some m.cls := findClass_of_methodNamed B.named
  have hlocks := B.notSynchronized
  subst hsz
  have hD := hD0.self (sz := s.heap.size)
  generalize hAe : va_A [] s.heap.size = A at hD ⊢
  have hA : ∀ q : Nat, s.heap.size ≤ q → A q := fun q h => by rw [← hAe]; exact Or.inr h
  have hS : va_S A s.heap s.heap [] := va_S.rf
  have hP : va_P D CL [] s.heap := hP
  have hl := lv_entry [.int x] (n := 1) (Nat.le_of_ble_eq_true rfl)
  rw [lg_entry_eq]
  generalize (lg_sl [.int x] ++ List.replicate (1 - (lg_sl [.int x]).length) Slot.unset).toArray = ls at hl ⊢
  have hl : lv_has ls 1 [(0, .int x)] := hl
  refine lv_iload_n hx hb d_DiscMaker_sectorsFor_0 rfl (lv_at hl 0 rfl) ?_
  refine lv_sipush (v := 2048) hx hb d_DiscMaker_sectorsFor_1 (by decide) ?_
  refine lv_iadd hx hb d_DiscMaker_sectorsFor_4 ?_
  refine lv_iconst (v := 1) hx hb d_DiscMaker_sectorsFor_5 (by decide) ?_
  refine lv_isub hx hb d_DiscMaker_sectorsFor_6 ?_
  refine lv_sipush (v := 2048) hx hb d_DiscMaker_sectorsFor_7 (by decide) ?_
  refine lv_idiv hx hb d_DiscMaker_sectorsFor_10 (by decide) ?_
  have hP9 := hP.sub (ws' := []) [] rfl
  have hD9 := hD.sub (ws' := []) [] (by decide) rfl
  exact W.iret (v := (((x + 2048) - 1) / 2048)) hx hb hr (fun t ht hW => ⟨⟨(((x + 2048) - 1) / 2048), (), rfl, rfl, by rw [ht]; exact hP9, hD9⟩, hS.F ht⟩) hS.2.2 d_DiscMaker_sectorsFor_11

theorem d_DiscMaker_even_0 : decode b_DiscMaker_even 0 = .ok (.iload_n 0, 1) := by decide +kernel
theorem d_DiscMaker_even_1 : decode b_DiscMaker_even 1 = .ok (.iload_n 0, 1) := by decide +kernel
theorem d_DiscMaker_even_2 : decode b_DiscMaker_even 2 = .ok (.iconst 1, 1) := by decide +kernel
theorem d_DiscMaker_even_3 : decode b_DiscMaker_even 3 = .ok (.iand, 1) := by decide +kernel
theorem d_DiscMaker_even_4 : decode b_DiscMaker_even 4 = .ok (.iadd, 1) := by decide +kernel
theorem d_DiscMaker_even_5 : decode b_DiscMaker_even 5 = .ok (.ireturn, 1) := by decide +kernel
set_option maxHeartbeats 4000000 in
set_option maxRecDepth 100000 in
theorem c_even (l : Launch) (D : va_G) (cB cI cJ cZ cN cF : ClassId) (sz : Nat) (x : Int32) : Met l y_DiscMaker_even w_DiscMaker_even ({ frames := 0, cells := 0, slots := 0, locals := 0 }) (va_Pc [.int x] (fun U => U.heap.size = sz ∧ va_P D CL [] U.heap ∧ va_K D CL (TY cB cI cJ cZ cN cF) U ∧ NN U ∧ va_D (fun _ => True) [])) (va_Qi (fun (r : Int32) (u : Unit) => r = x + (x &&& 1)) (fun (u : Unit) (t : State) => match u with | () => va_P D CL [] t.heap ∧ va_D (va_A [] sz) []) (va_A [] sz)) 0 0 (va_A [] sz) := by
  refine Met.ofW (cc := b_DiscMaker_even) (maxL := 1) (ret := some .int) (by decide) rfl ?_
  intro p e s m args below meth c s₁ B hml hv
  obtain ⟨rfl, hsz, hP, hK, hN, hD0⟩ := hv
  have hx := B.exec
  have hb := B.bytes
  have hr := B.returns
  have hts := atoms_spec (ws := w_DiscMaker_even) B.pre
  have ht9 := fun (w : Cond) (h : w ∈ lw_g) => hts w (List.mem_cons_of_mem _ h)
  have hown : s.vm.findClass "DiscMaker" = some m.cls := findClass_of_methodNamed B.named
  have hlocks := B.notSynchronized
  subst hsz
  have hD := hD0.self (sz := s.heap.size)
  generalize hAe : va_A [] s.heap.size = A at hD ⊢
  have hA : ∀ q : Nat, s.heap.size ≤ q → A q := fun q h => by rw [← hAe]; exact Or.inr h
  have hS : va_S A s.heap s.heap [] := va_S.rf
  have hP : va_P D CL [] s.heap := hP
  have hl := lv_entry [.int x] (n := 1) (Nat.le_of_ble_eq_true rfl)
  rw [lg_entry_eq]
  generalize (lg_sl [.int x] ++ List.replicate (1 - (lg_sl [.int x]).length) Slot.unset).toArray = ls at hl ⊢
  have hl : lv_has ls 1 [(0, .int x)] := hl
  refine lv_iload_n hx hb d_DiscMaker_even_0 rfl (lv_at hl 0 rfl) ?_
  refine lv_iload_n hx hb d_DiscMaker_even_1 rfl (lv_at hl 0 rfl) ?_
  refine lv_iconst (v := 1) hx hb d_DiscMaker_even_2 (by decide) ?_
  refine lv_iand hx hb d_DiscMaker_even_3 ?_
  refine lv_iadd hx hb d_DiscMaker_even_4 ?_
  have hP9 := hP.sub (ws' := []) [] rfl
  have hD9 := hD.sub (ws' := []) [] (by decide) rfl
  exact W.iret (v := (x + (x &&& 1))) hx hb hr (fun t ht hW => ⟨⟨(x + (x &&& 1)), (), rfl, rfl, by rw [ht]; exact hP9, hD9⟩, hS.F ht⟩) hS.2.2 d_DiscMaker_even_5

theorem d_Maker_withinOneSector_0 : decode b_Maker_withinOneSector 0 = .ok (.iload_n 0, 1) := by decide +kernel
theorem d_Maker_withinOneSector_1 : decode b_Maker_withinOneSector 1 = .ok (.sipush 2048, 3) := by decide +kernel
theorem d_Maker_withinOneSector_4 : decode b_Maker_withinOneSector 4 = .ok (.irem, 1) := by decide +kernel
theorem d_Maker_withinOneSector_5 : decode b_Maker_withinOneSector 5 = .ok (.iload_n 1, 1) := by decide +kernel
theorem d_Maker_withinOneSector_6 : decode b_Maker_withinOneSector 6 = .ok (.iadd, 1) := by decide +kernel
theorem d_Maker_withinOneSector_7 : decode b_Maker_withinOneSector 7 = .ok (.sipush 2048, 3) := by decide +kernel
theorem d_Maker_withinOneSector_10 : decode b_Maker_withinOneSector 10 = .ok (.if_icmp .le 14, 3) := by decide +kernel
theorem d_Maker_withinOneSector_24 : decode b_Maker_withinOneSector 24 = .ok (.iload_n 0, 1) := by decide +kernel
theorem d_Maker_withinOneSector_25 : decode b_Maker_withinOneSector 25 = .ok (.ireturn, 1) := by decide +kernel
set_option maxHeartbeats 4000000 in
set_option maxRecDepth 100000 in
theorem c_within (l : Launch) (D : va_G) (cB cI cJ cZ cN cF : ClassId) (sz : Nat) (x y : Int32) (h9 : x - x / 2048 * 2048 + y ≤ 2048) : Met l y_Maker_withinOneSector w_Maker_withinOneSector ({ frames := 0, cells := 0, slots := 0, locals := 0 }) (va_Pc [.int x, .int y] (fun U => U.heap.size = sz ∧ va_P D CL [] U.heap ∧ va_K D CL (TY cB cI cJ cZ cN cF) U ∧ NN U ∧ va_D (fun _ => True) [])) (va_Qi (fun (r : Int32) (u : Unit) => r = x) (fun (u : Unit) (t : State) => match u with | () => va_P D CL [] t.heap ∧ va_D (va_A [] sz) []) (va_A [] sz)) 0 0 (va_A [] sz) := by
  refine Met.ofW (cc := b_Maker_withinOneSector) (maxL := 2) (ret := some .int) (by decide) rfl ?_
  intro p e s m args below meth c s₁ B hml hv
  obtain ⟨rfl, hsz, hP, hK, hN, hD0⟩ := hv
  have hx := B.exec
  have hb := B.bytes
  have hr := B.returns
  have hts := atoms_spec (ws := w_Maker_withinOneSector) B.pre
  have ht9 := fun (w : Cond) (h : w ∈ lw_g) => hts w (List.mem_cons_of_mem _ h)
  have hown : s.vm.findClass "DiscMaker$Maker" = some m.cls := findClass_of_methodNamed B.named
  have hlocks := B.notSynchronized
  subst hsz
  have hD := hD0.self (sz := s.heap.size)
  generalize hAe : va_A [] s.heap.size = A at hD ⊢
  have hA : ∀ q : Nat, s.heap.size ≤ q → A q := fun q h => by rw [← hAe]; exact Or.inr h
  have hS : va_S A s.heap s.heap [] := va_S.rf
  have hP : va_P D CL [] s.heap := hP
  have hl := lv_entry [.int x, .int y] (n := 2) (Nat.le_of_ble_eq_true rfl)
  rw [lg_entry_eq]
  generalize (lg_sl [.int x, .int y] ++ List.replicate (2 - (lg_sl [.int x, .int y]).length) Slot.unset).toArray = ls at hl ⊢
  have hl : lv_has ls 2 [(0, .int x), (1, .int y)] := hl
  refine lv_iload_n hx hb d_Maker_withinOneSector_0 rfl (lv_at hl 0 rfl) ?_
  refine lv_sipush (v := 2048) hx hb d_Maker_withinOneSector_1 (by decide) ?_
  refine lv_irem hx hb d_Maker_withinOneSector_4 (by decide) ?_
  refine lv_iload_n hx hb d_Maker_withinOneSector_5 rfl (lv_at hl 1 rfl) ?_
  refine lv_iadd hx hb d_Maker_withinOneSector_6 ?_
  refine lv_sipush (v := 2048) hx hb d_Maker_withinOneSector_7 (by decide) ?_
  refine lv_icmp_le (tgt := 24) hx hb d_Maker_withinOneSector_10 (by decide) (fun h_10 => ?_) (fun h_10 => absurd (h9) h_10)
  refine lv_iload_n hx hb d_Maker_withinOneSector_24 rfl (lv_at hl 0 rfl) ?_
  have hP9 := hP.sub (ws' := []) [] rfl
  have hD9 := hD.sub (ws' := []) [] (by decide) rfl
  exact W.iret (v := x) hx hb hr (fun t ht hW => ⟨⟨x, (), rfl, rfl, by rw [ht]; exact hP9, hD9⟩, hS.F ht⟩) hS.2.2 d_Maker_withinOneSector_25

theorem d_SystemUse_modeBits_0 : decode b_SystemUse_modeBits 0 = .ok (.iload_n 0, 1) := by decide +kernel
theorem d_SystemUse_modeBits_1 : decode b_SystemUse_modeBits 1 = .ok (.ifCond .ne 9, 3) := by decide +kernel
theorem d_SystemUse_modeBits_4 : decode b_SystemUse_modeBits 4 = .ok (.sipush 16384, 3) := by decide +kernel
theorem d_SystemUse_modeBits_7 : decode b_SystemUse_modeBits 7 = .ok (.goto 15, 3) := by decide +kernel
theorem d_SystemUse_modeBits_22 : decode b_SystemUse_modeBits 22 = .ok (.ireturn, 1) := by decide +kernel
set_option maxHeartbeats 4000000 in
set_option maxRecDepth 100000 in
theorem c_modeBits0 (l : Launch) (D : va_G) (cB cI cJ cZ cN cF : ClassId) (sz : Nat)  : Met l y_SystemUse_modeBits w_SystemUse_modeBits ({ frames := 0, cells := 0, slots := 0, locals := 0 }) (va_Pc [.int 0] (fun U => U.heap.size = sz ∧ va_P D CL [] U.heap ∧ va_K D CL (TY cB cI cJ cZ cN cF) U ∧ NN U ∧ va_D (fun _ => True) [])) (va_Qi (fun (r : Int32) (u : Unit) => r = 16384) (fun (u : Unit) (t : State) => match u with | () => va_P D CL [] t.heap ∧ va_D (va_A [] sz) []) (va_A [] sz)) 0 0 (va_A [] sz) := by
  refine Met.ofW (cc := b_SystemUse_modeBits) (maxL := 1) (ret := some .int) (by decide) rfl ?_
  intro p e s m args below meth c s₁ B hml hv
  obtain ⟨rfl, hsz, hP, hK, hN, hD0⟩ := hv
  have hx := B.exec
  have hb := B.bytes
  have hr := B.returns
  have hts := atoms_spec (ws := w_SystemUse_modeBits) B.pre
  have ht9 := fun (w : Cond) (h : w ∈ lw_g) => hts w (List.mem_cons_of_mem _ h)
  have hown : s.vm.findClass "DiscMaker$SystemUse" = some m.cls := findClass_of_methodNamed B.named
  have hlocks := B.notSynchronized
  subst hsz
  have hD := hD0.self (sz := s.heap.size)
  generalize hAe : va_A [] s.heap.size = A at hD ⊢
  have hA : ∀ q : Nat, s.heap.size ≤ q → A q := fun q h => by rw [← hAe]; exact Or.inr h
  have hS : va_S A s.heap s.heap [] := va_S.rf
  have hP : va_P D CL [] s.heap := hP
  have hl := lv_entry [.int 0] (n := 1) (Nat.le_of_ble_eq_true rfl)
  rw [lg_entry_eq]
  generalize (lg_sl [.int 0] ++ List.replicate (1 - (lg_sl [.int 0]).length) Slot.unset).toArray = ls at hl ⊢
  have hl : lv_has ls 1 [(0, .int 0)] := hl
  refine lv_iload_n hx hb d_SystemUse_modeBits_0 rfl (lv_at hl 0 rfl) ?_
  refine lv_if_ne (tgt := 10) hx hb d_SystemUse_modeBits_1 (by decide) (fun h_1 => absurd (by decide) h_1) (fun h_1 => ?_)
  refine lv_sipush (v := 16384) hx hb d_SystemUse_modeBits_4 (by decide) ?_
  refine lv_goto (tgt := 22) hx hb d_SystemUse_modeBits_7 (by decide) ?_
  have hP9 := hP.sub (ws' := []) [] rfl
  have hD9 := hD.sub (ws' := []) [] (by decide) rfl
  exact W.iret (v := 16384) hx hb hr (fun t ht hW => ⟨⟨16384, (), rfl, rfl, by rw [ht]; exact hP9, hD9⟩, hS.F ht⟩) hS.2.2 d_SystemUse_modeBits_22

theorem d_Tree_directoriesIn_0 : decode b_Tree_directoriesIn 0 = .ok (.iconst 0, 1) := by decide +kernel
theorem d_Tree_directoriesIn_1 : decode b_Tree_directoriesIn 1 = .ok (.istore_n 2, 1) := by decide +kernel
theorem d_Tree_directoriesIn_2 : decode b_Tree_directoriesIn 2 = .ok (.iconst 1, 1) := by decide +kernel
theorem d_Tree_directoriesIn_3 : decode b_Tree_directoriesIn 3 = .ok (.istore_n 3, 1) := by decide +kernel
theorem d_Tree_directoriesIn_4 : decode b_Tree_directoriesIn 4 = .ok (.iload_n 3, 1) := by decide +kernel
theorem d_Tree_directoriesIn_5 : decode b_Tree_directoriesIn 5 = .ok (.aload_n 0, 1) := by decide +kernel
theorem d_Tree_directoriesIn_6 : decode b_Tree_directoriesIn 6 = .ok (.getfield 20, 3) := by decide +kernel
theorem d_Tree_directoriesIn_9 : decode b_Tree_directoriesIn 9 = .ok (.if_icmp .ge 37, 3) := by decide +kernel
theorem d_Tree_directoriesIn_46 : decode b_Tree_directoriesIn 46 = .ok (.iload_n 2, 1) := by decide +kernel
theorem d_Tree_directoriesIn_47 : decode b_Tree_directoriesIn 47 = .ok (.ireturn, 1) := by decide +kernel
set_option maxHeartbeats 4000000 in
set_option maxRecDepth 100000 in
theorem c_directoriesIn (l : Launch) (D : va_G) (cB cI cJ cZ cN cF : ClassId) (sz : Nat) (tr qa : Nat) (v : Int32) : Met l y_Tree_directoriesIn w_Tree_directoriesIn ({ frames := 0, cells := 0, slots := 0, locals := 0 }) (va_Pc [.ref tr, .int v] (fun U => U.heap.size = sz ∧ va_P D CL [(tr, .inr (10, [.ref qa, .int 1, .int 1]))] U.heap ∧ va_K D CL (TY cB cI cJ cZ cN cF) U ∧ NN U ∧ va_D (fun _ => True) [(tr, .inr (10, [.ref qa, .int 1, .int 1]))])) (va_Qi (fun (r : Int32) (u : Unit) => r = 0) (fun (u : Unit) (t : State) => match u with | () => va_P D CL [(tr, .inr (10, [.ref qa, .int 1, .int 1]))] t.heap ∧ va_D (va_A [(tr, .inr (10, [.ref qa, .int 1, .int 1]))] sz) [(tr, .inr (10, [.ref qa, .int 1, .int 1]))]) (va_A [(tr, .inr (10, [.ref qa, .int 1, .int 1]))] sz)) 0 0 (va_A [(tr, .inr (10, [.ref qa, .int 1, .int 1]))] sz) := by
  refine Met.ofW (cc := b_Tree_directoriesIn) (maxL := 4) (ret := some .int) (by decide) rfl ?_
  intro p e s m args below meth c s₁ B hml hv
  obtain ⟨rfl, hsz, hP, hK, hN, hD0⟩ := hv
  have hx := B.exec
  have hb := B.bytes
  have hr := B.returns
  have hts := atoms_spec (ws := w_Tree_directoriesIn) B.pre
  have ht9 := fun (w : Cond) (h : w ∈ lw_g) => hts w (List.mem_cons_of_mem _ h)
  have hown : s.vm.findClass "DiscMaker$Tree" = some m.cls := findClass_of_methodNamed B.named
  have hlocks := B.notSynchronized
  subst hsz
  have hD := hD0.self (sz := s.heap.size)
  generalize hAe : va_A [(tr, .inr (10, [.ref qa, .int 1, .int 1]))] s.heap.size = A at hD ⊢
  have hA : ∀ q : Nat, s.heap.size ≤ q → A q := fun q h => by rw [← hAe]; exact Or.inr h
  have hS : va_S A s.heap s.heap [] := va_S.rf
  have hP : va_P D CL [(tr, .inr (10, [.ref qa, .int 1, .int 1]))] s.heap := hP
  have hl := lv_entry [.ref tr, .int v] (n := 4) (Nat.le_of_ble_eq_true rfl)
  rw [lg_entry_eq]
  generalize (lg_sl [.ref tr, .int v] ++ List.replicate (4 - (lg_sl [.ref tr, .int v]).length) Slot.unset).toArray = ls at hl ⊢
  have hl : lv_has ls 4 [(0, .ref tr), (1, .int v)] := hl
  refine lv_iconst (v := 0) hx hb d_Tree_directoriesIn_0 (by decide) ?_
  refine lv_istore_n hx hb d_Tree_directoriesIn_1 rfl hl (by decide) rfl (fun ls hl => ?_)
  have hl : lv_has ls 4 [(2, .int 0), (0, .ref tr), (1, .int v)] := hl
  refine lv_iconst (v := 1) hx hb d_Tree_directoriesIn_2 (by decide) ?_
  refine lv_istore_n hx hb d_Tree_directoriesIn_3 rfl hl (by decide) rfl (fun ls hl => ?_)
  have hl : lv_has ls 4 [(3, .int 1), (2, .int 0), (0, .ref tr), (1, .int v)] := hl
  refine lv_iload_n hx hb d_Tree_directoriesIn_4 rfl (lv_at hl 0 rfl) ?_
  refine lv_aload_n hx hb d_Tree_directoriesIn_5 rfl (lv_at hl 2 rfl) ?_
  refine va_get (D := D) (ci := 10) (v := .int 1) (C := "DiscMaker$Tree") (T := F_Tree) (N := 3) hx hb ht9 in_Tree hown hK hP 0 rfl rfl 1 (by decide) (ht9 _ k239) (fun _ h9 => h9) rfl d_Tree_directoriesIn_6 ?_
  refine lv_icmp_ge (tgt := 46) hx hb d_Tree_directoriesIn_9 (by decide) (fun h_9 => ?_) (fun h_9 => absurd (by decide) h_9)
  refine lv_iload_n hx hb d_Tree_directoriesIn_46 rfl (lv_at hl 1 rfl) ?_
  have hP9 := hP.sub (ws' := [(tr, .inr (10, [.ref qa, .int 1, .int 1]))]) [0] rfl
  have hD9 := hD.sub (ws' := [(tr, .inr (10, [.ref qa, .int 1, .int 1]))]) [0] (by decide) rfl
  exact W.iret (v := 0) hx hb hr (fun t ht hW => ⟨⟨0, (), rfl, rfl, by rw [ht]; exact hP9, hD9⟩, hS.F ht⟩) hS.2.2 d_Tree_directoriesIn_47

theorem d_SystemUse_clear_0 : decode b_SystemUse_clear 0 = .ok (.aload_n 0, 1) := by decide +kernel
theorem d_SystemUse_clear_1 : decode b_SystemUse_clear 1 = .ok (.getfield 16, 3) := by decide +kernel
theorem d_SystemUse_clear_4 : decode b_SystemUse_clear 4 = .ok (.iconst 0, 1) := by decide +kernel
theorem d_SystemUse_clear_5 : decode b_SystemUse_clear 5 = .ok (.invokevirtual 24, 3) := by decide +kernel
theorem d_SystemUse_clear_8 : decode b_SystemUse_clear 8 = .ok (.aload_n 0, 1) := by decide +kernel
theorem d_SystemUse_clear_9 : decode b_SystemUse_clear 9 = .ok (.iconst 0, 1) := by decide +kernel
theorem d_SystemUse_clear_10 : decode b_SystemUse_clear 10 = .ok (.putfield 27, 3) := by decide +kernel
theorem d_SystemUse_clear_13 : decode b_SystemUse_clear 13 = .ok (.aload_n 0, 1) := by decide +kernel
theorem d_SystemUse_clear_14 : decode b_SystemUse_clear 14 = .ok (.iconst 0, 1) := by decide +kernel
theorem d_SystemUse_clear_15 : decode b_SystemUse_clear 15 = .ok (.putfield 31, 3) := by decide +kernel
theorem d_SystemUse_clear_18 : decode b_SystemUse_clear 18 = .ok (.return_, 1) := by decide +kernel
set_option maxHeartbeats 4000000 in
set_option maxRecDepth 100000 in
theorem c_clear (l : Launch) (D : va_G) (cB cI cJ cZ cN cF : ClassId) (sz : Nat) (z zb zr ze : Nat) (fz fe : Nat → Int32) (kx1 kx2 L1 : Int32) : Met l y_SystemUse_clear w_SystemUse_clear ({ frames := 1, cells := 0, slots := 0, locals := 21 }) (va_Pc [.ref z] (fun U => U.heap.size = sz ∧ va_P D CL [(z, .inr (8, [.ref zb, .ref ze, .int kx1, .int kx2])), (zb, .inr (1, [.ref zr, .int L1])), (zr, .inl (cB, 400, .inl fz)), (ze, .inl (cI, 4, .inl fe))] U.heap ∧ va_K D CL (TY cB cI cJ cZ cN cF) U ∧ NN U ∧ va_D (fun _ => True) [(z, .inr (8, [.ref zb, .ref ze, .int kx1, .int kx2])), (zb, .inr (1, [.ref zr, .int L1])), (zr, .inl (cB, 400, .inl fz)), (ze, .inl (cI, 4, .inl fe))])) (va_Qv (fun (u : Unit) => True) (fun (u : Unit) (t : State) => match u with | () => va_P D CL [(z, .inr (8, [.ref zb, .ref ze, .int 0, .int 0])), (zb, .inr (1, [.ref zr, .int 0])), (zr, .inl (cB, 400, .inl fz)), (ze, .inl (cI, 4, .inl fe))] t.heap ∧ va_D (va_A [(z, .inr (8, [.ref zb, .ref ze, .int kx1, .int kx2])), (zb, .inr (1, [.ref zr, .int L1])), (zr, .inl (cB, 400, .inl fz)), (ze, .inl (cI, 4, .inl fe))] sz) [(z, .inr (8, [.ref zb, .ref ze, .int 0, .int 0])), (zb, .inr (1, [.ref zr, .int 0])), (zr, .inl (cB, 400, .inl fz)), (ze, .inl (cI, 4, .inl fe))]) (va_A [(z, .inr (8, [.ref zb, .ref ze, .int kx1, .int kx2])), (zb, .inr (1, [.ref zr, .int L1])), (zr, .inl (cB, 400, .inl fz)), (ze, .inl (cI, 4, .inl fe))] sz)) 0 0 (va_A [(z, .inr (8, [.ref zb, .ref ze, .int kx1, .int kx2])), (zb, .inr (1, [.ref zr, .int L1])), (zr, .inl (cB, 400, .inl fz)), (ze, .inl (cI, 4, .inl fe))] sz) := by
  refine Met.ofW (cc := b_SystemUse_clear) (maxL := 1) (ret := none) (by decide) rfl ?_
  intro p e s m args below meth c s₁ B hml hv
  obtain ⟨rfl, hsz, hP, hK, hN, hD0⟩ := hv
  have hx := B.exec
  have hb := B.bytes
  have hr := B.returns
  have hts := atoms_spec (ws := w_SystemUse_clear) B.pre
  have ht9 := fun (w : Cond) (h : w ∈ lw_g) => hts w (List.mem_cons_of_mem _ h)
  have hown : s.vm.findClass "DiscMaker$SystemUse" = some m.cls := findClass_of_methodNamed B.named
  have hlocks := B.notSynchronized
  subst hsz
  have hD := hD0.self (sz := s.heap.size)
  generalize hAe : va_A [(z, .inr (8, [.ref zb, .ref ze, .int kx1, .int kx2])), (zb, .inr (1, [.ref zr, .int L1])), (zr, .inl (cB, 400, .inl fz)), (ze, .inl (cI, 4, .inl fe))] s.heap.size = A at hD ⊢
  have hA : ∀ q : Nat, s.heap.size ≤ q → A q := fun q h => by rw [← hAe]; exact Or.inr h
  have hS : va_S A s.heap s.heap [] := va_S.rf
  have hP : va_P D CL [(z, .inr (8, [.ref zb, .ref ze, .int kx1, .int kx2])), (zb, .inr (1, [.ref zr, .int L1])), (zr, .inl (cB, 400, .inl fz)), (ze, .inl (cI, 4, .inl fe))] s.heap := hP
  have hl := lv_entry [.ref z] (n := 1) (Nat.le_of_ble_eq_true rfl)
  rw [lg_entry_eq]
  generalize (lg_sl [.ref z] ++ List.replicate (1 - (lg_sl [.ref z]).length) Slot.unset).toArray = ls at hl ⊢
  have hl : lv_has ls 1 [(0, .ref z)] := hl
  refine lv_aload_n hx hb d_SystemUse_clear_0 rfl (lv_at hl 0 rfl) ?_
  refine va_get (D := D) (ci := 8) (v := .ref zb) (C := "DiscMaker$SystemUse") (T := F_SystemUse) (N := 4) hx hb ht9 in_SystemUse hown hK hP 0 rfl rfl 0 (by decide) (ht9 _ k330) (fun _ h9 => h9) rfl d_SystemUse_clear_1 ?_
  refine lv_iconst (v := 0) hx hb d_SystemUse_clear_4 (by decide) ?_
  have hPc := hP.sub (ws' := [(zb, .inr (1, [.ref zr, .int L1]))]) [1] rfl
  have hDc := hD.sub (ws' := [(zb, .inr (1, [.ref zr, .int L1]))]) [1] (by decide) rfl
  have hFc := va_free (wc := [(zb, .inr (1, [.ref zr, .int L1]))]) hD hS hA [1] rfl
  have hkc : 0 ≤ 0 := by decide
  have hks : 0 ≤ 0 := by decide
  refine va_callv (va_runV (C := "DiscMaker$Bytes") (As := [.int 0]) (rest := []) ⟨hx, hb, hml, hown, hts⟩ (c_Bytes_shorten l D cB cI cJ cZ cN cF s.heap.size zb zr L1 0) (cwV 1 hts (lg_goodV k895 k896 k897 k119 kc_Bytes_shorten) rfl rfl rfl (by decide +kernel) ⟨Nat.le_of_ble_eq_true rfl, Nat.le_of_ble_eq_true rfl⟩) ⟨fun a U g mk q => by obtain ⟨q0, q1, qP, qK, qN, qD⟩ := q; exact ⟨q0, q1, qP, va_K.moved (u := U) (U := U.calling g mk a) (Vm.Alike.refl U.vm) qK, qN.calling, qD⟩, va_recv hK hP (ci := 1) (q0 := 1) rfl rfl, fun U hU hW => ⟨rfl, by rw [hU], by rw [hU]; exact hPc, va_K.moved hW.alike hK, NN.warm hW hN, hDc.weaken (fun _ _ _ _ => trivial)⟩⟩ rfl rfl hl.1 rfl (lv_room (Nat.le_of_ble_eq_true rfl)) d_SystemUse_clear_5 ⟨hkc, hks⟩) hS (fun q _ h => hFc q h) hFc (fun u t H1 locs ht hvm hp_5 hB hz1 hk1 hS => ?_)
  obtain ⟨hP1, hD1⟩ := hB
  rw [ht] at hP1
  obtain ⟨hP, hD⟩ := va_join (wr := [(z, .inr (8, [.ref zb, .ref ze, .int kx1, .int kx2])), (zr, .inl (cB, 400, .inl fz)), (ze, .inl (cI, 4, .inl fe))]) (w1 := [(zb, .inr (1, [.ref zr, .int 0]))]) hP hD [1] [0, 2, 3] rfl rfl (by decide) (by decide) hk1 hFc hP1 hD1
  clear hPc hDc hFc hP1 hD1 hk1 hz1
  generalize H1 = H at hP hS ⊢
  have hP : va_P D CL [(z, .inr (8, [.ref zb, .ref ze, .int kx1, .int kx2])), (zr, .inl (cB, 400, .inl fz)), (ze, .inl (cI, 4, .inl fe)), (zb, .inr (1, [.ref zr, .int 0]))] H := hP
  have hD : va_D A [(z, .inr (8, [.ref zb, .ref ze, .int kx1, .int kx2])), (zr, .inl (cB, 400, .inl fz)), (ze, .inl (cI, 4, .inl fe)), (zb, .inr (1, [.ref zr, .int 0]))] := hD
  refine lv_aload_n hx hb d_SystemUse_clear_8 rfl (lv_at hl 0 rfl) ?_
  refine lv_iconst (v := 0) hx hb d_SystemUse_clear_9 (by decide) ?_
  refine va_put (D := D) (ci := 8) (v := .int 0) (ty := .int) (C := "DiscMaker$SystemUse") (T := F_SystemUse) (N := 4) hx hb ht9 in_SystemUse t_SystemUse t_SystemUse_ok n_SystemUse hown hK hP hD hS 0 rfl rfl 2 (by decide) (ht9 _ k333) (fun _ h9 => h9) rfl (by decide +kernel) rfl rfl (Nat.le_of_ble_eq_true rfl) d_SystemUse_clear_10 (fun H locs hP hD hS => ?_)
  have hP : va_P D CL [(z, .inr (8, [.ref zb, .ref ze, .int 0, .int kx2])), (zr, .inl (cB, 400, .inl fz)), (ze, .inl (cI, 4, .inl fe)), (zb, .inr (1, [.ref zr, .int 0]))] H := hP
  have hD : va_D A [(z, .inr (8, [.ref zb, .ref ze, .int 0, .int kx2])), (zr, .inl (cB, 400, .inl fz)), (ze, .inl (cI, 4, .inl fe)), (zb, .inr (1, [.ref zr, .int 0]))] := hD
  refine lv_aload_n hx hb d_SystemUse_clear_13 rfl (lv_at hl 0 rfl) ?_
  refine lv_iconst (v := 0) hx hb d_SystemUse_clear_14 (by decide) ?_
  refine va_put (D := D) (ci := 8) (v := .int 0) (ty := .int) (C := "DiscMaker$SystemUse") (T := F_SystemUse) (N := 4) hx hb ht9 in_SystemUse t_SystemUse t_SystemUse_ok n_SystemUse hown hK hP hD hS 0 rfl rfl 3 (by decide) (ht9 _ k334) (fun _ h9 => h9) rfl (by decide +kernel) rfl rfl (Nat.le_of_ble_eq_true rfl) d_SystemUse_clear_15 (fun H locs hP hD hS => ?_)
  have hP : va_P D CL [(z, .inr (8, [.ref zb, .ref ze, .int 0, .int 0])), (zr, .inl (cB, 400, .inl fz)), (ze, .inl (cI, 4, .inl fe)), (zb, .inr (1, [.ref zr, .int 0]))] H := hP
  have hD : va_D A [(z, .inr (8, [.ref zb, .ref ze, .int 0, .int 0])), (zr, .inl (cB, 400, .inl fz)), (ze, .inl (cI, 4, .inl fe)), (zb, .inr (1, [.ref zr, .int 0]))] := hD
  have hP9 := hP.sub (ws' := [(z, .inr (8, [.ref zb, .ref ze, .int 0, .int 0])), (zb, .inr (1, [.ref zr, .int 0])), (zr, .inl (cB, 400, .inl fz)), (ze, .inl (cI, 4, .inl fe))]) [0, 3, 1, 2] rfl
  have hD9 := hD.sub (ws' := [(z, .inr (8, [.ref zb, .ref ze, .int 0, .int 0])), (zb, .inr (1, [.ref zr, .int 0])), (zr, .inl (cB, 400, .inl fz)), (ze, .inl (cI, 4, .inl fe))]) [0, 3, 1, 2] (by decide) rfl
  exact W.vret hx hb hr (fun t ht hW => ⟨⟨(), rfl, trivial, by rw [ht]; exact hP9, hD9⟩, hS.F ht⟩) hS.2.2 d_SystemUse_clear_18

theorem d_SystemUse_open_0 : decode b_SystemUse_open 0 = .ok (.aload_n 0, 1) := by decide +kernel
theorem d_SystemUse_open_1 : decode b_SystemUse_open 1 = .ok (.getfield 16, 3) := by decide +kernel
theorem d_SystemUse_open_4 : decode b_SystemUse_open 4 = .ok (.iload_n 2, 1) := by decide +kernel
theorem d_SystemUse_open_5 : decode b_SystemUse_open 5 = .ok (.invokevirtual 82, 3) := by decide +kernel
theorem d_SystemUse_open_8 : decode b_SystemUse_open 8 = .ok (.istore_n 3, 1) := by decide +kernel
theorem d_SystemUse_open_9 : decode b_SystemUse_open 9 = .ok (.aload_n 0, 1) := by decide +kernel
theorem d_SystemUse_open_10 : decode b_SystemUse_open 10 = .ok (.getfield 16, 3) := by decide +kernel
theorem d_SystemUse_open_13 : decode b_SystemUse_open 13 = .ok (.iload_n 3, 1) := by decide +kernel
theorem d_SystemUse_open_14 : decode b_SystemUse_open 14 = .ok (.iload_n 1, 1) := by decide +kernel
theorem d_SystemUse_open_15 : decode b_SystemUse_open 15 = .ok (.bipush 8, 2) := by decide +kernel
theorem d_SystemUse_open_17 : decode b_SystemUse_open 17 = .ok (.ishr, 1) := by decide +kernel
theorem d_SystemUse_open_18 : decode b_SystemUse_open 18 = .ok (.invokevirtual 41, 3) := by decide +kernel
theorem d_SystemUse_open_21 : decode b_SystemUse_open 21 = .ok (.aload_n 0, 1) := by decide +kernel
theorem d_SystemUse_open_22 : decode b_SystemUse_open 22 = .ok (.getfield 16, 3) := by decide +kernel
theorem d_SystemUse_open_25 : decode b_SystemUse_open 25 = .ok (.iload_n 3, 1) := by decide +kernel
theorem d_SystemUse_open_26 : decode b_SystemUse_open 26 = .ok (.iconst 1, 1) := by decide +kernel
theorem d_SystemUse_open_27 : decode b_SystemUse_open 27 = .ok (.iadd, 1) := by decide +kernel
theorem d_SystemUse_open_28 : decode b_SystemUse_open 28 = .ok (.iload_n 1, 1) := by decide +kernel
theorem d_SystemUse_open_29 : decode b_SystemUse_open 29 = .ok (.invokevirtual 41, 3) := by decide +kernel
theorem d_SystemUse_open_32 : decode b_SystemUse_open 32 = .ok (.aload_n 0, 1) := by decide +kernel
theorem d_SystemUse_open_33 : decode b_SystemUse_open 33 = .ok (.getfield 16, 3) := by decide +kernel
theorem d_SystemUse_open_36 : decode b_SystemUse_open 36 = .ok (.iload_n 3, 1) := by decide +kernel
theorem d_SystemUse_open_37 : decode b_SystemUse_open 37 = .ok (.iconst 3, 1) := by decide +kernel
theorem d_SystemUse_open_38 : decode b_SystemUse_open 38 = .ok (.iadd, 1) := by decide +kernel
theorem d_SystemUse_open_39 : decode b_SystemUse_open 39 = .ok (.iconst 1, 1) := by decide +kernel
theorem d_SystemUse_open_40 : decode b_SystemUse_open 40 = .ok (.invokevirtual 41, 3) := by decide +kernel
theorem d_SystemUse_open_43 : decode b_SystemUse_open 43 = .ok (.iload_n 3, 1) := by decide +kernel
theorem d_SystemUse_open_44 : decode b_SystemUse_open 44 = .ok (.ireturn, 1) := by decide +kernel
set_option maxHeartbeats 4000000 in
set_option maxRecDepth 100000 in
theorem c_uopen (l : Launch) (D : va_G) (cB cI cJ cZ cN cF : ClassId) (sz : Nat) (z zb zr ze : Nat) (fz fe : Nat → Int32) (L kn9 : Nat) (kx1 kx2 v : Int32) (hL : L + kn9 ≤ 400) : Met l y_SystemUse_open w_SystemUse_open ({ frames := 1, cells := 0, slots := 0, locals := 23 }) (va_Pc [.ref z, .int v, .int (nI kn9)] (fun U => U.heap.size = sz ∧ va_P D CL [(z, .inr (8, [.ref zb, .ref ze, .int kx1, .int kx2])), (zb, .inr (1, [.ref zr, .int (nI L)])), (zr, .inl (cB, 400, .inl fz)), (ze, .inl (cI, 4, .inl fe))] U.heap ∧ va_K D CL (TY cB cI cJ cZ cN cF) U ∧ NN U ∧ va_D (fun _ => True) [(z, .inr (8, [.ref zb, .ref ze, .int kx1, .int kx2])), (zb, .inr (1, [.ref zr, .int (nI L)])), (zr, .inl (cB, 400, .inl fz)), (ze, .inl (cI, 4, .inl fe))])) (va_Qi (fun (r : Int32) (u : Nat → Int32) => r = nI L) (fun (u : Nat → Int32) (t : State) => match u with | g => va_P D CL [(z, .inr (8, [.ref zb, .ref ze, .int kx1, .int kx2])), (zb, .inr (1, [.ref zr, .int (nI (L + kn9))])), (zr, .inl (cB, 400, .inl g)), (ze, .inl (cI, 4, .inl fe))] t.heap ∧ va_D (va_A [(z, .inr (8, [.ref zb, .ref ze, .int kx1, .int kx2])), (zb, .inr (1, [.ref zr, .int (nI L)])), (zr, .inl (cB, 400, .inl fz)), (ze, .inl (cI, 4, .inl fe))] sz) [(z, .inr (8, [.ref zb, .ref ze, .int kx1, .int kx2])), (zb, .inr (1, [.ref zr, .int (nI (L + kn9))])), (zr, .inl (cB, 400, .inl g)), (ze, .inl (cI, 4, .inl fe))]) (va_A [(z, .inr (8, [.ref zb, .ref ze, .int kx1, .int kx2])), (zb, .inr (1, [.ref zr, .int (nI L)])), (zr, .inl (cB, 400, .inl fz)), (ze, .inl (cI, 4, .inl fe))] sz)) 0 0 (va_A [(z, .inr (8, [.ref zb, .ref ze, .int kx1, .int kx2])), (zb, .inr (1, [.ref zr, .int (nI L)])), (zr, .inl (cB, 400, .inl fz)), (ze, .inl (cI, 4, .inl fe))] sz) := by
  refine Met.ofW (cc := b_SystemUse_open) (maxL := 4) (ret := some .int) (by decide) rfl ?_
  intro p e s m args below meth c s₁ B hml hv
  obtain ⟨rfl, hsz, hP, hK, hN, hD0⟩ := hv
  have hx := B.exec
  have hb := B.bytes
  have hr := B.returns
  have hts := atoms_spec (ws := w_SystemUse_open) B.pre
  have ht9 := fun (w : Cond) (h : w ∈ lw_g) => hts w (List.mem_cons_of_mem _ h)
  have hown : s.vm.findClass "DiscMaker$SystemUse" = some m.cls := findClass_of_methodNamed B.named
  have hlocks := B.notSynchronized
  subst hsz
  have hD := hD0.self (sz := s.heap.size)
  generalize hAe : va_A [(z, .inr (8, [.ref zb, .ref ze, .int kx1, .int kx2])), (zb, .inr (1, [.ref zr, .int (nI L)])), (zr, .inl (cB, 400, .inl fz)), (ze, .inl (cI, 4, .inl fe))] s.heap.size = A at hD ⊢
  have hA : ∀ q : Nat, s.heap.size ≤ q → A q := fun q h => by rw [← hAe]; exact Or.inr h
  have hS : va_S A s.heap s.heap [] := va_S.rf
  have hP : va_P D CL [(z, .inr (8, [.ref zb, .ref ze, .int kx1, .int kx2])), (zb, .inr (1, [.ref zr, .int (nI L)])), (zr, .inl (cB, 400, .inl fz)), (ze, .inl (cI, 4, .inl fe))] s.heap := hP
  have hl := lv_entry [.ref z, .int v, .int (nI kn9)] (n := 4) (Nat.le_of_ble_eq_true rfl)
  rw [lg_entry_eq]
  generalize (lg_sl [.ref z, .int v, .int (nI kn9)] ++ List.replicate (4 - (lg_sl [.ref z, .int v, .int (nI kn9)]).length) Slot.unset).toArray = ls at hl ⊢
  have hl : lv_has ls 4 [(0, .ref z), (1, .int v), (2, .int (nI kn9))] := hl
  refine lv_aload_n hx hb d_SystemUse_open_0 rfl (lv_at hl 0 rfl) ?_
  refine va_get (D := D) (ci := 8) (v := .ref zb) (C := "DiscMaker$SystemUse") (T := F_SystemUse) (N := 4) hx hb ht9 in_SystemUse hown hK hP 0 rfl rfl 0 (by decide) (ht9 _ k330) (fun _ h9 => h9) rfl d_SystemUse_open_1 ?_
  refine lv_iload_n hx hb d_SystemUse_open_4 rfl (lv_at hl 2 rfl) ?_
  have hPc := hP.sub (ws' := [(zb, .inr (1, [.ref zr, .int (nI L)])), (zr, .inl (cB, 400, .inl fz))]) [1, 2] rfl
  have hDc := hD.sub (ws' := [(zb, .inr (1, [.ref zr, .int (nI L)])), (zr, .inl (cB, 400, .inl fz))]) [1, 2] (by decide) rfl
  have hFc := va_free (wc := [(zb, .inr (1, [.ref zr, .int (nI L)])), (zr, .inl (cB, 400, .inl fz))]) hD hS hA [1, 2] rfl
  have hkc : 0 ≤ 0 := by decide
  have hks : 0 ≤ 0 := by decide
  refine va_calli (va_runV (C := "DiscMaker$Bytes") (As := [.int (nI kn9)]) (rest := []) ⟨hx, hb, hml, hown, hts⟩ (c_extend l D cB cI cJ cZ cN cF s.heap.size zb zr L 400 kn9 fz hL (by decide)) (cwV 1 hts (lg_goodV k907 k908 k909 k119 kc_Bytes_extend) rfl rfl rfl (by decide +kernel) ⟨Nat.le_of_ble_eq_true rfl, Nat.le_of_ble_eq_true rfl⟩) ⟨fun a U g mk q => by obtain ⟨q0, q1, qP, qK, qN, qD⟩ := q; exact ⟨q0, q1, qP, va_K.moved (u := U) (U := U.calling g mk a) (Vm.Alike.refl U.vm) qK, qN.calling, qD⟩, va_recv hK hP (ci := 1) (q0 := 1) rfl rfl, fun U hU hW => ⟨rfl, by rw [hU], by rw [hU]; exact hPc, va_K.moved hW.alike hK, NN.warm hW hN, hDc.weaken (fun _ _ _ _ => trivial)⟩⟩ rfl rfl hl.1 rfl (lv_room (Nat.le_of_ble_eq_true rfl)) d_SystemUse_open_5 ⟨hkc, hks⟩) hS (fun q _ h => hFc q h) hFc (fun r5 u t H1 locs ht hvm hp_5 hB hz1 hk1 hS => ?_)
  obtain ⟨g5, rfl⟩ : ∃ z, z = u := ⟨_, rfl⟩
  obtain ⟨hP1, hD1⟩ := hB
  rw [ht] at hP1
  try dsimp only at hp_5
  obtain ⟨hP, hD⟩ := va_join (wr := [(z, .inr (8, [.ref zb, .ref ze, .int kx1, .int kx2])), (ze, .inl (cI, 4, .inl fe))]) (w1 := [(zb, .inr (1, [.ref zr, .int (nI (L + kn9))])), (zr, .inl (cB, 400, .inl g5))]) hP hD [1, 2] [0, 3] rfl rfl (by decide) (by decide) hk1 hFc hP1 hD1
  clear hPc hDc hFc hP1 hD1 hk1 hz1
  generalize H1 = H at hP hS ⊢
  have hP : va_P D CL [(z, .inr (8, [.ref zb, .ref ze, .int kx1, .int kx2])), (ze, .inl (cI, 4, .inl fe)), (zb, .inr (1, [.ref zr, .int (nI (L + kn9))])), (zr, .inl (cB, 400, .inl g5))] H := hP
  have hD : va_D A [(z, .inr (8, [.ref zb, .ref ze, .int kx1, .int kx2])), (ze, .inl (cI, 4, .inl fe)), (zb, .inr (1, [.ref zr, .int (nI (L + kn9))])), (zr, .inl (cB, 400, .inl g5))] := hD
  refine lv_istore_n hx hb d_SystemUse_open_8 rfl hl (by decide) rfl (fun ls hl => ?_)
  have hl : lv_has ls 4 [(3, .int r5), (0, .ref z), (1, .int v), (2, .int (nI kn9))] := hl
  refine lv_aload_n hx hb d_SystemUse_open_9 rfl (lv_at hl 1 rfl) ?_
  refine va_get (D := D) (ci := 8) (v := .ref zb) (C := "DiscMaker$SystemUse") (T := F_SystemUse) (N := 4) hx hb ht9 in_SystemUse hown hK hP 0 rfl rfl 0 (by decide) (ht9 _ k330) (fun _ h9 => h9) rfl d_SystemUse_open_10 ?_
  refine lv_iload_n hx hb d_SystemUse_open_13 rfl (lv_at hl 0 rfl) ?_
  refine lv_iload_n hx hb d_SystemUse_open_14 rfl (lv_at hl 2 rfl) ?_
  refine lv_bipush (v := 8) hx hb d_SystemUse_open_15 (by decide) ?_
  refine lv_ishr hx hb d_SystemUse_open_17 ?_
  have hPc := hP.sub (ws' := [(zb, .inr (1, [.ref zr, .int (nI (L + kn9))])), (zr, .inl (cB, 400, .inl g5))]) [2, 3] rfl
  have hDc := hD.sub (ws' := [(zb, .inr (1, [.ref zr, .int (nI (L + kn9))])), (zr, .inl (cB, 400, .inl g5))]) [2, 3] (by decide) rfl
  have hFc := va_free (wc := [(zb, .inr (1, [.ref zr, .int (nI (L + kn9))])), (zr, .inl (cB, 400, .inl g5))]) hD hS hA [2, 3] rfl
  have hkc : 0 ≤ 0 := by decide
  have hks : 0 ≤ 0 := by decide
  refine va_callv (va_runV (C := "DiscMaker$Bytes") (As := [.int r5, .int (v >>> (8 &&& 31))]) (rest := []) ⟨hx, hb, hml, hown, hts⟩ (c_put l D cB cI cJ cZ cN cF H.size zb zr (L + kn9) 400 g5 r5 (v >>> (8 &&& 31)) hL (by decide)) (cwV 2 hts (lg_goodV k911 k912 k913 k119 kc_Bytes_put) rfl rfl rfl (by decide +kernel) ⟨Nat.le_of_ble_eq_true rfl, Nat.le_of_ble_eq_true rfl⟩) ⟨fun a U g mk q => by obtain ⟨q0, q1, qP, qK, qN, qD⟩ := q; exact ⟨q0, q1, qP, va_K.moved (u := U) (U := U.calling g mk a) (Vm.Alike.refl U.vm) qK, qN.calling, qD⟩, va_recv hK hP (ci := 1) (q0 := 2) rfl rfl, fun U hU hW => ⟨rfl, by rw [hU], by rw [hU]; exact hPc, va_K.moved hW.alike hK, NN.warm hW hN, hDc.weaken (fun _ _ _ _ => trivial)⟩⟩ rfl rfl hl.1 rfl (lv_room (Nat.le_of_ble_eq_true rfl)) d_SystemUse_open_18 ⟨hkc, hks⟩) hS (fun q _ h => hFc q h) hFc (fun u t H1 locs ht hvm hp_18 hB hz1 hk1 hS => ?_)
  obtain ⟨g_12, rfl⟩ : ∃ z, z = u := ⟨_, rfl⟩
  obtain ⟨hP1, hD1⟩ := hB
  rw [ht] at hP1
  obtain ⟨hP, hD⟩ := va_join (wr := [(z, .inr (8, [.ref zb, .ref ze, .int kx1, .int kx2])), (ze, .inl (cI, 4, .inl fe))]) (w1 := [(zb, .inr (1, [.ref zr, .int (nI (L + kn9))])), (zr, .inl (cB, 400, .inl g_12))]) hP hD [2, 3] [0, 1] rfl rfl (by decide) (by decide) hk1 hFc hP1 hD1
  clear hPc hDc hFc hP1 hD1 hk1 hz1
  generalize H1 = H at hP hS ⊢
  have hP : va_P D CL [(z, .inr (8, [.ref zb, .ref ze, .int kx1, .int kx2])), (ze, .inl (cI, 4, .inl fe)), (zb, .inr (1, [.ref zr, .int (nI (L + kn9))])), (zr, .inl (cB, 400, .inl g_12))] H := hP
  have hD : va_D A [(z, .inr (8, [.ref zb, .ref ze, .int kx1, .int kx2])), (ze, .inl (cI, 4, .inl fe)), (zb, .inr (1, [.ref zr, .int (nI (L + kn9))])), (zr, .inl (cB, 400, .inl g_12))] := hD
  refine lv_aload_n hx hb d_SystemUse_open_21 rfl (lv_at hl 1 rfl) ?_
  refine va_get (D := D) (ci := 8) (v := .ref zb) (C := "DiscMaker$SystemUse") (T := F_SystemUse) (N := 4) hx hb ht9 in_SystemUse hown hK hP 0 rfl rfl 0 (by decide) (ht9 _ k330) (fun _ h9 => h9) rfl d_SystemUse_open_22 ?_
  refine lv_iload_n hx hb d_SystemUse_open_25 rfl (lv_at hl 0 rfl) ?_
  refine lv_iconst (v := 1) hx hb d_SystemUse_open_26 (by decide) ?_
  refine lv_iadd hx hb d_SystemUse_open_27 ?_
  refine lv_iload_n hx hb d_SystemUse_open_28 rfl (lv_at hl 2 rfl) ?_
  have hPc := hP.sub (ws' := [(zb, .inr (1, [.ref zr, .int (nI (L + kn9))])), (zr, .inl (cB, 400, .inl g_12))]) [2, 3] rfl
  have hDc := hD.sub (ws' := [(zb, .inr (1, [.ref zr, .int (nI (L + kn9))])), (zr, .inl (cB, 400, .inl g_12))]) [2, 3] (by decide) rfl
  have hFc := va_free (wc := [(zb, .inr (1, [.ref zr, .int (nI (L + kn9))])), (zr, .inl (cB, 400, .inl g_12))]) hD hS hA [2, 3] rfl
  have hkc : 0 ≤ 0 := by decide
  have hks : 0 ≤ 0 := by decide
  refine va_callv (va_runV (C := "DiscMaker$Bytes") (As := [.int (r5 + 1), .int v]) (rest := []) ⟨hx, hb, hml, hown, hts⟩ (c_put l D cB cI cJ cZ cN cF H.size zb zr (L + kn9) 400 g_12 (r5 + 1) v hL (by decide)) (cwV 2 hts (lg_goodV k911 k912 k913 k119 kc_Bytes_put) rfl rfl rfl (by decide +kernel) ⟨Nat.le_of_ble_eq_true rfl, Nat.le_of_ble_eq_true rfl⟩) ⟨fun a U g mk q => by obtain ⟨q0, q1, qP, qK, qN, qD⟩ := q; exact ⟨q0, q1, qP, va_K.moved (u := U) (U := U.calling g mk a) (Vm.Alike.refl U.vm) qK, qN.calling, qD⟩, va_recv hK hP (ci := 1) (q0 := 2) rfl rfl, fun U hU hW => ⟨rfl, by rw [hU], by rw [hU]; exact hPc, va_K.moved hW.alike hK, NN.warm hW hN, hDc.weaken (fun _ _ _ _ => trivial)⟩⟩ rfl rfl hl.1 rfl (lv_room (Nat.le_of_ble_eq_true rfl)) d_SystemUse_open_29 ⟨hkc, hks⟩) hS (fun q _ h => hFc q h) hFc (fun u t H1 locs ht hvm hp_29 hB hz1 hk1 hS => ?_)
  obtain ⟨g_19, rfl⟩ : ∃ z, z = u := ⟨_, rfl⟩
  obtain ⟨hP1, hD1⟩ := hB
  rw [ht] at hP1
  obtain ⟨hP, hD⟩ := va_join (wr := [(z, .inr (8, [.ref zb, .ref ze, .int kx1, .int kx2])), (ze, .inl (cI, 4, .inl fe))]) (w1 := [(zb, .inr (1, [.ref zr, .int (nI (L + kn9))])), (zr, .inl (cB, 400, .inl g_19))]) hP hD [2, 3] [0, 1] rfl rfl (by decide) (by decide) hk1 hFc hP1 hD1
  clear hPc hDc hFc hP1 hD1 hk1 hz1
  generalize H1 = H at hP hS ⊢
  have hP : va_P D CL [(z, .inr (8, [.ref zb, .ref ze, .int kx1, .int kx2])), (ze, .inl (cI, 4, .inl fe)), (zb, .inr (1, [.ref zr, .int (nI (L + kn9))])), (zr, .inl (cB, 400, .inl g_19))] H := hP
  have hD : va_D A [(z, .inr (8, [.ref zb, .ref ze, .int kx1, .int kx2])), (ze, .inl (cI, 4, .inl fe)), (zb, .inr (1, [.ref zr, .int (nI (L + kn9))])), (zr, .inl (cB, 400, .inl g_19))] := hD
  refine lv_aload_n hx hb d_SystemUse_open_32 rfl (lv_at hl 1 rfl) ?_
  refine va_get (D := D) (ci := 8) (v := .ref zb) (C := "DiscMaker$SystemUse") (T := F_SystemUse) (N := 4) hx hb ht9 in_SystemUse hown hK hP 0 rfl rfl 0 (by decide) (ht9 _ k330) (fun _ h9 => h9) rfl d_SystemUse_open_33 ?_
  refine lv_iload_n hx hb d_SystemUse_open_36 rfl (lv_at hl 0 rfl) ?_
  refine lv_iconst (v := 3) hx hb d_SystemUse_open_37 (by decide) ?_
  refine lv_iadd hx hb d_SystemUse_open_38 ?_
  refine lv_iconst (v := 1) hx hb d_SystemUse_open_39 (by decide) ?_
  have hPc := hP.sub (ws' := [(zb, .inr (1, [.ref zr, .int (nI (L + kn9))])), (zr, .inl (cB, 400, .inl g_19))]) [2, 3] rfl
  have hDc := hD.sub (ws' := [(zb, .inr (1, [.ref zr, .int (nI (L + kn9))])), (zr, .inl (cB, 400, .inl g_19))]) [2, 3] (by decide) rfl
  have hFc := va_free (wc := [(zb, .inr (1, [.ref zr, .int (nI (L + kn9))])), (zr, .inl (cB, 400, .inl g_19))]) hD hS hA [2, 3] rfl
  have hkc : 0 ≤ 0 := by decide
  have hks : 0 ≤ 0 := by decide
  refine va_callv (va_runV (C := "DiscMaker$Bytes") (As := [.int (r5 + 3), .int 1]) (rest := []) ⟨hx, hb, hml, hown, hts⟩ (c_put l D cB cI cJ cZ cN cF H.size zb zr (L + kn9) 400 g_19 (r5 + 3) 1 hL (by decide)) (cwV 2 hts (lg_goodV k911 k912 k913 k119 kc_Bytes_put) rfl rfl rfl (by decide +kernel) ⟨Nat.le_of_ble_eq_true rfl, Nat.le_of_ble_eq_true rfl⟩) ⟨fun a U g mk q => by obtain ⟨q0, q1, qP, qK, qN, qD⟩ := q; exact ⟨q0, q1, qP, va_K.moved (u := U) (U := U.calling g mk a) (Vm.Alike.refl U.vm) qK, qN.calling, qD⟩, va_recv hK hP (ci := 1) (q0 := 2) rfl rfl, fun U hU hW => ⟨rfl, by rw [hU], by rw [hU]; exact hPc, va_K.moved hW.alike hK, NN.warm hW hN, hDc.weaken (fun _ _ _ _ => trivial)⟩⟩ rfl rfl hl.1 rfl (lv_room (Nat.le_of_ble_eq_true rfl)) d_SystemUse_open_40 ⟨hkc, hks⟩) hS (fun q _ h => hFc q h) hFc (fun u t H1 locs ht hvm hp_40 hB hz1 hk1 hS => ?_)
  obtain ⟨g_26, rfl⟩ : ∃ z, z = u := ⟨_, rfl⟩
  obtain ⟨hP1, hD1⟩ := hB
  rw [ht] at hP1
  obtain ⟨hP, hD⟩ := va_join (wr := [(z, .inr (8, [.ref zb, .ref ze, .int kx1, .int kx2])), (ze, .inl (cI, 4, .inl fe))]) (w1 := [(zb, .inr (1, [.ref zr, .int (nI (L + kn9))])), (zr, .inl (cB, 400, .inl g_26))]) hP hD [2, 3] [0, 1] rfl rfl (by decide) (by decide) hk1 hFc hP1 hD1
  clear hPc hDc hFc hP1 hD1 hk1 hz1
  generalize H1 = H at hP hS ⊢
  have hP : va_P D CL [(z, .inr (8, [.ref zb, .ref ze, .int kx1, .int kx2])), (ze, .inl (cI, 4, .inl fe)), (zb, .inr (1, [.ref zr, .int (nI (L + kn9))])), (zr, .inl (cB, 400, .inl g_26))] H := hP
  have hD : va_D A [(z, .inr (8, [.ref zb, .ref ze, .int kx1, .int kx2])), (ze, .inl (cI, 4, .inl fe)), (zb, .inr (1, [.ref zr, .int (nI (L + kn9))])), (zr, .inl (cB, 400, .inl g_26))] := hD
  refine lv_iload_n hx hb d_SystemUse_open_43 rfl (lv_at hl 0 rfl) ?_
  have hP9 := hP.sub (ws' := [(z, .inr (8, [.ref zb, .ref ze, .int kx1, .int kx2])), (zb, .inr (1, [.ref zr, .int (nI (L + kn9))])), (zr, .inl (cB, 400, .inl g_26)), (ze, .inl (cI, 4, .inl fe))]) [0, 2, 3, 1] rfl
  have hD9 := hD.sub (ws' := [(z, .inr (8, [.ref zb, .ref ze, .int kx1, .int kx2])), (zb, .inr (1, [.ref zr, .int (nI (L + kn9))])), (zr, .inl (cB, 400, .inl g_26)), (ze, .inl (cI, 4, .inl fe))]) [0, 2, 3, 1] (by decide) rfl
  exact W.iret (v := r5) hx hb hr (fun t ht hW => ⟨⟨r5, g_26, rfl, hp_5, by rw [ht]; exact hP9, hD9⟩, hS.F ht⟩) hS.2.2 d_SystemUse_open_44

theorem d_SystemUse_close_0 : decode b_SystemUse_close 0 = .ok (.aload_n 0, 1) := by decide +kernel
theorem d_SystemUse_close_1 : decode b_SystemUse_close 1 = .ok (.getfield 16, 3) := by decide +kernel
theorem d_SystemUse_close_4 : decode b_SystemUse_close 4 = .ok (.iload_n 1, 1) := by decide +kernel
theorem d_SystemUse_close_5 : decode b_SystemUse_close 5 = .ok (.iconst 2, 1) := by decide +kernel
theorem d_SystemUse_close_6 : decode b_SystemUse_close 6 = .ok (.iadd, 1) := by decide +kernel
theorem d_SystemUse_close_7 : decode b_SystemUse_close 7 = .ok (.aload_n 0, 1) := by decide +kernel
theorem d_SystemUse_close_8 : decode b_SystemUse_close 8 = .ok (.getfield 16, 3) := by decide +kernel
theorem d_SystemUse_close_11 : decode b_SystemUse_close 11 = .ok (.getfield 34, 3) := by decide +kernel
theorem d_SystemUse_close_14 : decode b_SystemUse_close 14 = .ok (.iload_n 1, 1) := by decide +kernel
theorem d_SystemUse_close_15 : decode b_SystemUse_close 15 = .ok (.isub, 1) := by decide +kernel
theorem d_SystemUse_close_16 : decode b_SystemUse_close 16 = .ok (.invokevirtual 41, 3) := by decide +kernel
theorem d_SystemUse_close_19 : decode b_SystemUse_close 19 = .ok (.aload_n 0, 1) := by decide +kernel
theorem d_SystemUse_close_20 : decode b_SystemUse_close 20 = .ok (.getfield 27, 3) := by decide +kernel
theorem d_SystemUse_close_23 : decode b_SystemUse_close 23 = .ok (.aload_n 0, 1) := by decide +kernel
theorem d_SystemUse_close_24 : decode b_SystemUse_close 24 = .ok (.getfield 20, 3) := by decide +kernel
theorem d_SystemUse_close_27 : decode b_SystemUse_close 27 = .ok (.arraylength, 1) := by decide +kernel
theorem d_SystemUse_close_28 : decode b_SystemUse_close 28 = .ok (.if_icmp .ge 29, 3) := by decide +kernel
theorem d_SystemUse_close_31 : decode b_SystemUse_close 31 = .ok (.aload_n 0, 1) := by decide +kernel
theorem d_SystemUse_close_32 : decode b_SystemUse_close 32 = .ok (.getfield 20, 3) := by decide +kernel
theorem d_SystemUse_close_35 : decode b_SystemUse_close 35 = .ok (.aload_n 0, 1) := by decide +kernel
theorem d_SystemUse_close_36 : decode b_SystemUse_close 36 = .ok (.getfield 27, 3) := by decide +kernel
theorem d_SystemUse_close_39 : decode b_SystemUse_close 39 = .ok (.aload_n 0, 1) := by decide +kernel
theorem d_SystemUse_close_40 : decode b_SystemUse_close 40 = .ok (.getfield 16, 3) := by decide +kernel
theorem d_SystemUse_close_43 : decode b_SystemUse_close 43 = .ok (.getfield 34, 3) := by decide +kernel
theorem d_SystemUse_close_46 : decode b_SystemUse_close 46 = .ok (.iastore, 1) := by decide +kernel
theorem d_SystemUse_close_47 : decode b_SystemUse_close 47 = .ok (.aload_n 0, 1) := by decide +kernel
theorem d_SystemUse_close_48 : decode b_SystemUse_close 48 = .ok (.dup, 1) := by decide +kernel
theorem d_SystemUse_close_49 : decode b_SystemUse_close 49 = .ok (.getfield 27, 3) := by decide +kernel
theorem d_SystemUse_close_52 : decode b_SystemUse_close 52 = .ok (.iconst 1, 1) := by decide +kernel
theorem d_SystemUse_close_53 : decode b_SystemUse_close 53 = .ok (.iadd, 1) := by decide +kernel
theorem d_SystemUse_close_54 : decode b_SystemUse_close 54 = .ok (.putfield 27, 3) := by decide +kernel
theorem d_SystemUse_close_57 : decode b_SystemUse_close 57 = .ok (.return_, 1) := by decide +kernel
set_option maxHeartbeats 4000000 in
set_option maxRecDepth 100000 in
theorem c_uclose (l : Launch) (D : va_G) (cB cI cJ cZ cN cF : ClassId) (sz : Nat) (z zb zr ze : Nat) (fz fe : Nat → Int32) (L kn9 : Nat) (kx2 v : Int32) (hL : L ≤ 400) (hkn9 : kn9 < 4) : Met l y_SystemUse_close w_SystemUse_close ({ frames := 1, cells := 0, slots := 0, locals := 22 }) (va_Pc [.ref z, .int v] (fun U => U.heap.size = sz ∧ va_P D CL [(z, .inr (8, [.ref zb, .ref ze, .int (nI kn9), .int kx2])), (zb, .inr (1, [.ref zr, .int (nI L)])), (zr, .inl (cB, 400, .inl fz)), (ze, .inl (cI, 4, .inl fe))] U.heap ∧ va_K D CL (TY cB cI cJ cZ cN cF) U ∧ NN U ∧ va_D (fun _ => True) [(z, .inr (8, [.ref zb, .ref ze, .int (nI kn9), .int kx2])), (zb, .inr (1, [.ref zr, .int (nI L)])), (zr, .inl (cB, 400, .inl fz)), (ze, .inl (cI, 4, .inl fe))])) (va_Qv (fun (u : (Nat → Int32) × (Nat → Int32)) => True) (fun (u : (Nat → Int32) × (Nat → Int32)) (t : State) => match u with | (g, e9) => va_P D CL [(z, .inr (8, [.ref zb, .ref ze, .int (nI (kn9 + 1)), .int kx2])), (zb, .inr (1, [.ref zr, .int (nI L)])), (zr, .inl (cB, 400, .inl g)), (ze, .inl (cI, 4, .inl e9))] t.heap ∧ va_D (va_A [(z, .inr (8, [.ref zb, .ref ze, .int (nI kn9), .int kx2])), (zb, .inr (1, [.ref zr, .int (nI L)])), (zr, .inl (cB, 400, .inl fz)), (ze, .inl (cI, 4, .inl fe))] sz) [(z, .inr (8, [.ref zb, .ref ze, .int (nI (kn9 + 1)), .int kx2])), (zb, .inr (1, [.ref zr, .int (nI L)])), (zr, .inl (cB, 400, .inl g)), (ze, .inl (cI, 4, .inl e9))]) (va_A [(z, .inr (8, [.ref zb, .ref ze, .int (nI kn9), .int kx2])), (zb, .inr (1, [.ref zr, .int (nI L)])), (zr, .inl (cB, 400, .inl fz)), (ze, .inl (cI, 4, .inl fe))] sz)) 0 0 (va_A [(z, .inr (8, [.ref zb, .ref ze, .int (nI kn9), .int kx2])), (zb, .inr (1, [.ref zr, .int (nI L)])), (zr, .inl (cB, 400, .inl fz)), (ze, .inl (cI, 4, .inl fe))] sz) := by
  refine Met.ofW (cc := b_SystemUse_close) (maxL := 2) (ret := none) (by decide) rfl ?_
  intro p e s m args below meth c s₁ B hml hv
  obtain ⟨rfl, hsz, hP, hK, hN, hD0⟩ := hv
  have hx := B.exec
  have hb := B.bytes
  have hr := B.returns
  have hts := atoms_spec (ws := w_SystemUse_close) B.pre
  have ht9 := fun (w : Cond) (h : w ∈ lw_g) => hts w (List.mem_cons_of_mem _ h)
  have hown : s.vm.findClass "DiscMaker$SystemUse" = some m.cls := findClass_of_methodNamed B.named
  have hlocks := B.notSynchronized
  subst hsz
  have hD := hD0.self (sz := s.heap.size)
  generalize hAe : va_A [(z, .inr (8, [.ref zb, .ref ze, .int (nI kn9), .int kx2])), (zb, .inr (1, [.ref zr, .int (nI L)])), (zr, .inl (cB, 400, .inl fz)), (ze, .inl (cI, 4, .inl fe))] s.heap.size = A at hD ⊢
  have hA : ∀ q : Nat, s.heap.size ≤ q → A q := fun q h => by rw [← hAe]; exact Or.inr h
  have hS : va_S A s.heap s.heap [] := va_S.rf
  have hP : va_P D CL [(z, .inr (8, [.ref zb, .ref ze, .int (nI kn9), .int kx2])), (zb, .inr (1, [.ref zr, .int (nI L)])), (zr, .inl (cB, 400, .inl fz)), (ze, .inl (cI, 4, .inl fe))] s.heap := hP
  have hl := lv_entry [.ref z, .int v] (n := 2) (Nat.le_of_ble_eq_true rfl)
  rw [lg_entry_eq]
  generalize (lg_sl [.ref z, .int v] ++ List.replicate (2 - (lg_sl [.ref z, .int v]).length) Slot.unset).toArray = ls at hl ⊢
  have hl : lv_has ls 2 [(0, .ref z), (1, .int v)] := hl
  refine lv_aload_n hx hb d_SystemUse_close_0 rfl (lv_at hl 0 rfl) ?_
  refine va_get (D := D) (ci := 8) (v := .ref zb) (C := "DiscMaker$SystemUse") (T := F_SystemUse) (N := 4) hx hb ht9 in_SystemUse hown hK hP 0 rfl rfl 0 (by decide) (ht9 _ k330) (fun _ h9 => h9) rfl d_SystemUse_close_1 ?_
  refine lv_iload_n hx hb d_SystemUse_close_4 rfl (lv_at hl 1 rfl) ?_
  refine lv_iconst (v := 2) hx hb d_SystemUse_close_5 (by decide) ?_
  refine lv_iadd hx hb d_SystemUse_close_6 ?_
  refine lv_aload_n hx hb d_SystemUse_close_7 rfl (lv_at hl 0 rfl) ?_
  refine va_get (D := D) (ci := 8) (v := .ref zb) (C := "DiscMaker$SystemUse") (T := F_SystemUse) (N := 4) hx hb ht9 in_SystemUse hown hK hP 0 rfl rfl 0 (by decide) (ht9 _ k330) (fun _ h9 => h9) rfl d_SystemUse_close_8 ?_
  refine va_getN (D := D) (ci := 1) (v := .int (nI L)) (C := "DiscMaker$Bytes") (T := F_Bytes) (N := 2) hx hb ht9 in_Bytes hown hK hP 1 rfl rfl 1 (by decide) (va_Nw.use rfl (hN _ k259)) (fun _ h9 => h9) rfl d_SystemUse_close_11 ?_
  refine lv_iload_n hx hb d_SystemUse_close_14 rfl (lv_at hl 1 rfl) ?_
  refine lv_isub hx hb d_SystemUse_close_15 ?_
  have hPc := hP.sub (ws' := [(zb, .inr (1, [.ref zr, .int (nI L)])), (zr, .inl (cB, 400, .inl fz))]) [1, 2] rfl
  have hDc := hD.sub (ws' := [(zb, .inr (1, [.ref zr, .int (nI L)])), (zr, .inl (cB, 400, .inl fz))]) [1, 2] (by decide) rfl
  have hFc := va_free (wc := [(zb, .inr (1, [.ref zr, .int (nI L)])), (zr, .inl (cB, 400, .inl fz))]) hD hS hA [1, 2] rfl
  have hkc : 0 ≤ 0 := by decide
  have hks : 0 ≤ 0 := by decide
  refine va_callv (va_runV (C := "DiscMaker$Bytes") (As := [.int (v + 2), .int ((nI L) - v)]) (rest := []) ⟨hx, hb, hml, hown, hts⟩ (c_put l D cB cI cJ cZ cN cF s.heap.size zb zr L 400 fz (v + 2) ((nI L) - v) hL (by decide)) (cwV 2 hts (lg_goodV k911 k912 k913 k119 kc_Bytes_put) rfl rfl rfl (by decide +kernel) ⟨Nat.le_of_ble_eq_true rfl, Nat.le_of_ble_eq_true rfl⟩) ⟨fun a U g mk q => by obtain ⟨q0, q1, qP, qK, qN, qD⟩ := q; exact ⟨q0, q1, qP, va_K.moved (u := U) (U := U.calling g mk a) (Vm.Alike.refl U.vm) qK, qN.calling, qD⟩, va_recv hK hP (ci := 1) (q0 := 1) rfl rfl, fun U hU hW => ⟨rfl, by rw [hU], by rw [hU]; exact hPc, va_K.moved hW.alike hK, NN.warm hW hN, hDc.weaken (fun _ _ _ _ => trivial)⟩⟩ rfl rfl hl.1 rfl (lv_room (Nat.le_of_ble_eq_true rfl)) d_SystemUse_close_16 ⟨hkc, hks⟩) hS (fun q _ h => hFc q h) hFc (fun u t H1 locs ht hvm hp_16 hB hz1 hk1 hS => ?_)
  obtain ⟨g_11, rfl⟩ : ∃ z, z = u := ⟨_, rfl⟩
  obtain ⟨hP1, hD1⟩ := hB
  rw [ht] at hP1
  obtain ⟨hP, hD⟩ := va_join (wr := [(z, .inr (8, [.ref zb, .ref ze, .int (nI kn9), .int kx2])), (ze, .inl (cI, 4, .inl fe))]) (w1 := [(zb, .inr (1, [.ref zr, .int (nI L)])), (zr, .inl (cB, 400, .inl g_11))]) hP hD [1, 2] [0, 3] rfl rfl (by decide) (by decide) hk1 hFc hP1 hD1
  clear hPc hDc hFc hP1 hD1 hk1 hz1
  generalize H1 = H at hP hS ⊢
  have hP : va_P D CL [(z, .inr (8, [.ref zb, .ref ze, .int (nI kn9), .int kx2])), (ze, .inl (cI, 4, .inl fe)), (zb, .inr (1, [.ref zr, .int (nI L)])), (zr, .inl (cB, 400, .inl g_11))] H := hP
  have hD : va_D A [(z, .inr (8, [.ref zb, .ref ze, .int (nI kn9), .int kx2])), (ze, .inl (cI, 4, .inl fe)), (zb, .inr (1, [.ref zr, .int (nI L)])), (zr, .inl (cB, 400, .inl g_11))] := hD
  refine lv_aload_n hx hb d_SystemUse_close_19 rfl (lv_at hl 0 rfl) ?_
  refine va_get (D := D) (ci := 8) (v := .int (nI kn9)) (C := "DiscMaker$SystemUse") (T := F_SystemUse) (N := 4) hx hb ht9 in_SystemUse hown hK hP 0 rfl rfl 2 (by decide) (ht9 _ k333) (fun _ h9 => h9) rfl d_SystemUse_close_20 ?_
  refine lv_aload_n hx hb d_SystemUse_close_23 rfl (lv_at hl 0 rfl) ?_
  refine va_get (D := D) (ci := 8) (v := .ref ze) (C := "DiscMaker$SystemUse") (T := F_SystemUse) (N := 4) hx hb ht9 in_SystemUse hown hK hP 0 rfl rfl 1 (by decide) (ht9 _ k332) (fun _ h9 => h9) rfl d_SystemUse_close_24 ?_
  refine va_alen (v := 4) hx hb hK hP 1 1 rfl rfl rfl d_SystemUse_close_27 ?_
  refine lv_icmp_ge (tgt := 57) hx hb d_SystemUse_close_28 (by decide) (fun h_28 => absurd h_28 (nI_ge (b := 4) (by omega) (by decide))) (fun h_28 => ?_)
  refine lv_aload_n hx hb d_SystemUse_close_31 rfl (lv_at hl 0 rfl) ?_
  refine va_get (D := D) (ci := 8) (v := .ref ze) (C := "DiscMaker$SystemUse") (T := F_SystemUse) (N := 4) hx hb ht9 in_SystemUse hown hK hP 0 rfl rfl 1 (by decide) (ht9 _ k332) (fun _ h9 => h9) rfl d_SystemUse_close_32 ?_
  refine lv_aload_n hx hb d_SystemUse_close_35 rfl (lv_at hl 0 rfl) ?_
  refine va_get (D := D) (ci := 8) (v := .int (nI kn9)) (C := "DiscMaker$SystemUse") (T := F_SystemUse) (N := 4) hx hb ht9 in_SystemUse hown hK hP 0 rfl rfl 2 (by decide) (ht9 _ k333) (fun _ h9 => h9) rfl d_SystemUse_close_36 ?_
  refine lv_aload_n hx hb d_SystemUse_close_39 rfl (lv_at hl 0 rfl) ?_
  refine va_get (D := D) (ci := 8) (v := .ref zb) (C := "DiscMaker$SystemUse") (T := F_SystemUse) (N := 4) hx hb ht9 in_SystemUse hown hK hP 0 rfl rfl 0 (by decide) (ht9 _ k330) (fun _ h9 => h9) rfl d_SystemUse_close_40 ?_
  refine va_getN (D := D) (ci := 1) (v := .int (nI L)) (C := "DiscMaker$Bytes") (T := F_Bytes) (N := 2) hx hb ht9 in_Bytes hown hK hP 2 rfl rfl 1 (by decide) (va_Nw.use rfl (hN _ k259)) (fun _ h9 => h9) rfl d_SystemUse_close_43 ?_
  refine zz_iast hx hb hK hP hD hS 1 1 rfl rfl (vp_in_nI (by omega) (by decide)) d_SystemUse_close_46 (fun e46 H locs hP hD hS => ?_)
  have hP : va_P D CL [(z, .inr (8, [.ref zb, .ref ze, .int (nI kn9), .int kx2])), (ze, .inl (cI, 4, .inl e46)), (zb, .inr (1, [.ref zr, .int (nI L)])), (zr, .inl (cB, 400, .inl g_11))] H := hP
  have hD : va_D A [(z, .inr (8, [.ref zb, .ref ze, .int (nI kn9), .int kx2])), (ze, .inl (cI, 4, .inl e46)), (zb, .inr (1, [.ref zr, .int (nI L)])), (zr, .inl (cB, 400, .inl g_11))] := hD
  refine lv_aload_n hx hb d_SystemUse_close_47 rfl (lv_at hl 0 rfl) ?_
  refine lv_dup hx hb d_SystemUse_close_48 rfl ?_
  refine va_get (D := D) (ci := 8) (v := .int (nI kn9)) (C := "DiscMaker$SystemUse") (T := F_SystemUse) (N := 4) hx hb ht9 in_SystemUse hown hK hP 0 rfl rfl 2 (by decide) (ht9 _ k333) (fun _ h9 => h9) rfl d_SystemUse_close_49 ?_
  refine lv_iconst (v := 1) hx hb d_SystemUse_close_52 (by decide) ?_
  refine lv_iadd hx hb d_SystemUse_close_53 ?_
  refine W.eq (g2 := F0 m 54 ls [.int (nI (kn9 + 1)), .ref z]) (by rw [show (((nI kn9) + 1) : Int32) = nI (kn9 + 1) from nI_add kn9 1]) ?_
  refine va_put (D := D) (ci := 8) (v := .int (nI (kn9 + 1))) (ty := .int) (C := "DiscMaker$SystemUse") (T := F_SystemUse) (N := 4) hx hb ht9 in_SystemUse t_SystemUse t_SystemUse_ok n_SystemUse hown hK hP hD hS 0 rfl rfl 2 (by decide) (ht9 _ k333) (fun _ h9 => h9) rfl (by decide +kernel) rfl rfl (Nat.le_of_ble_eq_true rfl) d_SystemUse_close_54 (fun H locs hP hD hS => ?_)
  have hP : va_P D CL [(z, .inr (8, [.ref zb, .ref ze, .int (nI (kn9 + 1)), .int kx2])), (ze, .inl (cI, 4, .inl e46)), (zb, .inr (1, [.ref zr, .int (nI L)])), (zr, .inl (cB, 400, .inl g_11))] H := hP
  have hD : va_D A [(z, .inr (8, [.ref zb, .ref ze, .int (nI (kn9 + 1)), .int kx2])), (ze, .inl (cI, 4, .inl e46)), (zb, .inr (1, [.ref zr, .int (nI L)])), (zr, .inl (cB, 400, .inl g_11))] := hD
  have hP9 := hP.sub (ws' := [(z, .inr (8, [.ref zb, .ref ze, .int (nI (kn9 + 1)), .int kx2])), (zb, .inr (1, [.ref zr, .int (nI L)])), (zr, .inl (cB, 400, .inl g_11)), (ze, .inl (cI, 4, .inl e46))]) [0, 2, 3, 1] rfl
  have hD9 := hD.sub (ws' := [(z, .inr (8, [.ref zb, .ref ze, .int (nI (kn9 + 1)), .int kx2])), (zb, .inr (1, [.ref zr, .int (nI L)])), (zr, .inl (cB, 400, .inl g_11)), (ze, .inl (cI, 4, .inl e46))]) [0, 2, 3, 1] (by decide) rfl
  exact W.vret hx hb hr (fun t ht hW => ⟨⟨(g_11, e46), rfl, trivial, by rw [ht]; exact hP9, hD9⟩, hS.F ht⟩) hS.2.2 d_SystemUse_close_57

theorem d_SystemUse_addRootsMark_0 : decode b_SystemUse_addRootsMark 0 = .ok (.aload_n 0, 1) := by decide +kernel
theorem d_SystemUse_addRootsMark_1 : decode b_SystemUse_addRootsMark 1 = .ok (.sipush 21328, 3) := by decide +kernel
theorem d_SystemUse_addRootsMark_4 : decode b_SystemUse_addRootsMark 4 = .ok (.bipush 7, 2) := by decide +kernel
theorem d_SystemUse_addRootsMark_6 : decode b_SystemUse_addRootsMark 6 = .ok (.invokevirtual 37, 3) := by decide +kernel
theorem d_SystemUse_addRootsMark_9 : decode b_SystemUse_addRootsMark 9 = .ok (.istore_n 1, 1) := by decide +kernel
theorem d_SystemUse_addRootsMark_10 : decode b_SystemUse_addRootsMark 10 = .ok (.aload_n 0, 1) := by decide +kernel
theorem d_SystemUse_addRootsMark_11 : decode b_SystemUse_addRootsMark 11 = .ok (.getfield 16, 3) := by decide +kernel
theorem d_SystemUse_addRootsMark_14 : decode b_SystemUse_addRootsMark 14 = .ok (.iload_n 1, 1) := by decide +kernel
theorem d_SystemUse_addRootsMark_15 : decode b_SystemUse_addRootsMark 15 = .ok (.iconst 4, 1) := by decide +kernel
theorem d_SystemUse_addRootsMark_16 : decode b_SystemUse_addRootsMark 16 = .ok (.iadd, 1) := by decide +kernel
theorem d_SystemUse_addRootsMark_17 : decode b_SystemUse_addRootsMark 17 = .ok (.sipush 190, 3) := by decide +kernel
theorem d_SystemUse_addRootsMark_20 : decode b_SystemUse_addRootsMark 20 = .ok (.invokevirtual 41, 3) := by decide +kernel
theorem d_SystemUse_addRootsMark_23 : decode b_SystemUse_addRootsMark 23 = .ok (.aload_n 0, 1) := by decide +kernel
theorem d_SystemUse_addRootsMark_24 : decode b_SystemUse_addRootsMark 24 = .ok (.getfield 16, 3) := by decide +kernel
theorem d_SystemUse_addRootsMark_27 : decode b_SystemUse_addRootsMark 27 = .ok (.iload_n 1, 1) := by decide +kernel
theorem d_SystemUse_addRootsMark_28 : decode b_SystemUse_addRootsMark 28 = .ok (.iconst 5, 1) := by decide +kernel
theorem d_SystemUse_addRootsMark_29 : decode b_SystemUse_addRootsMark 29 = .ok (.iadd, 1) := by decide +kernel
theorem d_SystemUse_addRootsMark_30 : decode b_SystemUse_addRootsMark 30 = .ok (.sipush 239, 3) := by decide +kernel
theorem d_SystemUse_addRootsMark_33 : decode b_SystemUse_addRootsMark 33 = .ok (.invokevirtual 41, 3) := by decide +kernel
theorem d_SystemUse_addRootsMark_36 : decode b_SystemUse_addRootsMark 36 = .ok (.aload_n 0, 1) := by decide +kernel
theorem d_SystemUse_addRootsMark_37 : decode b_SystemUse_addRootsMark 37 = .ok (.iload_n 1, 1) := by decide +kernel
theorem d_SystemUse_addRootsMark_38 : decode b_SystemUse_addRootsMark 38 = .ok (.invokevirtual 45, 3) := by decide +kernel
theorem d_SystemUse_addRootsMark_41 : decode b_SystemUse_addRootsMark 41 = .ok (.return_, 1) := by decide +kernel
set_option maxHeartbeats 4000000 in
set_option maxRecDepth 100000 in
theorem c_addRootsMark (l : Launch) (D : va_G) (cB cI cJ cZ cN cF : ClassId) (sz : Nat) (z zb zr ze : Nat) (fz fe : Nat → Int32) (kx2 : Int32) : Met l y_SystemUse_addRootsMark w_SystemUse_addRootsMark ({ frames := 2, cells := 0, slots := 0, locals := 46 }) (va_Pc [.ref z] (fun U => U.heap.size = sz ∧ va_P D CL [(z, .inr (8, [.ref zb, .ref ze, .int 0, .int kx2])), (zb, .inr (1, [.ref zr, .int 0])), (zr, .inl (cB, 400, .inl fz)), (ze, .inl (cI, 4, .inl fe))] U.heap ∧ va_K D CL (TY cB cI cJ cZ cN cF) U ∧ NN U ∧ va_D (fun _ => True) [(z, .inr (8, [.ref zb, .ref ze, .int 0, .int kx2])), (zb, .inr (1, [.ref zr, .int 0])), (zr, .inl (cB, 400, .inl fz)), (ze, .inl (cI, 4, .inl fe))])) (va_Qv (fun (u : (Nat → Int32) × (Nat → Int32)) => True) (fun (u : (Nat → Int32) × (Nat → Int32)) (t : State) => match u with | (g, e9) => va_P D CL [(z, .inr (8, [.ref zb, .ref ze, .int 1, .int kx2])), (zb, .inr (1, [.ref zr, .int 7])), (zr, .inl (cB, 400, .inl g)), (ze, .inl (cI, 4, .inl e9))] t.heap ∧ va_D (va_A [(z, .inr (8, [.ref zb, .ref ze, .int 0, .int kx2])), (zb, .inr (1, [.ref zr, .int 0])), (zr, .inl (cB, 400, .inl fz)), (ze, .inl (cI, 4, .inl fe))] sz) [(z, .inr (8, [.ref zb, .ref ze, .int 1, .int kx2])), (zb, .inr (1, [.ref zr, .int 7])), (zr, .inl (cB, 400, .inl g)), (ze, .inl (cI, 4, .inl e9))]) (va_A [(z, .inr (8, [.ref zb, .ref ze, .int 0, .int kx2])), (zb, .inr (1, [.ref zr, .int 0])), (zr, .inl (cB, 400, .inl fz)), (ze, .inl (cI, 4, .inl fe))] sz)) 0 0 (va_A [(z, .inr (8, [.ref zb, .ref ze, .int 0, .int kx2])), (zb, .inr (1, [.ref zr, .int 0])), (zr, .inl (cB, 400, .inl fz)), (ze, .inl (cI, 4, .inl fe))] sz) := by
  refine Met.ofW (cc := b_SystemUse_addRootsMark) (maxL := 2) (ret := none) (by decide) rfl ?_
  intro p e s m args below meth c s₁ B hml hv
  obtain ⟨rfl, hsz, hP, hK, hN, hD0⟩ := hv
  have hx := B.exec
  have hb := B.bytes
  have hr := B.returns
  have hts := atoms_spec (ws := w_SystemUse_addRootsMark) B.pre
  have ht9 := fun (w : Cond) (h : w ∈ lw_g) => hts w (List.mem_cons_of_mem _ h)
  have hown : s.vm.findClass "DiscMaker$SystemUse" = some m.cls := findClass_of_methodNamed B.named
  have hlocks := B.notSynchronized
  subst hsz
  have hD := hD0.self (sz := s.heap.size)
  generalize hAe : va_A [(z, .inr (8, [.ref zb, .ref ze, .int 0, .int kx2])), (zb, .inr (1, [.ref zr, .int 0])), (zr, .inl (cB, 400, .inl fz)), (ze, .inl (cI, 4, .inl fe))] s.heap.size = A at hD ⊢
  have hA : ∀ q : Nat, s.heap.size ≤ q → A q := fun q h => by rw [← hAe]; exact Or.inr h
  have hS : va_S A s.heap s.heap [] := va_S.rf
  have hP : va_P D CL [(z, .inr (8, [.ref zb, .ref ze, .int 0, .int kx2])), (zb, .inr (1, [.ref zr, .int 0])), (zr, .inl (cB, 400, .inl fz)), (ze, .inl (cI, 4, .inl fe))] s.heap := hP
  have hl := lv_entry [.ref z] (n := 2) (Nat.le_of_ble_eq_true rfl)
  rw [lg_entry_eq]
  generalize (lg_sl [.ref z] ++ List.replicate (2 - (lg_sl [.ref z]).length) Slot.unset).toArray = ls at hl ⊢
  have hl : lv_has ls 2 [(0, .ref z)] := hl
  refine lv_aload_n hx hb d_SystemUse_addRootsMark_0 rfl (lv_at hl 0 rfl) ?_
  refine lv_sipush (v := 21328) hx hb d_SystemUse_addRootsMark_1 (by decide) ?_
  refine lv_bipush (v := 7) hx hb d_SystemUse_addRootsMark_4 (by decide) ?_
  have hPc := hP.sub (ws' := [(z, .inr (8, [.ref zb, .ref ze, .int 0, .int kx2])), (zb, .inr (1, [.ref zr, .int (nI 0)])), (zr, .inl (cB, 400, .inl fz)), (ze, .inl (cI, 4, .inl fe))]) [0, 1, 2, 3] rfl
  have hDc := hD.sub (ws' := [(z, .inr (8, [.ref zb, .ref ze, .int 0, .int kx2])), (zb, .inr (1, [.ref zr, .int (nI 0)])), (zr, .inl (cB, 400, .inl fz)), (ze, .inl (cI, 4, .inl fe))]) [0, 1, 2, 3] (by decide) rfl
  have hFc := va_free (wc := [(z, .inr (8, [.ref zb, .ref ze, .int 0, .int kx2])), (zb, .inr (1, [.ref zr, .int (nI 0)])), (zr, .inl (cB, 400, .inl fz)), (ze, .inl (cI, 4, .inl fe))]) hD hS hA [0, 1, 2, 3] rfl
  have hkc : 0 ≤ 0 := by decide
  have hks : 0 ≤ 0 := by decide
  refine va_calli (va_runV (C := "DiscMaker$SystemUse") (As := [.int 21328, .int 7]) (rest := []) ⟨hx, hb, hml, hown, hts⟩ (c_uopen l D cB cI cJ cZ cN cF s.heap.size z zb zr ze fz fe 0 7 0 kx2 21328 (by decide)) (cwV 2 hts (lg_goodV k903 k905 k9 k122 kc_SystemUse_open) rfl rfl rfl (by decide +kernel) ⟨Nat.le_of_ble_eq_true rfl, Nat.le_of_ble_eq_true rfl⟩) ⟨fun a U g mk q => by obtain ⟨q0, q1, qP, qK, qN, qD⟩ := q; exact ⟨q0, q1, qP, va_K.moved (u := U) (U := U.calling g mk a) (Vm.Alike.refl U.vm) qK, qN.calling, qD⟩, va_recv hK hP (ci := 8) (q0 := 0) rfl rfl, fun U hU hW => ⟨rfl, by rw [hU], by rw [hU]; exact hPc, va_K.moved hW.alike hK, NN.warm hW hN, hDc.weaken (fun _ _ _ _ => trivial)⟩⟩ rfl rfl hl.1 rfl (lv_room (Nat.le_of_ble_eq_true rfl)) d_SystemUse_addRootsMark_6 ⟨hkc, hks⟩) hS (fun q _ h => hFc q h) hFc (fun r6 u t H1 locs ht hvm hp_6 hB hz1 hk1 hS => ?_)
  obtain ⟨g6, rfl⟩ : ∃ z, z = u := ⟨_, rfl⟩
  obtain ⟨hP1, hD1⟩ := hB
  rw [ht] at hP1
  try dsimp only at hp_6
  obtain ⟨hP, hD⟩ := va_join (wr := []) (w1 := [(z, .inr (8, [.ref zb, .ref ze, .int 0, .int kx2])), (zb, .inr (1, [.ref zr, .int (nI (0 + 7))])), (zr, .inl (cB, 400, .inl g6)), (ze, .inl (cI, 4, .inl fe))]) hP hD [0, 1, 2, 3] [] rfl rfl (by decide) (by decide) hk1 hFc hP1 hD1
  clear hPc hDc hFc hP1 hD1 hk1 hz1
  generalize H1 = H at hP hS ⊢
  have hP : va_P D CL [(z, .inr (8, [.ref zb, .ref ze, .int 0, .int kx2])), (zb, .inr (1, [.ref zr, .int (nI (0 + 7))])), (zr, .inl (cB, 400, .inl g6)), (ze, .inl (cI, 4, .inl fe))] H := hP
  have hD : va_D A [(z, .inr (8, [.ref zb, .ref ze, .int 0, .int kx2])), (zb, .inr (1, [.ref zr, .int (nI (0 + 7))])), (zr, .inl (cB, 400, .inl g6)), (ze, .inl (cI, 4, .inl fe))] := hD
  refine lv_istore_n hx hb d_SystemUse_addRootsMark_9 rfl hl (by decide) rfl (fun ls hl => ?_)
  have hl : lv_has ls 2 [(1, .int r6), (0, .ref z)] := hl
  refine lv_aload_n hx hb d_SystemUse_addRootsMark_10 rfl (lv_at hl 1 rfl) ?_
  refine va_get (D := D) (ci := 8) (v := .ref zb) (C := "DiscMaker$SystemUse") (T := F_SystemUse) (N := 4) hx hb ht9 in_SystemUse hown hK hP 0 rfl rfl 0 (by decide) (ht9 _ k330) (fun _ h9 => h9) rfl d_SystemUse_addRootsMark_11 ?_
  refine lv_iload_n hx hb d_SystemUse_addRootsMark_14 rfl (lv_at hl 0 rfl) ?_
  refine lv_iconst (v := 4) hx hb d_SystemUse_addRootsMark_15 (by decide) ?_
  refine lv_iadd hx hb d_SystemUse_addRootsMark_16 ?_
  refine lv_sipush (v := 190) hx hb d_SystemUse_addRootsMark_17 (by decide) ?_
  have hPc := hP.sub (ws' := [(zb, .inr (1, [.ref zr, .int (nI 7)])), (zr, .inl (cB, 400, .inl g6))]) [1, 2] rfl
  have hDc := hD.sub (ws' := [(zb, .inr (1, [.ref zr, .int (nI 7)])), (zr, .inl (cB, 400, .inl g6))]) [1, 2] (by decide) rfl
  have hFc := va_free (wc := [(zb, .inr (1, [.ref zr, .int (nI 7)])), (zr, .inl (cB, 400, .inl g6))]) hD hS hA [1, 2] rfl
  have hkc : 0 ≤ 0 := by decide
  have hks : 0 ≤ 0 := by decide
  refine va_callv (va_runV (C := "DiscMaker$Bytes") (As := [.int (r6 + 4), .int 190]) (rest := []) ⟨hx, hb, hml, hown, hts⟩ (c_put l D cB cI cJ cZ cN cF H.size zb zr 7 400 g6 (r6 + 4) 190 (by decide) (by decide)) (cwV 2 hts (lg_goodV k911 k912 k913 k119 kc_Bytes_put) rfl rfl rfl (by decide +kernel) ⟨Nat.le_of_ble_eq_true rfl, Nat.le_of_ble_eq_true rfl⟩) ⟨fun a U g mk q => by obtain ⟨q0, q1, qP, qK, qN, qD⟩ := q; exact ⟨q0, q1, qP, va_K.moved (u := U) (U := U.calling g mk a) (Vm.Alike.refl U.vm) qK, qN.calling, qD⟩, va_recv hK hP (ci := 1) (q0 := 1) rfl rfl, fun U hU hW => ⟨rfl, by rw [hU], by rw [hU]; exact hPc, va_K.moved hW.alike hK, NN.warm hW hN, hDc.weaken (fun _ _ _ _ => trivial)⟩⟩ rfl rfl hl.1 rfl (lv_room (Nat.le_of_ble_eq_true rfl)) d_SystemUse_addRootsMark_20 ⟨hkc, hks⟩) hS (fun q _ h => hFc q h) hFc (fun u t H1 locs ht hvm hp_20 hB hz1 hk1 hS => ?_)
  obtain ⟨g_12, rfl⟩ : ∃ z, z = u := ⟨_, rfl⟩
  obtain ⟨hP1, hD1⟩ := hB
  rw [ht] at hP1
  obtain ⟨hP, hD⟩ := va_join (wr := [(z, .inr (8, [.ref zb, .ref ze, .int 0, .int kx2])), (ze, .inl (cI, 4, .inl fe))]) (w1 := [(zb, .inr (1, [.ref zr, .int (nI 7)])), (zr, .inl (cB, 400, .inl g_12))]) hP hD [1, 2] [0, 3] rfl rfl (by decide) (by decide) hk1 hFc hP1 hD1
  clear hPc hDc hFc hP1 hD1 hk1 hz1
  generalize H1 = H at hP hS ⊢
  have hP : va_P D CL [(z, .inr (8, [.ref zb, .ref ze, .int 0, .int kx2])), (ze, .inl (cI, 4, .inl fe)), (zb, .inr (1, [.ref zr, .int (nI 7)])), (zr, .inl (cB, 400, .inl g_12))] H := hP
  have hD : va_D A [(z, .inr (8, [.ref zb, .ref ze, .int 0, .int kx2])), (ze, .inl (cI, 4, .inl fe)), (zb, .inr (1, [.ref zr, .int (nI 7)])), (zr, .inl (cB, 400, .inl g_12))] := hD
  refine lv_aload_n hx hb d_SystemUse_addRootsMark_23 rfl (lv_at hl 1 rfl) ?_
  refine va_get (D := D) (ci := 8) (v := .ref zb) (C := "DiscMaker$SystemUse") (T := F_SystemUse) (N := 4) hx hb ht9 in_SystemUse hown hK hP 0 rfl rfl 0 (by decide) (ht9 _ k330) (fun _ h9 => h9) rfl d_SystemUse_addRootsMark_24 ?_
  refine lv_iload_n hx hb d_SystemUse_addRootsMark_27 rfl (lv_at hl 0 rfl) ?_
  refine lv_iconst (v := 5) hx hb d_SystemUse_addRootsMark_28 (by decide) ?_
  refine lv_iadd hx hb d_SystemUse_addRootsMark_29 ?_
  refine lv_sipush (v := 239) hx hb d_SystemUse_addRootsMark_30 (by decide) ?_
  have hPc := hP.sub (ws' := [(zb, .inr (1, [.ref zr, .int (nI 7)])), (zr, .inl (cB, 400, .inl g_12))]) [2, 3] rfl
  have hDc := hD.sub (ws' := [(zb, .inr (1, [.ref zr, .int (nI 7)])), (zr, .inl (cB, 400, .inl g_12))]) [2, 3] (by decide) rfl
  have hFc := va_free (wc := [(zb, .inr (1, [.ref zr, .int (nI 7)])), (zr, .inl (cB, 400, .inl g_12))]) hD hS hA [2, 3] rfl
  have hkc : 0 ≤ 0 := by decide
  have hks : 0 ≤ 0 := by decide
  refine va_callv (va_runV (C := "DiscMaker$Bytes") (As := [.int (r6 + 5), .int 239]) (rest := []) ⟨hx, hb, hml, hown, hts⟩ (c_put l D cB cI cJ cZ cN cF H.size zb zr 7 400 g_12 (r6 + 5) 239 (by decide) (by decide)) (cwV 2 hts (lg_goodV k911 k912 k913 k119 kc_Bytes_put) rfl rfl rfl (by decide +kernel) ⟨Nat.le_of_ble_eq_true rfl, Nat.le_of_ble_eq_true rfl⟩) ⟨fun a U g mk q => by obtain ⟨q0, q1, qP, qK, qN, qD⟩ := q; exact ⟨q0, q1, qP, va_K.moved (u := U) (U := U.calling g mk a) (Vm.Alike.refl U.vm) qK, qN.calling, qD⟩, va_recv hK hP (ci := 1) (q0 := 2) rfl rfl, fun U hU hW => ⟨rfl, by rw [hU], by rw [hU]; exact hPc, va_K.moved hW.alike hK, NN.warm hW hN, hDc.weaken (fun _ _ _ _ => trivial)⟩⟩ rfl rfl hl.1 rfl (lv_room (Nat.le_of_ble_eq_true rfl)) d_SystemUse_addRootsMark_33 ⟨hkc, hks⟩) hS (fun q _ h => hFc q h) hFc (fun u t H1 locs ht hvm hp_33 hB hz1 hk1 hS => ?_)
  obtain ⟨g_19, rfl⟩ : ∃ z, z = u := ⟨_, rfl⟩
  obtain ⟨hP1, hD1⟩ := hB
  rw [ht] at hP1
  obtain ⟨hP, hD⟩ := va_join (wr := [(z, .inr (8, [.ref zb, .ref ze, .int 0, .int kx2])), (ze, .inl (cI, 4, .inl fe))]) (w1 := [(zb, .inr (1, [.ref zr, .int (nI 7)])), (zr, .inl (cB, 400, .inl g_19))]) hP hD [2, 3] [0, 1] rfl rfl (by decide) (by decide) hk1 hFc hP1 hD1
  clear hPc hDc hFc hP1 hD1 hk1 hz1
  generalize H1 = H at hP hS ⊢
  have hP : va_P D CL [(z, .inr (8, [.ref zb, .ref ze, .int 0, .int kx2])), (ze, .inl (cI, 4, .inl fe)), (zb, .inr (1, [.ref zr, .int (nI 7)])), (zr, .inl (cB, 400, .inl g_19))] H := hP
  have hD : va_D A [(z, .inr (8, [.ref zb, .ref ze, .int 0, .int kx2])), (ze, .inl (cI, 4, .inl fe)), (zb, .inr (1, [.ref zr, .int (nI 7)])), (zr, .inl (cB, 400, .inl g_19))] := hD
  refine lv_aload_n hx hb d_SystemUse_addRootsMark_36 rfl (lv_at hl 1 rfl) ?_
  refine lv_iload_n hx hb d_SystemUse_addRootsMark_37 rfl (lv_at hl 0 rfl) ?_
  have hPc := hP.sub (ws' := [(z, .inr (8, [.ref zb, .ref ze, .int (nI 0), .int kx2])), (zb, .inr (1, [.ref zr, .int (nI 7)])), (zr, .inl (cB, 400, .inl g_19)), (ze, .inl (cI, 4, .inl fe))]) [0, 2, 3, 1] rfl
  have hDc := hD.sub (ws' := [(z, .inr (8, [.ref zb, .ref ze, .int (nI 0), .int kx2])), (zb, .inr (1, [.ref zr, .int (nI 7)])), (zr, .inl (cB, 400, .inl g_19)), (ze, .inl (cI, 4, .inl fe))]) [0, 2, 3, 1] (by decide) rfl
  have hFc := va_free (wc := [(z, .inr (8, [.ref zb, .ref ze, .int (nI 0), .int kx2])), (zb, .inr (1, [.ref zr, .int (nI 7)])), (zr, .inl (cB, 400, .inl g_19)), (ze, .inl (cI, 4, .inl fe))]) hD hS hA [0, 2, 3, 1] rfl
  have hkc : 0 ≤ 0 := by decide
  have hks : 0 ≤ 0 := by decide
  refine va_callv (va_runV (C := "DiscMaker$SystemUse") (As := [.int r6]) (rest := []) ⟨hx, hb, hml, hown, hts⟩ (c_uclose l D cB cI cJ cZ cN cF H.size z zb zr ze g_19 fe 7 0 kx2 r6 (by decide) (by decide)) (cwV 1 hts (lg_goodV k922 k924 k11 k122 kc_SystemUse_close) rfl rfl rfl (by decide +kernel) ⟨Nat.le_of_ble_eq_true rfl, Nat.le_of_ble_eq_true rfl⟩) ⟨fun a U g mk q => by obtain ⟨q0, q1, qP, qK, qN, qD⟩ := q; exact ⟨q0, q1, qP, va_K.moved (u := U) (U := U.calling g mk a) (Vm.Alike.refl U.vm) qK, qN.calling, qD⟩, va_recv hK hP (ci := 8) (q0 := 0) rfl rfl, fun U hU hW => ⟨rfl, by rw [hU], by rw [hU]; exact hPc, va_K.moved hW.alike hK, NN.warm hW hN, hDc.weaken (fun _ _ _ _ => trivial)⟩⟩ rfl rfl hl.1 rfl (lv_room (Nat.le_of_ble_eq_true rfl)) d_SystemUse_addRootsMark_38 ⟨hkc, hks⟩) hS (fun q _ h => hFc q h) hFc (fun u t H1 locs ht hvm hp_38 hB hz1 hk1 hS => ?_)
  obtain ⟨g38, e38⟩ := u
  obtain ⟨hP1, hD1⟩ := hB
  rw [ht] at hP1
  obtain ⟨hP, hD⟩ := va_join (wr := []) (w1 := [(z, .inr (8, [.ref zb, .ref ze, .int (nI (0 + 1)), .int kx2])), (zb, .inr (1, [.ref zr, .int (nI 7)])), (zr, .inl (cB, 400, .inl g38)), (ze, .inl (cI, 4, .inl e38))]) hP hD [0, 2, 3, 1] [] rfl rfl (by decide) (by decide) hk1 hFc hP1 hD1
  clear hPc hDc hFc hP1 hD1 hk1 hz1
  generalize H1 = H at hP hS ⊢
  have hP : va_P D CL [(z, .inr (8, [.ref zb, .ref ze, .int (nI (0 + 1)), .int kx2])), (zb, .inr (1, [.ref zr, .int (nI 7)])), (zr, .inl (cB, 400, .inl g38)), (ze, .inl (cI, 4, .inl e38))] H := hP
  have hD : va_D A [(z, .inr (8, [.ref zb, .ref ze, .int (nI (0 + 1)), .int kx2])), (zb, .inr (1, [.ref zr, .int (nI 7)])), (zr, .inl (cB, 400, .inl g38)), (ze, .inl (cI, 4, .inl e38))] := hD
  have hP9 := hP.sub (ws' := [(z, .inr (8, [.ref zb, .ref ze, .int (nI (0 + 1)), .int kx2])), (zb, .inr (1, [.ref zr, .int (nI 7)])), (zr, .inl (cB, 400, .inl g38)), (ze, .inl (cI, 4, .inl e38))]) [0, 1, 2, 3] rfl
  have hD9 := hD.sub (ws' := [(z, .inr (8, [.ref zb, .ref ze, .int (nI (0 + 1)), .int kx2])), (zb, .inr (1, [.ref zr, .int (nI 7)])), (zr, .inl (cB, 400, .inl g38)), (ze, .inl (cI, 4, .inl e38))]) [0, 1, 2, 3] (by decide) rfl
  exact W.vret hx hb hr (fun t ht hW => ⟨⟨(g38, e38), rfl, trivial, by rw [ht]; exact hP9, hD9⟩, hS.F ht⟩) hS.2.2 d_SystemUse_addRootsMark_41

theorem d_SystemUse_addOwnership_0 : decode b_SystemUse_addOwnership 0 = .ok (.aload_n 0, 1) := by decide +kernel
theorem d_SystemUse_addOwnership_1 : decode b_SystemUse_addOwnership 1 = .ok (.sipush 20568, 3) := by decide +kernel
theorem d_SystemUse_addOwnership_4 : decode b_SystemUse_addOwnership 4 = .ok (.bipush 36, 2) := by decide +kernel
theorem d_SystemUse_addOwnership_6 : decode b_SystemUse_addOwnership 6 = .ok (.invokevirtual 37, 3) := by decide +kernel
theorem d_SystemUse_addOwnership_9 : decode b_SystemUse_addOwnership 9 = .ok (.istore_n 3, 1) := by decide +kernel
theorem d_SystemUse_addOwnership_10 : decode b_SystemUse_addOwnership 10 = .ok (.aload_n 0, 1) := by decide +kernel
theorem d_SystemUse_addOwnership_11 : decode b_SystemUse_addOwnership 11 = .ok (.getfield 16, 3) := by decide +kernel
theorem d_SystemUse_addOwnership_14 : decode b_SystemUse_addOwnership 14 = .ok (.iload_n 3, 1) := by decide +kernel
theorem d_SystemUse_addOwnership_15 : decode b_SystemUse_addOwnership 15 = .ok (.iconst 4, 1) := by decide +kernel
theorem d_SystemUse_addOwnership_16 : decode b_SystemUse_addOwnership 16 = .ok (.iadd, 1) := by decide +kernel
theorem d_SystemUse_addOwnership_17 : decode b_SystemUse_addOwnership 17 = .ok (.aload_n 1, 1) := by decide +kernel
theorem d_SystemUse_addOwnership_18 : decode b_SystemUse_addOwnership 18 = .ok (.getfield 48, 3) := by decide +kernel
theorem d_SystemUse_addOwnership_21 : decode b_SystemUse_addOwnership 21 = .ok (.invokestatic 53, 3) := by decide +kernel
theorem d_SystemUse_addOwnership_24 : decode b_SystemUse_addOwnership 24 = .ok (.aload_n 1, 1) := by decide +kernel
theorem d_SystemUse_addOwnership_25 : decode b_SystemUse_addOwnership 25 = .ok (.getfield 57, 3) := by decide +kernel
theorem d_SystemUse_addOwnership_28 : decode b_SystemUse_addOwnership 28 = .ok (.sipush 4096, 3) := by decide +kernel
theorem d_SystemUse_addOwnership_31 : decode b_SystemUse_addOwnership 31 = .ok (.irem, 1) := by decide +kernel
theorem d_SystemUse_addOwnership_32 : decode b_SystemUse_addOwnership 32 = .ok (.iadd, 1) := by decide +kernel
theorem d_SystemUse_addOwnership_33 : decode b_SystemUse_addOwnership 33 = .ok (.iconst 4, 1) := by decide +kernel
theorem d_SystemUse_addOwnership_34 : decode b_SystemUse_addOwnership 34 = .ok (.invokevirtual 60, 3) := by decide +kernel
theorem d_SystemUse_addOwnership_37 : decode b_SystemUse_addOwnership 37 = .ok (.aload_n 0, 1) := by decide +kernel
theorem d_SystemUse_addOwnership_38 : decode b_SystemUse_addOwnership 38 = .ok (.getfield 16, 3) := by decide +kernel
theorem d_SystemUse_addOwnership_41 : decode b_SystemUse_addOwnership 41 = .ok (.iload_n 3, 1) := by decide +kernel
theorem d_SystemUse_addOwnership_42 : decode b_SystemUse_addOwnership 42 = .ok (.bipush 12, 2) := by decide +kernel
theorem d_SystemUse_addOwnership_44 : decode b_SystemUse_addOwnership 44 = .ok (.iadd, 1) := by decide +kernel
theorem d_SystemUse_addOwnership_45 : decode b_SystemUse_addOwnership 45 = .ok (.iload_n 2, 1) := by decide +kernel
theorem d_SystemUse_addOwnership_46 : decode b_SystemUse_addOwnership 46 = .ok (.iconst 4, 1) := by decide +kernel
theorem d_SystemUse_addOwnership_47 : decode b_SystemUse_addOwnership 47 = .ok (.invokevirtual 60, 3) := by decide +kernel
theorem d_SystemUse_addOwnership_50 : decode b_SystemUse_addOwnership 50 = .ok (.aload_n 0, 1) := by decide +kernel
theorem d_SystemUse_addOwnership_51 : decode b_SystemUse_addOwnership 51 = .ok (.getfield 16, 3) := by decide +kernel
theorem d_SystemUse_addOwnership_54 : decode b_SystemUse_addOwnership 54 = .ok (.iload_n 3, 1) := by decide +kernel
theorem d_SystemUse_addOwnership_55 : decode b_SystemUse_addOwnership 55 = .ok (.bipush 20, 2) := by decide +kernel
theorem d_SystemUse_addOwnership_57 : decode b_SystemUse_addOwnership 57 = .ok (.iadd, 1) := by decide +kernel
theorem d_SystemUse_addOwnership_58 : decode b_SystemUse_addOwnership 58 = .ok (.aload_n 1, 1) := by decide +kernel
theorem d_SystemUse_addOwnership_59 : decode b_SystemUse_addOwnership 59 = .ok (.getfield 64, 3) := by decide +kernel
theorem d_SystemUse_addOwnership_62 : decode b_SystemUse_addOwnership 62 = .ok (.iconst 4, 1) := by decide +kernel
theorem d_SystemUse_addOwnership_63 : decode b_SystemUse_addOwnership 63 = .ok (.invokevirtual 60, 3) := by decide +kernel
theorem d_SystemUse_addOwnership_66 : decode b_SystemUse_addOwnership 66 = .ok (.aload_n 0, 1) := by decide +kernel
theorem d_SystemUse_addOwnership_67 : decode b_SystemUse_addOwnership 67 = .ok (.getfield 16, 3) := by decide +kernel
theorem d_SystemUse_addOwnership_70 : decode b_SystemUse_addOwnership 70 = .ok (.iload_n 3, 1) := by decide +kernel
theorem d_SystemUse_addOwnership_71 : decode b_SystemUse_addOwnership 71 = .ok (.bipush 28, 2) := by decide +kernel
theorem d_SystemUse_addOwnership_73 : decode b_SystemUse_addOwnership 73 = .ok (.iadd, 1) := by decide +kernel
theorem d_SystemUse_addOwnership_74 : decode b_SystemUse_addOwnership 74 = .ok (.aload_n 1, 1) := by decide +kernel
theorem d_SystemUse_addOwnership_75 : decode b_SystemUse_addOwnership 75 = .ok (.getfield 67, 3) := by decide +kernel
theorem d_SystemUse_addOwnership_78 : decode b_SystemUse_addOwnership 78 = .ok (.iconst 4, 1) := by decide +kernel
theorem d_SystemUse_addOwnership_79 : decode b_SystemUse_addOwnership 79 = .ok (.invokevirtual 60, 3) := by decide +kernel
theorem d_SystemUse_addOwnership_82 : decode b_SystemUse_addOwnership 82 = .ok (.aload_n 0, 1) := by decide +kernel
theorem d_SystemUse_addOwnership_83 : decode b_SystemUse_addOwnership 83 = .ok (.iload_n 3, 1) := by decide +kernel
theorem d_SystemUse_addOwnership_84 : decode b_SystemUse_addOwnership 84 = .ok (.invokevirtual 45, 3) := by decide +kernel
theorem d_SystemUse_addOwnership_87 : decode b_SystemUse_addOwnership 87 = .ok (.return_, 1) := by decide +kernel
set_option maxHeartbeats 4000000 in
set_option maxRecDepth 100000 in
theorem c_addOwnership (l : Launch) (D : va_G) (cB cI cJ cZ cN cF : ClassId) (sz : Nat) (z zb zr ze : Nat) (fz fe : Nat → Int32) (L kn9 : Nat) (qn qm qk qt : Nat) (kx2 v : Int32) (hL : L + 36 ≤ 400) (hkn9 : kn9 < 4) : Met l y_SystemUse_addOwnership w_SystemUse_addOwnership ({ frames := 2, cells := 0, slots := 0, locals := 46 }) (va_Pc [.ref z, .ref qn, .int v] (fun U => U.heap.size = sz ∧ va_P D CL [(z, .inr (8, [.ref zb, .ref ze, .int (nI kn9), .int kx2])), (zb, .inr (1, [.ref zr, .int (nI L)])), (zr, .inl (cB, 400, .inl fz)), (ze, .inl (cI, 4, .inl fe)), (qn, .inr (5, [.int 0, .ref qm, .ref qk, .ref qt, .int 0, .int 0, .int 0, .int 16877, .int 0, .int 0, .int 0, .int 0]))] U.heap ∧ va_K D CL (TY cB cI cJ cZ cN cF) U ∧ NN U ∧ va_D (fun _ => True) [(z, .inr (8, [.ref zb, .ref ze, .int (nI kn9), .int kx2])), (zb, .inr (1, [.ref zr, .int (nI L)])), (zr, .inl (cB, 400, .inl fz)), (ze, .inl (cI, 4, .inl fe)), (qn, .inr (5, [.int 0, .ref qm, .ref qk, .ref qt, .int 0, .int 0, .int 0, .int 16877, .int 0, .int 0, .int 0, .int 0]))])) (va_Qv (fun (u : (Nat → Int32) × (Nat → Int32)) => True) (fun (u : (Nat → Int32) × (Nat → Int32)) (t : State) => match u with | (g, e9) => va_P D CL [(z, .inr (8, [.ref zb, .ref ze, .int (nI (kn9 + 1)), .int kx2])), (zb, .inr (1, [.ref zr, .int (nI (L + 36))])), (zr, .inl (cB, 400, .inl g)), (ze, .inl (cI, 4, .inl e9)), (qn, .inr (5, [.int 0, .ref qm, .ref qk, .ref qt, .int 0, .int 0, .int 0, .int 16877, .int 0, .int 0, .int 0, .int 0]))] t.heap ∧ va_D (va_A [(z, .inr (8, [.ref zb, .ref ze, .int (nI kn9), .int kx2])), (zb, .inr (1, [.ref zr, .int (nI L)])), (zr, .inl (cB, 400, .inl fz)), (ze, .inl (cI, 4, .inl fe)), (qn, .inr (5, [.int 0, .ref qm, .ref qk, .ref qt, .int 0, .int 0, .int 0, .int 16877, .int 0, .int 0, .int 0, .int 0]))] sz) [(z, .inr (8, [.ref zb, .ref ze, .int (nI (kn9 + 1)), .int kx2])), (zb, .inr (1, [.ref zr, .int (nI (L + 36))])), (zr, .inl (cB, 400, .inl g)), (ze, .inl (cI, 4, .inl e9)), (qn, .inr (5, [.int 0, .ref qm, .ref qk, .ref qt, .int 0, .int 0, .int 0, .int 16877, .int 0, .int 0, .int 0, .int 0]))]) (va_A [(z, .inr (8, [.ref zb, .ref ze, .int (nI kn9), .int kx2])), (zb, .inr (1, [.ref zr, .int (nI L)])), (zr, .inl (cB, 400, .inl fz)), (ze, .inl (cI, 4, .inl fe)), (qn, .inr (5, [.int 0, .ref qm, .ref qk, .ref qt, .int 0, .int 0, .int 0, .int 16877, .int 0, .int 0, .int 0, .int 0]))] sz)) 0 0 (va_A [(z, .inr (8, [.ref zb, .ref ze, .int (nI kn9), .int kx2])), (zb, .inr (1, [.ref zr, .int (nI L)])), (zr, .inl (cB, 400, .inl fz)), (ze, .inl (cI, 4, .inl fe)), (qn, .inr (5, [.int 0, .ref qm, .ref qk, .ref qt, .int 0, .int 0, .int 0, .int 16877, .int 0, .int 0, .int 0, .int 0]))] sz) := by
  refine Met.ofW (cc := b_SystemUse_addOwnership) (maxL := 4) (ret := none) (by decide) rfl ?_
  intro p e s m args below meth c s₁ B hml hv
  obtain ⟨rfl, hsz, hP, hK, hN, hD0⟩ := hv
  have hx := B.exec
  have hb := B.bytes
  have hr := B.returns
  have hts := atoms_spec (ws := w_SystemUse_addOwnership) B.pre
  have ht9 := fun (w : Cond) (h : w ∈ lw_g) => hts w (List.mem_cons_of_mem _ h)
  have hown : s.vm.findClass "DiscMaker$SystemUse" = some m.cls := findClass_of_methodNamed B.named
  have hlocks := B.notSynchronized
  subst hsz
  have hD := hD0.self (sz := s.heap.size)
  generalize hAe : va_A [(z, .inr (8, [.ref zb, .ref ze, .int (nI kn9), .int kx2])), (zb, .inr (1, [.ref zr, .int (nI L)])), (zr, .inl (cB, 400, .inl fz)), (ze, .inl (cI, 4, .inl fe)), (qn, .inr (5, [.int 0, .ref qm, .ref qk, .ref qt, .int 0, .int 0, .int 0, .int 16877, .int 0, .int 0, .int 0, .int 0]))] s.heap.size = A at hD ⊢
  have hA : ∀ q : Nat, s.heap.size ≤ q → A q := fun q h => by rw [← hAe]; exact Or.inr h
  have hS : va_S A s.heap s.heap [] := va_S.rf
  have hP : va_P D CL [(z, .inr (8, [.ref zb, .ref ze, .int (nI kn9), .int kx2])), (zb, .inr (1, [.ref zr, .int (nI L)])), (zr, .inl (cB, 400, .inl fz)), (ze, .inl (cI, 4, .inl fe)), (qn, .inr (5, [.int 0, .ref qm, .ref qk, .ref qt, .int 0, .int 0, .int 0, .int 16877, .int 0, .int 0, .int 0, .int 0]))] s.heap := hP
  have hl := lv_entry [.ref z, .ref qn, .int v] (n := 4) (Nat.le_of_ble_eq_true rfl)
  rw [lg_entry_eq]
  generalize (lg_sl [.ref z, .ref qn, .int v] ++ List.replicate (4 - (lg_sl [.ref z, .ref qn, .int v]).length) Slot.unset).toArray = ls at hl ⊢
  have hl : lv_has ls 4 [(0, .ref z), (1, .ref qn), (2, .int v)] := hl
  refine lv_aload_n hx hb d_SystemUse_addOwnership_0 rfl (lv_at hl 0 rfl) ?_
  refine lv_sipush (v := 20568) hx hb d_SystemUse_addOwnership_1 (by decide) ?_
  refine lv_bipush (v := 36) hx hb d_SystemUse_addOwnership_4 (by decide) ?_
  have hPc := hP.sub (ws' := [(z, .inr (8, [.ref zb, .ref ze, .int (nI kn9), .int kx2])), (zb, .inr (1, [.ref zr, .int (nI L)])), (zr, .inl (cB, 400, .inl fz)), (ze, .inl (cI, 4, .inl fe))]) [0, 1, 2, 3] rfl
  have hDc := hD.sub (ws' := [(z, .inr (8, [.ref zb, .ref ze, .int (nI kn9), .int kx2])), (zb, .inr (1, [.ref zr, .int (nI L)])), (zr, .inl (cB, 400, .inl fz)), (ze, .inl (cI, 4, .inl fe))]) [0, 1, 2, 3] (by decide) rfl
  have hFc := va_free (wc := [(z, .inr (8, [.ref zb, .ref ze, .int (nI kn9), .int kx2])), (zb, .inr (1, [.ref zr, .int (nI L)])), (zr, .inl (cB, 400, .inl fz)), (ze, .inl (cI, 4, .inl fe))]) hD hS hA [0, 1, 2, 3] rfl
  have hkc : 0 ≤ 0 := by decide
  have hks : 0 ≤ 0 := by decide
  refine va_calli (va_runV (C := "DiscMaker$SystemUse") (As := [.int 20568, .int 36]) (rest := []) ⟨hx, hb, hml, hown, hts⟩ (c_uopen l D cB cI cJ cZ cN cF s.heap.size z zb zr ze fz fe L 36 (nI kn9) kx2 20568 hL) (cwV 2 hts (lg_goodV k903 k905 k9 k122 kc_SystemUse_open) rfl rfl rfl (by decide +kernel) ⟨Nat.le_of_ble_eq_true rfl, Nat.le_of_ble_eq_true rfl⟩) ⟨fun a U g mk q => by obtain ⟨q0, q1, qP, qK, qN, qD⟩ := q; exact ⟨q0, q1, qP, va_K.moved (u := U) (U := U.calling g mk a) (Vm.Alike.refl U.vm) qK, qN.calling, qD⟩, va_recv hK hP (ci := 8) (q0 := 0) rfl rfl, fun U hU hW => ⟨rfl, by rw [hU], by rw [hU]; exact hPc, va_K.moved hW.alike hK, NN.warm hW hN, hDc.weaken (fun _ _ _ _ => trivial)⟩⟩ rfl rfl hl.1 rfl (lv_room (Nat.le_of_ble_eq_true rfl)) d_SystemUse_addOwnership_6 ⟨hkc, hks⟩) hS (fun q _ h => hFc q h) hFc (fun r6 u t H1 locs ht hvm hp_6 hB hz1 hk1 hS => ?_)
  obtain ⟨g6, rfl⟩ : ∃ z, z = u := ⟨_, rfl⟩
  obtain ⟨hP1, hD1⟩ := hB
  rw [ht] at hP1
  try dsimp only at hp_6
  obtain ⟨hP, hD⟩ := va_join (wr := [(qn, .inr (5, [.int 0, .ref qm, .ref qk, .ref qt, .int 0, .int 0, .int 0, .int 16877, .int 0, .int 0, .int 0, .int 0]))]) (w1 := [(z, .inr (8, [.ref zb, .ref ze, .int (nI kn9), .int kx2])), (zb, .inr (1, [.ref zr, .int (nI (L + 36))])), (zr, .inl (cB, 400, .inl g6)), (ze, .inl (cI, 4, .inl fe))]) hP hD [0, 1, 2, 3] [4] rfl rfl (by decide) (by decide) hk1 hFc hP1 hD1
  clear hPc hDc hFc hP1 hD1 hk1 hz1
  generalize H1 = H at hP hS ⊢
  have hP : va_P D CL [(qn, .inr (5, [.int 0, .ref qm, .ref qk, .ref qt, .int 0, .int 0, .int 0, .int 16877, .int 0, .int 0, .int 0, .int 0])), (z, .inr (8, [.ref zb, .ref ze, .int (nI kn9), .int kx2])), (zb, .inr (1, [.ref zr, .int (nI (L + 36))])), (zr, .inl (cB, 400, .inl g6)), (ze, .inl (cI, 4, .inl fe))] H := hP
  have hD : va_D A [(qn, .inr (5, [.int 0, .ref qm, .ref qk, .ref qt, .int 0, .int 0, .int 0, .int 16877, .int 0, .int 0, .int 0, .int 0])), (z, .inr (8, [.ref zb, .ref ze, .int (nI kn9), .int kx2])), (zb, .inr (1, [.ref zr, .int (nI (L + 36))])), (zr, .inl (cB, 400, .inl g6)), (ze, .inl (cI, 4, .inl fe))] := hD
  refine lv_istore_n hx hb d_SystemUse_addOwnership_9 rfl hl (by decide) rfl (fun ls hl => ?_)
  have hl : lv_has ls 4 [(3, .int r6), (0, .ref z), (1, .ref qn), (2, .int v)] := hl
  refine lv_aload_n hx hb d_SystemUse_addOwnership_10 rfl (lv_at hl 1 rfl) ?_
  refine va_get (D := D) (ci := 8) (v := .ref zb) (C := "DiscMaker$SystemUse") (T := F_SystemUse) (N := 4) hx hb ht9 in_SystemUse hown hK hP 1 rfl rfl 0 (by decide) (ht9 _ k330) (fun _ h9 => h9) rfl d_SystemUse_addOwnership_11 ?_
  refine lv_iload_n hx hb d_SystemUse_addOwnership_14 rfl (lv_at hl 0 rfl) ?_
  refine lv_iconst (v := 4) hx hb d_SystemUse_addOwnership_15 (by decide) ?_
  refine lv_iadd hx hb d_SystemUse_addOwnership_16 ?_
  refine lv_aload_n hx hb d_SystemUse_addOwnership_17 rfl (lv_at hl 2 rfl) ?_
  refine va_getN (D := D) (ci := 5) (v := .int 0) (C := "DiscMaker$Node") (T := F_Node) (N := 12) hx hb ht9 in_Node hown hK hP 0 rfl rfl 0 (by decide) (va_Nw.use rfl (hN _ k182)) (fun _ h9 => h9) rfl d_SystemUse_addOwnership_18 ?_
  have hPc := hP.sub (ws' := []) [] rfl
  have hDc := hD.sub (ws' := []) [] (by decide) rfl
  have hFc := va_free (wc := []) hD hS hA [] rfl
  have hkc : 0 ≤ 0 := by decide
  have hks : 0 ≤ 0 := by decide
  refine va_calli (va_runS (As := [.int 0]) (rest := [.int (r6 + 4), .ref zb]) ⟨hx, hb, hml, hown, hts⟩ (c_modeBits0 l D cB cI cJ cZ cN cF H.size) (cwS 1 hts (lg_goodS k1017 k1018 k122 kc_SystemUse_modeBits) rfl rfl rfl (by decide +kernel) ⟨Nat.le_of_ble_eq_true rfl, Nat.le_of_ble_eq_true rfl⟩) ⟨fun a U g mk q => by obtain ⟨q0, q1, qP, qK, qN, qD⟩ := q; exact ⟨q0, q1, qP, va_K.moved (u := U) (U := U.calling g mk a) (Vm.Alike.refl U.vm) qK, qN.calling, qD⟩, fun U hU hW => ⟨rfl, by rw [hU], by rw [hU]; exact hPc, va_K.moved hW.alike hK, NN.warm hW hN, hDc.weaken (fun _ _ _ _ => trivial)⟩⟩ rfl rfl hl.1 rfl (lv_room (Nat.le_of_ble_eq_true rfl)) d_SystemUse_addOwnership_21 ⟨hkc, hks⟩) hS (fun q _ h => hFc q h) hFc (fun r21 u t H1 locs ht hvm hp_21 hB hz1 hk1 hS => ?_)
  obtain ⟨hP1, hD1⟩ := hB
  rw [ht] at hP1
  try dsimp only at hp_21
  obtain ⟨hP, hD⟩ := va_join (wr := [(qn, .inr (5, [.int 0, .ref qm, .ref qk, .ref qt, .int 0, .int 0, .int 0, .int 16877, .int 0, .int 0, .int 0, .int 0])), (z, .inr (8, [.ref zb, .ref ze, .int (nI kn9), .int kx2])), (zb, .inr (1, [.ref zr, .int (nI (L + 36))])), (zr, .inl (cB, 400, .inl g6)), (ze, .inl (cI, 4, .inl fe))]) (w1 := []) hP hD [] [0, 1, 2, 3, 4] rfl rfl (by decide) (by decide) hk1 hFc hP1 hD1
  clear hPc hDc hFc hP1 hD1 hk1 hz1
  generalize H1 = H at hP hS ⊢
  have hP : va_P D CL [(qn, .inr (5, [.int 0, .ref qm, .ref qk, .ref qt, .int 0, .int 0, .int 0, .int 16877, .int 0, .int 0, .int 0, .int 0])), (z, .inr (8, [.ref zb, .ref ze, .int (nI kn9), .int kx2])), (zb, .inr (1, [.ref zr, .int (nI (L + 36))])), (zr, .inl (cB, 400, .inl g6)), (ze, .inl (cI, 4, .inl fe))] H := hP
  have hD : va_D A [(qn, .inr (5, [.int 0, .ref qm, .ref qk, .ref qt, .int 0, .int 0, .int 0, .int 16877, .int 0, .int 0, .int 0, .int 0])), (z, .inr (8, [.ref zb, .ref ze, .int (nI kn9), .int kx2])), (zb, .inr (1, [.ref zr, .int (nI (L + 36))])), (zr, .inl (cB, 400, .inl g6)), (ze, .inl (cI, 4, .inl fe))] := hD
  refine W.eq (g2 := F0 m 24 ls [.int 16384, .int (r6 + 4), .ref zb]) (by rw [show r21 = 16384 from hp_21]) ?_
  refine lv_aload_n hx hb d_SystemUse_addOwnership_24 rfl (lv_at hl 2 rfl) ?_
  refine va_getN (D := D) (ci := 5) (v := .int 16877) (C := "DiscMaker$Node") (T := F_Node) (N := 12) hx hb ht9 in_Node hown hK hP 0 rfl rfl 7 (by decide) (va_Nw.use rfl (hN _ k201)) (fun _ h9 => h9) rfl d_SystemUse_addOwnership_25 ?_
  refine lv_sipush (v := 4096) hx hb d_SystemUse_addOwnership_28 (by decide) ?_
  refine lv_irem hx hb d_SystemUse_addOwnership_31 (by decide) ?_
  refine W.eq (g2 := F0 m 32 ls [.int 493, .int 16384, .int (r6 + 4), .ref zb]) (by rw [show ((16877 - 16877 / 4096 * 4096) : Int32) = 493 from by decide]) ?_
  refine lv_iadd hx hb d_SystemUse_addOwnership_32 ?_
  refine W.eq (g2 := F0 m 33 ls [.int 16877, .int (r6 + 4), .ref zb]) (by rw [show ((16384 + 493) : Int32) = 16877 from by decide]) ?_
  refine lv_iconst (v := 4) hx hb d_SystemUse_addOwnership_33 (by decide) ?_
  have hPc := hP.sub (ws' := [(zb, .inr (1, [.ref zr, .int (nI (L + 36))])), (zr, .inl (cB, 400, .inl g6))]) [2, 3] rfl
  have hDc := hD.sub (ws' := [(zb, .inr (1, [.ref zr, .int (nI (L + 36))])), (zr, .inl (cB, 400, .inl g6))]) [2, 3] (by decide) rfl
  have hFc := va_free (wc := [(zb, .inr (1, [.ref zr, .int (nI (L + 36))])), (zr, .inl (cB, 400, .inl g6))]) hD hS hA [2, 3] rfl
  have hkc : 0 ≤ 0 := by decide
  have hks : 0 ≤ 0 := by decide
  refine va_callv (va_runV (C := "DiscMaker$Bytes") (As := [.int (r6 + 4), .int 16877, .int 4]) (rest := []) ⟨hx, hb, hml, hown, hts⟩ (c_putBoth4 l D cB cI cJ cZ cN cF H.size zb zr (L + 36) 400 g6 (r6 + 4) 16877 hL (by decide)) (cwV 3 hts (lg_goodV k1022 k1023 k1024 k119 kc_Bytes_putBoth) rfl rfl rfl (by decide +kernel) ⟨Nat.le_of_ble_eq_true rfl, Nat.le_of_ble_eq_true rfl⟩) ⟨fun a U g mk q => by obtain ⟨q0, q1, qP, qK, qN, qD⟩ := q; exact ⟨q0, q1, qP, va_K.moved (u := U) (U := U.calling g mk a) (Vm.Alike.refl U.vm) qK, qN.calling, qD⟩, va_recv hK hP (ci := 1) (q0 := 2) rfl rfl, fun U hU hW => ⟨rfl, by rw [hU], by rw [hU]; exact hPc, va_K.moved hW.alike hK, NN.warm hW hN, hDc.weaken (fun _ _ _ _ => trivial)⟩⟩ rfl rfl hl.1 rfl (lv_room (Nat.le_of_ble_eq_true rfl)) d_SystemUse_addOwnership_34 ⟨hkc, hks⟩) hS (fun q _ h => hFc q h) hFc (fun u t H1 locs ht hvm hp_34 hB hz1 hk1 hS => ?_)
  obtain ⟨g_20, rfl⟩ : ∃ z, z = u := ⟨_, rfl⟩
  obtain ⟨hP1, hD1⟩ := hB
  rw [ht] at hP1
  obtain ⟨hP, hD⟩ := va_join (wr := [(qn, .inr (5, [.int 0, .ref qm, .ref qk, .ref qt, .int 0, .int 0, .int 0, .int 16877, .int 0, .int 0, .int 0, .int 0])), (z, .inr (8, [.ref zb, .ref ze, .int (nI kn9), .int kx2])), (ze, .inl (cI, 4, .inl fe))]) (w1 := [(zb, .inr (1, [.ref zr, .int (nI (L + 36))])), (zr, .inl (cB, 400, .inl g_20))]) hP hD [2, 3] [0, 1, 4] rfl rfl (by decide) (by decide) hk1 hFc hP1 hD1
  clear hPc hDc hFc hP1 hD1 hk1 hz1
  generalize H1 = H at hP hS ⊢
  have hP : va_P D CL [(qn, .inr (5, [.int 0, .ref qm, .ref qk, .ref qt, .int 0, .int 0, .int 0, .int 16877, .int 0, .int 0, .int 0, .int 0])), (z, .inr (8, [.ref zb, .ref ze, .int (nI kn9), .int kx2])), (ze, .inl (cI, 4, .inl fe)), (zb, .inr (1, [.ref zr, .int (nI (L + 36))])), (zr, .inl (cB, 400, .inl g_20))] H := hP
  have hD : va_D A [(qn, .inr (5, [.int 0, .ref qm, .ref qk, .ref qt, .int 0, .int 0, .int 0, .int 16877, .int 0, .int 0, .int 0, .int 0])), (z, .inr (8, [.ref zb, .ref ze, .int (nI kn9), .int kx2])), (ze, .inl (cI, 4, .inl fe)), (zb, .inr (1, [.ref zr, .int (nI (L + 36))])), (zr, .inl (cB, 400, .inl g_20))] := hD
  refine lv_aload_n hx hb d_SystemUse_addOwnership_37 rfl (lv_at hl 1 rfl) ?_
  refine va_get (D := D) (ci := 8) (v := .ref zb) (C := "DiscMaker$SystemUse") (T := F_SystemUse) (N := 4) hx hb ht9 in_SystemUse hown hK hP 1 rfl rfl 0 (by decide) (ht9 _ k330) (fun _ h9 => h9) rfl d_SystemUse_addOwnership_38 ?_
  refine lv_iload_n hx hb d_SystemUse_addOwnership_41 rfl (lv_at hl 0 rfl) ?_
  refine lv_bipush (v := 12) hx hb d_SystemUse_addOwnership_42 (by decide) ?_
  refine lv_iadd hx hb d_SystemUse_addOwnership_44 ?_
  refine lv_iload_n hx hb d_SystemUse_addOwnership_45 rfl (lv_at hl 3 rfl) ?_
  refine lv_iconst (v := 4) hx hb d_SystemUse_addOwnership_46 (by decide) ?_
  have hPc := hP.sub (ws' := [(zb, .inr (1, [.ref zr, .int (nI (L + 36))])), (zr, .inl (cB, 400, .inl g_20))]) [3, 4] rfl
  have hDc := hD.sub (ws' := [(zb, .inr (1, [.ref zr, .int (nI (L + 36))])), (zr, .inl (cB, 400, .inl g_20))]) [3, 4] (by decide) rfl
  have hFc := va_free (wc := [(zb, .inr (1, [.ref zr, .int (nI (L + 36))])), (zr, .inl (cB, 400, .inl g_20))]) hD hS hA [3, 4] rfl
  have hkc : 0 ≤ 0 := by decide
  have hks : 0 ≤ 0 := by decide
  refine va_callv (va_runV (C := "DiscMaker$Bytes") (As := [.int (r6 + 12), .int v, .int 4]) (rest := []) ⟨hx, hb, hml, hown, hts⟩ (c_putBoth4 l D cB cI cJ cZ cN cF H.size zb zr (L + 36) 400 g_20 (r6 + 12) v hL (by decide)) (cwV 3 hts (lg_goodV k1022 k1023 k1024 k119 kc_Bytes_putBoth) rfl rfl rfl (by decide +kernel) ⟨Nat.le_of_ble_eq_true rfl, Nat.le_of_ble_eq_true rfl⟩) ⟨fun a U g mk q => by obtain ⟨q0, q1, qP, qK, qN, qD⟩ := q; exact ⟨q0, q1, qP, va_K.moved (u := U) (U := U.calling g mk a) (Vm.Alike.refl U.vm) qK, qN.calling, qD⟩, va_recv hK hP (ci := 1) (q0 := 3) rfl rfl, fun U hU hW => ⟨rfl, by rw [hU], by rw [hU]; exact hPc, va_K.moved hW.alike hK, NN.warm hW hN, hDc.weaken (fun _ _ _ _ => trivial)⟩⟩ rfl rfl hl.1 rfl (lv_room (Nat.le_of_ble_eq_true rfl)) d_SystemUse_addOwnership_47 ⟨hkc, hks⟩) hS (fun q _ h => hFc q h) hFc (fun u t H1 locs ht hvm hp_47 hB hz1 hk1 hS => ?_)
  obtain ⟨g_28, rfl⟩ : ∃ z, z = u := ⟨_, rfl⟩
  obtain ⟨hP1, hD1⟩ := hB
  rw [ht] at hP1
  obtain ⟨hP, hD⟩ := va_join (wr := [(qn, .inr (5, [.int 0, .ref qm, .ref qk, .ref qt, .int 0, .int 0, .int 0, .int 16877, .int 0, .int 0, .int 0, .int 0])), (z, .inr (8, [.ref zb, .ref ze, .int (nI kn9), .int kx2])), (ze, .inl (cI, 4, .inl fe))]) (w1 := [(zb, .inr (1, [.ref zr, .int (nI (L + 36))])), (zr, .inl (cB, 400, .inl g_28))]) hP hD [3, 4] [0, 1, 2] rfl rfl (by decide) (by decide) hk1 hFc hP1 hD1
  clear hPc hDc hFc hP1 hD1 hk1 hz1
  generalize H1 = H at hP hS ⊢
  have hP : va_P D CL [(qn, .inr (5, [.int 0, .ref qm, .ref qk, .ref qt, .int 0, .int 0, .int 0, .int 16877, .int 0, .int 0, .int 0, .int 0])), (z, .inr (8, [.ref zb, .ref ze, .int (nI kn9), .int kx2])), (ze, .inl (cI, 4, .inl fe)), (zb, .inr (1, [.ref zr, .int (nI (L + 36))])), (zr, .inl (cB, 400, .inl g_28))] H := hP
  have hD : va_D A [(qn, .inr (5, [.int 0, .ref qm, .ref qk, .ref qt, .int 0, .int 0, .int 0, .int 16877, .int 0, .int 0, .int 0, .int 0])), (z, .inr (8, [.ref zb, .ref ze, .int (nI kn9), .int kx2])), (ze, .inl (cI, 4, .inl fe)), (zb, .inr (1, [.ref zr, .int (nI (L + 36))])), (zr, .inl (cB, 400, .inl g_28))] := hD
  refine lv_aload_n hx hb d_SystemUse_addOwnership_50 rfl (lv_at hl 1 rfl) ?_
  refine va_get (D := D) (ci := 8) (v := .ref zb) (C := "DiscMaker$SystemUse") (T := F_SystemUse) (N := 4) hx hb ht9 in_SystemUse hown hK hP 1 rfl rfl 0 (by decide) (ht9 _ k330) (fun _ h9 => h9) rfl d_SystemUse_addOwnership_51 ?_
  refine lv_iload_n hx hb d_SystemUse_addOwnership_54 rfl (lv_at hl 0 rfl) ?_
  refine lv_bipush (v := 20) hx hb d_SystemUse_addOwnership_55 (by decide) ?_
  refine lv_iadd hx hb d_SystemUse_addOwnership_57 ?_
  refine lv_aload_n hx hb d_SystemUse_addOwnership_58 rfl (lv_at hl 2 rfl) ?_
  refine va_getN (D := D) (ci := 5) (v := .int 0) (C := "DiscMaker$Node") (T := F_Node) (N := 12) hx hb ht9 in_Node hown hK hP 0 rfl rfl 8 (by decide) (va_Nw.use rfl (hN _ k203)) (fun _ h9 => h9) rfl d_SystemUse_addOwnership_59 ?_
  refine lv_iconst (v := 4) hx hb d_SystemUse_addOwnership_62 (by decide) ?_
  have hPc := hP.sub (ws' := [(zb, .inr (1, [.ref zr, .int (nI (L + 36))])), (zr, .inl (cB, 400, .inl g_28))]) [3, 4] rfl
  have hDc := hD.sub (ws' := [(zb, .inr (1, [.ref zr, .int (nI (L + 36))])), (zr, .inl (cB, 400, .inl g_28))]) [3, 4] (by decide) rfl
  have hFc := va_free (wc := [(zb, .inr (1, [.ref zr, .int (nI (L + 36))])), (zr, .inl (cB, 400, .inl g_28))]) hD hS hA [3, 4] rfl
  have hkc : 0 ≤ 0 := by decide
  have hks : 0 ≤ 0 := by decide
  refine va_callv (va_runV (C := "DiscMaker$Bytes") (As := [.int (r6 + 20), .int 0, .int 4]) (rest := []) ⟨hx, hb, hml, hown, hts⟩ (c_putBoth4 l D cB cI cJ cZ cN cF H.size zb zr (L + 36) 400 g_28 (r6 + 20) 0 hL (by decide)) (cwV 3 hts (lg_goodV k1022 k1023 k1024 k119 kc_Bytes_putBoth) rfl rfl rfl (by decide +kernel) ⟨Nat.le_of_ble_eq_true rfl, Nat.le_of_ble_eq_true rfl⟩) ⟨fun a U g mk q => by obtain ⟨q0, q1, qP, qK, qN, qD⟩ := q; exact ⟨q0, q1, qP, va_K.moved (u := U) (U := U.calling g mk a) (Vm.Alike.refl U.vm) qK, qN.calling, qD⟩, va_recv hK hP (ci := 1) (q0 := 3) rfl rfl, fun U hU hW => ⟨rfl, by rw [hU], by rw [hU]; exact hPc, va_K.moved hW.alike hK, NN.warm hW hN, hDc.weaken (fun _ _ _ _ => trivial)⟩⟩ rfl rfl hl.1 rfl (lv_room (Nat.le_of_ble_eq_true rfl)) d_SystemUse_addOwnership_63 ⟨hkc, hks⟩) hS (fun q _ h => hFc q h) hFc (fun u t H1 locs ht hvm hp_63 hB hz1 hk1 hS => ?_)
  obtain ⟨g_37, rfl⟩ : ∃ z, z = u := ⟨_, rfl⟩
  obtain ⟨hP1, hD1⟩ := hB
  rw [ht] at hP1
  obtain ⟨hP, hD⟩ := va_join (wr := [(qn, .inr (5, [.int 0, .ref qm, .ref qk, .ref qt, .int 0, .int 0, .int 0, .int 16877, .int 0, .int 0, .int 0, .int 0])), (z, .inr (8, [.ref zb, .ref ze, .int (nI kn9), .int kx2])), (ze, .inl (cI, 4, .inl fe))]) (w1 := [(zb, .inr (1, [.ref zr, .int (nI (L + 36))])), (zr, .inl (cB, 400, .inl g_37))]) hP hD [3, 4] [0, 1, 2] rfl rfl (by decide) (by decide) hk1 hFc hP1 hD1
  clear hPc hDc hFc hP1 hD1 hk1 hz1
  generalize H1 = H at hP hS ⊢
  have hP : va_P D CL [(qn, .inr (5, [.int 0, .ref qm, .ref qk, .ref qt, .int 0, .int 0, .int 0, .int 16877, .int 0, .int 0, .int 0, .int 0])), (z, .inr (8, [.ref zb, .ref ze, .int (nI kn9), .int kx2])), (ze, .inl (cI, 4, .inl fe)), (zb, .inr (1, [.ref zr, .int (nI (L + 36))])), (zr, .inl (cB, 400, .inl g_37))] H := hP
  have hD : va_D A [(qn, .inr (5, [.int 0, .ref qm, .ref qk, .ref qt, .int 0, .int 0, .int 0, .int 16877, .int 0, .int 0, .int 0, .int 0])), (z, .inr (8, [.ref zb, .ref ze, .int (nI kn9), .int kx2])), (ze, .inl (cI, 4, .inl fe)), (zb, .inr (1, [.ref zr, .int (nI (L + 36))])), (zr, .inl (cB, 400, .inl g_37))] := hD
  refine lv_aload_n hx hb d_SystemUse_addOwnership_66 rfl (lv_at hl 1 rfl) ?_
  refine va_get (D := D) (ci := 8) (v := .ref zb) (C := "DiscMaker$SystemUse") (T := F_SystemUse) (N := 4) hx hb ht9 in_SystemUse hown hK hP 1 rfl rfl 0 (by decide) (ht9 _ k330) (fun _ h9 => h9) rfl d_SystemUse_addOwnership_67 ?_
  refine lv_iload_n hx hb d_SystemUse_addOwnership_70 rfl (lv_at hl 0 rfl) ?_
  refine lv_bipush (v := 28) hx hb d_SystemUse_addOwnership_71 (by decide) ?_
  refine lv_iadd hx hb d_SystemUse_addOwnership_73 ?_
  refine lv_aload_n hx hb d_SystemUse_addOwnership_74 rfl (lv_at hl 2 rfl) ?_
  refine va_getN (D := D) (ci := 5) (v := .int 0) (C := "DiscMaker$Node") (T := F_Node) (N := 12) hx hb ht9 in_Node hown hK hP 0 rfl rfl 9 (by decide) (va_Nw.use rfl (hN _ k205)) (fun _ h9 => h9) rfl d_SystemUse_addOwnership_75 ?_
  refine lv_iconst (v := 4) hx hb d_SystemUse_addOwnership_78 (by decide) ?_
  have hPc := hP.sub (ws' := [(zb, .inr (1, [.ref zr, .int (nI (L + 36))])), (zr, .inl (cB, 400, .inl g_37))]) [3, 4] rfl
  have hDc := hD.sub (ws' := [(zb, .inr (1, [.ref zr, .int (nI (L + 36))])), (zr, .inl (cB, 400, .inl g_37))]) [3, 4] (by decide) rfl
  have hFc := va_free (wc := [(zb, .inr (1, [.ref zr, .int (nI (L + 36))])), (zr, .inl (cB, 400, .inl g_37))]) hD hS hA [3, 4] rfl
  have hkc : 0 ≤ 0 := by decide
  have hks : 0 ≤ 0 := by decide
  refine va_callv (va_runV (C := "DiscMaker$Bytes") (As := [.int (r6 + 28), .int 0, .int 4]) (rest := []) ⟨hx, hb, hml, hown, hts⟩ (c_putBoth4 l D cB cI cJ cZ cN cF H.size zb zr (L + 36) 400 g_37 (r6 + 28) 0 hL (by decide)) (cwV 3 hts (lg_goodV k1022 k1023 k1024 k119 kc_Bytes_putBoth) rfl rfl rfl (by decide +kernel) ⟨Nat.le_of_ble_eq_true rfl, Nat.le_of_ble_eq_true rfl⟩) ⟨fun a U g mk q => by obtain ⟨q0, q1, qP, qK, qN, qD⟩ := q; exact ⟨q0, q1, qP, va_K.moved (u := U) (U := U.calling g mk a) (Vm.Alike.refl U.vm) qK, qN.calling, qD⟩, va_recv hK hP (ci := 1) (q0 := 3) rfl rfl, fun U hU hW => ⟨rfl, by rw [hU], by rw [hU]; exact hPc, va_K.moved hW.alike hK, NN.warm hW hN, hDc.weaken (fun _ _ _ _ => trivial)⟩⟩ rfl rfl hl.1 rfl (lv_room (Nat.le_of_ble_eq_true rfl)) d_SystemUse_addOwnership_79 ⟨hkc, hks⟩) hS (fun q _ h => hFc q h) hFc (fun u t H1 locs ht hvm hp_79 hB hz1 hk1 hS => ?_)
  obtain ⟨g_46, rfl⟩ : ∃ z, z = u := ⟨_, rfl⟩
  obtain ⟨hP1, hD1⟩ := hB
  rw [ht] at hP1
  obtain ⟨hP, hD⟩ := va_join (wr := [(qn, .inr (5, [.int 0, .ref qm, .ref qk, .ref qt, .int 0, .int 0, .int 0, .int 16877, .int 0, .int 0, .int 0, .int 0])), (z, .inr (8, [.ref zb, .ref ze, .int (nI kn9), .int kx2])), (ze, .inl (cI, 4, .inl fe))]) (w1 := [(zb, .inr (1, [.ref zr, .int (nI (L + 36))])), (zr, .inl (cB, 400, .inl g_46))]) hP hD [3, 4] [0, 1, 2] rfl rfl (by decide) (by decide) hk1 hFc hP1 hD1
  clear hPc hDc hFc hP1 hD1 hk1 hz1
  generalize H1 = H at hP hS ⊢
  have hP : va_P D CL [(qn, .inr (5, [.int 0, .ref qm, .ref qk, .ref qt, .int 0, .int 0, .int 0, .int 16877, .int 0, .int 0, .int 0, .int 0])), (z, .inr (8, [.ref zb, .ref ze, .int (nI kn9), .int kx2])), (ze, .inl (cI, 4, .inl fe)), (zb, .inr (1, [.ref zr, .int (nI (L + 36))])), (zr, .inl (cB, 400, .inl g_46))] H := hP
  have hD : va_D A [(qn, .inr (5, [.int 0, .ref qm, .ref qk, .ref qt, .int 0, .int 0, .int 0, .int 16877, .int 0, .int 0, .int 0, .int 0])), (z, .inr (8, [.ref zb, .ref ze, .int (nI kn9), .int kx2])), (ze, .inl (cI, 4, .inl fe)), (zb, .inr (1, [.ref zr, .int (nI (L + 36))])), (zr, .inl (cB, 400, .inl g_46))] := hD
  refine lv_aload_n hx hb d_SystemUse_addOwnership_82 rfl (lv_at hl 1 rfl) ?_
  refine lv_iload_n hx hb d_SystemUse_addOwnership_83 rfl (lv_at hl 0 rfl) ?_
  have hPc := hP.sub (ws' := [(z, .inr (8, [.ref zb, .ref ze, .int (nI kn9), .int kx2])), (zb, .inr (1, [.ref zr, .int (nI (L + 36))])), (zr, .inl (cB, 400, .inl g_46)), (ze, .inl (cI, 4, .inl fe))]) [1, 3, 4, 2] rfl
  have hDc := hD.sub (ws' := [(z, .inr (8, [.ref zb, .ref ze, .int (nI kn9), .int kx2])), (zb, .inr (1, [.ref zr, .int (nI (L + 36))])), (zr, .inl (cB, 400, .inl g_46)), (ze, .inl (cI, 4, .inl fe))]) [1, 3, 4, 2] (by decide) rfl
  have hFc := va_free (wc := [(z, .inr (8, [.ref zb, .ref ze, .int (nI kn9), .int kx2])), (zb, .inr (1, [.ref zr, .int (nI (L + 36))])), (zr, .inl (cB, 400, .inl g_46)), (ze, .inl (cI, 4, .inl fe))]) hD hS hA [1, 3, 4, 2] rfl
  have hkc : 0 ≤ 0 := by decide
  have hks : 0 ≤ 0 := by decide
  refine va_callv (va_runV (C := "DiscMaker$SystemUse") (As := [.int r6]) (rest := []) ⟨hx, hb, hml, hown, hts⟩ (c_uclose l D cB cI cJ cZ cN cF H.size z zb zr ze g_46 fe (L + 36) kn9 kx2 r6 (by omega) (by omega)) (cwV 1 hts (lg_goodV k922 k924 k11 k122 kc_SystemUse_close) rfl rfl rfl (by decide +kernel) ⟨Nat.le_of_ble_eq_true rfl, Nat.le_of_ble_eq_true rfl⟩) ⟨fun a U g mk q => by obtain ⟨q0, q1, qP, qK, qN, qD⟩ := q; exact ⟨q0, q1, qP, va_K.moved (u := U) (U := U.calling g mk a) (Vm.Alike.refl U.vm) qK, qN.calling, qD⟩, va_recv hK hP (ci := 8) (q0 := 1) rfl rfl, fun U hU hW => ⟨rfl, by rw [hU], by rw [hU]; exact hPc, va_K.moved hW.alike hK, NN.warm hW hN, hDc.weaken (fun _ _ _ _ => trivial)⟩⟩ rfl rfl hl.1 rfl (lv_room (Nat.le_of_ble_eq_true rfl)) d_SystemUse_addOwnership_84 ⟨hkc, hks⟩) hS (fun q _ h => hFc q h) hFc (fun u t H1 locs ht hvm hp_84 hB hz1 hk1 hS => ?_)
  obtain ⟨g84, e84⟩ := u
  obtain ⟨hP1, hD1⟩ := hB
  rw [ht] at hP1
  obtain ⟨hP, hD⟩ := va_join (wr := [(qn, .inr (5, [.int 0, .ref qm, .ref qk, .ref qt, .int 0, .int 0, .int 0, .int 16877, .int 0, .int 0, .int 0, .int 0]))]) (w1 := [(z, .inr (8, [.ref zb, .ref ze, .int (nI (kn9 + 1)), .int kx2])), (zb, .inr (1, [.ref zr, .int (nI (L + 36))])), (zr, .inl (cB, 400, .inl g84)), (ze, .inl (cI, 4, .inl e84))]) hP hD [1, 3, 4, 2] [0] rfl rfl (by decide) (by decide) hk1 hFc hP1 hD1
  clear hPc hDc hFc hP1 hD1 hk1 hz1
  generalize H1 = H at hP hS ⊢
  have hP : va_P D CL [(qn, .inr (5, [.int 0, .ref qm, .ref qk, .ref qt, .int 0, .int 0, .int 0, .int 16877, .int 0, .int 0, .int 0, .int 0])), (z, .inr (8, [.ref zb, .ref ze, .int (nI (kn9 + 1)), .int kx2])), (zb, .inr (1, [.ref zr, .int (nI (L + 36))])), (zr, .inl (cB, 400, .inl g84)), (ze, .inl (cI, 4, .inl e84))] H := hP
  have hD : va_D A [(qn, .inr (5, [.int 0, .ref qm, .ref qk, .ref qt, .int 0, .int 0, .int 0, .int 16877, .int 0, .int 0, .int 0, .int 0])), (z, .inr (8, [.ref zb, .ref ze, .int (nI (kn9 + 1)), .int kx2])), (zb, .inr (1, [.ref zr, .int (nI (L + 36))])), (zr, .inl (cB, 400, .inl g84)), (ze, .inl (cI, 4, .inl e84))] := hD
  have hP9 := hP.sub (ws' := [(z, .inr (8, [.ref zb, .ref ze, .int (nI (kn9 + 1)), .int kx2])), (zb, .inr (1, [.ref zr, .int (nI (L + 36))])), (zr, .inl (cB, 400, .inl g84)), (ze, .inl (cI, 4, .inl e84)), (qn, .inr (5, [.int 0, .ref qm, .ref qk, .ref qt, .int 0, .int 0, .int 0, .int 16877, .int 0, .int 0, .int 0, .int 0]))]) [1, 2, 3, 4, 0] rfl
  have hD9 := hD.sub (ws' := [(z, .inr (8, [.ref zb, .ref ze, .int (nI (kn9 + 1)), .int kx2])), (zb, .inr (1, [.ref zr, .int (nI (L + 36))])), (zr, .inl (cB, 400, .inl g84)), (ze, .inl (cI, 4, .inl e84)), (qn, .inr (5, [.int 0, .ref qm, .ref qk, .ref qt, .int 0, .int 0, .int 0, .int 16877, .int 0, .int 0, .int 0, .int 0]))]) [1, 2, 3, 4, 0] (by decide) rfl
  exact W.vret hx hb hr (fun t ht hW => ⟨⟨(g84, e84), rfl, trivial, by rw [ht]; exact hP9, hD9⟩, hS.F ht⟩) hS.2.2 d_SystemUse_addOwnership_87

theorem d_SystemUse_fit_0 : decode b_SystemUse_fit 0 = .ok (.aload_n 0, 1) := by decide +kernel
theorem d_SystemUse_fit_1 : decode b_SystemUse_fit 1 = .ok (.aload_n 0, 1) := by decide +kernel
theorem d_SystemUse_fit_2 : decode b_SystemUse_fit 2 = .ok (.getfield 16, 3) := by decide +kernel
theorem d_SystemUse_fit_5 : decode b_SystemUse_fit 5 = .ok (.getfield 34, 3) := by decide +kernel
theorem d_SystemUse_fit_8 : decode b_SystemUse_fit 8 = .ok (.putfield 31, 3) := by decide +kernel
theorem d_SystemUse_fit_11 : decode b_SystemUse_fit 11 = .ok (.aload_n 0, 1) := by decide +kernel
theorem d_SystemUse_fit_12 : decode b_SystemUse_fit 12 = .ok (.getfield 31, 3) := by decide +kernel
theorem d_SystemUse_fit_15 : decode b_SystemUse_fit 15 = .ok (.iload_n 1, 1) := by decide +kernel
theorem d_SystemUse_fit_16 : decode b_SystemUse_fit 16 = .ok (.if_icmp .le 47, 3) := by decide +kernel
theorem d_SystemUse_fit_63 : decode b_SystemUse_fit 63 = .ok (.return_, 1) := by decide +kernel
set_option maxHeartbeats 4000000 in
set_option maxRecDepth 100000 in
theorem c_fit (l : Launch) (D : va_G) (cB cI cJ cZ cN cF : ClassId) (sz : Nat) (z zb zr ze : Nat) (fz fe : Nat → Int32) (kx1 kx2 L1 v : Int32) (h9 : L1 ≤ v) : Met l y_SystemUse_fit w_SystemUse_fit ({ frames := 0, cells := 0, slots := 0, locals := 0 }) (va_Pc [.ref z, .int v] (fun U => U.heap.size = sz ∧ va_P D CL [(z, .inr (8, [.ref zb, .ref ze, .int kx1, .int kx2])), (zb, .inr (1, [.ref zr, .int L1])), (zr, .inl (cB, 400, .inl fz)), (ze, .inl (cI, 4, .inl fe))] U.heap ∧ va_K D CL (TY cB cI cJ cZ cN cF) U ∧ NN U ∧ va_D (fun _ => True) [(z, .inr (8, [.ref zb, .ref ze, .int kx1, .int kx2])), (zb, .inr (1, [.ref zr, .int L1])), (zr, .inl (cB, 400, .inl fz)), (ze, .inl (cI, 4, .inl fe))])) (va_Qv (fun (u : Unit) => True) (fun (u : Unit) (t : State) => match u with | () => va_P D CL [(z, .inr (8, [.ref zb, .ref ze, .int kx1, .int L1])), (zb, .inr (1, [.ref zr, .int L1])), (zr, .inl (cB, 400, .inl fz)), (ze, .inl (cI, 4, .inl fe))] t.heap ∧ va_D (va_A [(z, .inr (8, [.ref zb, .ref ze, .int kx1, .int kx2])), (zb, .inr (1, [.ref zr, .int L1])), (zr, .inl (cB, 400, .inl fz)), (ze, .inl (cI, 4, .inl fe))] sz) [(z, .inr (8, [.ref zb, .ref ze, .int kx1, .int L1])), (zb, .inr (1, [.ref zr, .int L1])), (zr, .inl (cB, 400, .inl fz)), (ze, .inl (cI, 4, .inl fe))]) (va_A [(z, .inr (8, [.ref zb, .ref ze, .int kx1, .int kx2])), (zb, .inr (1, [.ref zr, .int L1])), (zr, .inl (cB, 400, .inl fz)), (ze, .inl (cI, 4, .inl fe))] sz)) 0 0 (va_A [(z, .inr (8, [.ref zb, .ref ze, .int kx1, .int kx2])), (zb, .inr (1, [.ref zr, .int L1])), (zr, .inl (cB, 400, .inl fz)), (ze, .inl (cI, 4, .inl fe))] sz) := by
  refine Met.ofW (cc := b_SystemUse_fit) (maxL := 3) (ret := none) (by decide) rfl ?_
  intro p e s m args below meth c s₁ B hml hv
  obtain ⟨rfl, hsz, hP, hK, hN, hD0⟩ := hv
  have hx := B.exec
  have hb := B.bytes
  have hr := B.returns
  have hts := atoms_spec (ws := w_SystemUse_fit) B.pre
  have ht9 := fun (w : Cond) (h : w ∈ lw_g) => hts w (List.mem_cons_of_mem _ h)
  have hown : s.vm.findClass "DiscMaker$SystemUse" = some m.cls := findClass_of_methodNamed B.named
  have hlocks := B.notSynchronized
  subst hsz
  have hD := hD0.self (sz := s.heap.size)
  generalize hAe : va_A [(z, .inr (8, [.ref zb, .ref ze, .int kx1, .int kx2])), (zb, .inr (1, [.ref zr, .int L1])), (zr, .inl (cB, 400, .inl fz)), (ze, .inl (cI, 4, .inl fe))] s.heap.size = A at hD ⊢
  have hA : ∀ q : Nat, s.heap.size ≤ q → A q := fun q h => by rw [← hAe]; exact Or.inr h
  have hS : va_S A s.heap s.heap [] := va_S.rf
  have hP : va_P D CL [(z, .inr (8, [.ref zb, .ref ze, .int kx1, .int kx2])), (zb, .inr (1, [.ref zr, .int L1])), (zr, .inl (cB, 400, .inl fz)), (ze, .inl (cI, 4, .inl fe))] s.heap := hP
  have hl := lv_entry [.ref z, .int v] (n := 3) (Nat.le_of_ble_eq_true rfl)
  rw [lg_entry_eq]
  generalize (lg_sl [.ref z, .int v] ++ List.replicate (3 - (lg_sl [.ref z, .int v]).length) Slot.unset).toArray = ls at hl ⊢
  have hl : lv_has ls 3 [(0, .ref z), (1, .int v)] := hl
  refine lv_aload_n hx hb d_SystemUse_fit_0 rfl (lv_at hl 0 rfl) ?_
  refine lv_aload_n hx hb d_SystemUse_fit_1 rfl (lv_at hl 0 rfl) ?_
  refine va_get (D := D) (ci := 8) (v := .ref zb) (C := "DiscMaker$SystemUse") (T := F_SystemUse) (N := 4) hx hb ht9 in_SystemUse hown hK hP 0 rfl rfl 0 (by decide) (ht9 _ k330) (fun _ h9 => h9) rfl d_SystemUse_fit_2 ?_
  refine va_getN (D := D) (ci := 1) (v := .int L1) (C := "DiscMaker$Bytes") (T := F_Bytes) (N := 2) hx hb ht9 in_Bytes hown hK hP 1 rfl rfl 1 (by decide) (va_Nw.use rfl (hN _ k259)) (fun _ h9 => h9) rfl d_SystemUse_fit_5 ?_
  refine va_put (D := D) (ci := 8) (v := .int L1) (ty := .int) (C := "DiscMaker$SystemUse") (T := F_SystemUse) (N := 4) hx hb ht9 in_SystemUse t_SystemUse t_SystemUse_ok n_SystemUse hown hK hP hD hS 0 rfl rfl 3 (by decide) (ht9 _ k334) (fun _ h9 => h9) rfl (by decide +kernel) rfl rfl (Nat.le_of_ble_eq_true rfl) d_SystemUse_fit_8 (fun H locs hP hD hS => ?_)
  have hP : va_P D CL [(z, .inr (8, [.ref zb, .ref ze, .int kx1, .int L1])), (zb, .inr (1, [.ref zr, .int L1])), (zr, .inl (cB, 400, .inl fz)), (ze, .inl (cI, 4, .inl fe))] H := hP
  have hD : va_D A [(z, .inr (8, [.ref zb, .ref ze, .int kx1, .int L1])), (zb, .inr (1, [.ref zr, .int L1])), (zr, .inl (cB, 400, .inl fz)), (ze, .inl (cI, 4, .inl fe))] := hD
  refine lv_aload_n hx hb d_SystemUse_fit_11 rfl (lv_at hl 0 rfl) ?_
  refine va_get (D := D) (ci := 8) (v := .int L1) (C := "DiscMaker$SystemUse") (T := F_SystemUse) (N := 4) hx hb ht9 in_SystemUse hown hK hP 0 rfl rfl 3 (by decide) (ht9 _ k334) (fun _ h9 => h9) rfl d_SystemUse_fit_12 ?_
  refine lv_iload_n hx hb d_SystemUse_fit_15 rfl (lv_at hl 1 rfl) ?_
  refine lv_icmp_le (tgt := 63) hx hb d_SystemUse_fit_16 (by decide) (fun h_16 => ?_) (fun h_16 => absurd (h9) h_16)
  have hP9 := hP.sub (ws' := [(z, .inr (8, [.ref zb, .ref ze, .int kx1, .int L1])), (zb, .inr (1, [.ref zr, .int L1])), (zr, .inl (cB, 400, .inl fz)), (ze, .inl (cI, 4, .inl fe))]) [0, 1, 2, 3] rfl
  have hD9 := hD.sub (ws' := [(z, .inr (8, [.ref zb, .ref ze, .int kx1, .int L1])), (zb, .inr (1, [.ref zr, .int L1])), (zr, .inl (cB, 400, .inl fz)), (ze, .inl (cI, 4, .inl fe))]) [0, 1, 2, 3] (by decide) rfl
  exact W.vret hx hb hr (fun t ht hW => ⟨⟨(), rfl, trivial, by rw [ht]; exact hP9, hD9⟩, hS.F ht⟩) hS.2.2 d_SystemUse_fit_63

theorem d_SystemUse_bytesInRecord_0 : decode b_SystemUse_bytesInRecord 0 = .ok (.aload_n 0, 1) := by decide +kernel
theorem d_SystemUse_bytesInRecord_1 : decode b_SystemUse_bytesInRecord 1 = .ok (.getfield 31, 3) := by decide +kernel
theorem d_SystemUse_bytesInRecord_4 : decode b_SystemUse_bytesInRecord 4 = .ok (.aload_n 0, 1) := by decide +kernel
theorem d_SystemUse_bytesInRecord_5 : decode b_SystemUse_bytesInRecord 5 = .ok (.getfield 16, 3) := by decide +kernel
theorem d_SystemUse_bytesInRecord_8 : decode b_SystemUse_bytesInRecord 8 = .ok (.getfield 34, 3) := by decide +kernel
theorem d_SystemUse_bytesInRecord_11 : decode b_SystemUse_bytesInRecord 11 = .ok (.if_icmp .ge 13, 3) := by decide +kernel
theorem d_SystemUse_bytesInRecord_24 : decode b_SystemUse_bytesInRecord 24 = .ok (.aload_n 0, 1) := by decide +kernel
theorem d_SystemUse_bytesInRecord_25 : decode b_SystemUse_bytesInRecord 25 = .ok (.getfield 31, 3) := by decide +kernel
theorem d_SystemUse_bytesInRecord_28 : decode b_SystemUse_bytesInRecord 28 = .ok (.ireturn, 1) := by decide +kernel
set_option maxHeartbeats 4000000 in
set_option maxRecDepth 100000 in
theorem c_bytesInRecord (l : Launch) (D : va_G) (cB cI cJ cZ cN cF : ClassId) (sz : Nat) (z zb zr ze : Nat) (fz fe : Nat → Int32) (kx1 L1 : Int32) : Met l y_SystemUse_bytesInRecord w_SystemUse_bytesInRecord ({ frames := 0, cells := 0, slots := 0, locals := 0 }) (va_Pc [.ref z] (fun U => U.heap.size = sz ∧ va_P D CL [(z, .inr (8, [.ref zb, .ref ze, .int kx1, .int L1])), (zb, .inr (1, [.ref zr, .int L1])), (zr, .inl (cB, 400, .inl fz)), (ze, .inl (cI, 4, .inl fe))] U.heap ∧ va_K D CL (TY cB cI cJ cZ cN cF) U ∧ NN U ∧ va_D (fun _ => True) [(z, .inr (8, [.ref zb, .ref ze, .int kx1, .int L1])), (zb, .inr (1, [.ref zr, .int L1])), (zr, .inl (cB, 400, .inl fz)), (ze, .inl (cI, 4, .inl fe))])) (va_Qi (fun (r : Int32) (u : Unit) => r = L1) (fun (u : Unit) (t : State) => match u with | () => va_P D CL [(z, .inr (8, [.ref zb, .ref ze, .int kx1, .int L1])), (zb, .inr (1, [.ref zr, .int L1])), (zr, .inl (cB, 400, .inl fz)), (ze, .inl (cI, 4, .inl fe))] t.heap ∧ va_D (va_A [(z, .inr (8, [.ref zb, .ref ze, .int kx1, .int L1])), (zb, .inr (1, [.ref zr, .int L1])), (zr, .inl (cB, 400, .inl fz)), (ze, .inl (cI, 4, .inl fe))] sz) [(z, .inr (8, [.ref zb, .ref ze, .int kx1, .int L1])), (zb, .inr (1, [.ref zr, .int L1])), (zr, .inl (cB, 400, .inl fz)), (ze, .inl (cI, 4, .inl fe))]) (va_A [(z, .inr (8, [.ref zb, .ref ze, .int kx1, .int L1])), (zb, .inr (1, [.ref zr, .int L1])), (zr, .inl (cB, 400, .inl fz)), (ze, .inl (cI, 4, .inl fe))] sz)) 0 0 (va_A [(z, .inr (8, [.ref zb, .ref ze, .int kx1, .int L1])), (zb, .inr (1, [.ref zr, .int L1])), (zr, .inl (cB, 400, .inl fz)), (ze, .inl (cI, 4, .inl fe))] sz) := by
  refine Met.ofW (cc := b_SystemUse_bytesInRecord) (maxL := 1) (ret := some .int) (by decide) rfl ?_
  intro p e s m args below meth c s₁ B hml hv
  obtain ⟨rfl, hsz, hP, hK, hN, hD0⟩ := hv
  have hx := B.exec
  have hb := B.bytes
  have hr := B.returns
  have hts := atoms_spec (ws := w_SystemUse_bytesInRecord) B.pre
  have ht9 := fun (w : Cond) (h : w ∈ lw_g) => hts w (List.mem_cons_of_mem _ h)
  have hown : s.vm.findClass "DiscMaker$SystemUse" = some m.cls := findClass_of_methodNamed B.named
  have hlocks := B.notSynchronized
  subst hsz
  have hD := hD0.self (sz := s.heap.size)
  generalize hAe : va_A [(z, .inr (8, [.ref zb, .ref ze, .int kx1, .int L1])), (zb, .inr (1, [.ref zr, .int L1])), (zr, .inl (cB, 400, .inl fz)), (ze, .inl (cI, 4, .inl fe))] s.heap.size = A at hD ⊢
  have hA : ∀ q : Nat, s.heap.size ≤ q → A q := fun q h => by rw [← hAe]; exact Or.inr h
  have hS : va_S A s.heap s.heap [] := va_S.rf
  have hP : va_P D CL [(z, .inr (8, [.ref zb, .ref ze, .int kx1, .int L1])), (zb, .inr (1, [.ref zr, .int L1])), (zr, .inl (cB, 400, .inl fz)), (ze, .inl (cI, 4, .inl fe))] s.heap := hP
  have hl := lv_entry [.ref z] (n := 1) (Nat.le_of_ble_eq_true rfl)
  rw [lg_entry_eq]
  generalize (lg_sl [.ref z] ++ List.replicate (1 - (lg_sl [.ref z]).length) Slot.unset).toArray = ls at hl ⊢
  have hl : lv_has ls 1 [(0, .ref z)] := hl
  refine lv_aload_n hx hb d_SystemUse_bytesInRecord_0 rfl (lv_at hl 0 rfl) ?_
  refine va_get (D := D) (ci := 8) (v := .int L1) (C := "DiscMaker$SystemUse") (T := F_SystemUse) (N := 4) hx hb ht9 in_SystemUse hown hK hP 0 rfl rfl 3 (by decide) (ht9 _ k334) (fun _ h9 => h9) rfl d_SystemUse_bytesInRecord_1 ?_
  refine lv_aload_n hx hb d_SystemUse_bytesInRecord_4 rfl (lv_at hl 0 rfl) ?_
  refine va_get (D := D) (ci := 8) (v := .ref zb) (C := "DiscMaker$SystemUse") (T := F_SystemUse) (N := 4) hx hb ht9 in_SystemUse hown hK hP 0 rfl rfl 0 (by decide) (ht9 _ k330) (fun _ h9 => h9) rfl d_SystemUse_bytesInRecord_5 ?_
  refine va_getN (D := D) (ci := 1) (v := .int L1) (C := "DiscMaker$Bytes") (T := F_Bytes) (N := 2) hx hb ht9 in_Bytes hown hK hP 1 rfl rfl 1 (by decide) (va_Nw.use rfl (hN _ k259)) (fun _ h9 => h9) rfl d_SystemUse_bytesInRecord_8 ?_
  refine lv_icmp_ge (tgt := 24) hx hb d_SystemUse_bytesInRecord_11 (by decide) (fun h_11 => ?_) (fun h_11 => absurd (Int32.le_refl _) h_11)
  refine lv_aload_n hx hb d_SystemUse_bytesInRecord_24 rfl (lv_at hl 0 rfl) ?_
  refine va_get (D := D) (ci := 8) (v := .int L1) (C := "DiscMaker$SystemUse") (T := F_SystemUse) (N := 4) hx hb ht9 in_SystemUse hown hK hP 0 rfl rfl 3 (by decide) (ht9 _ k334) (fun _ h9 => h9) rfl d_SystemUse_bytesInRecord_25 ?_
  have hP9 := hP.sub (ws' := [(z, .inr (8, [.ref zb, .ref ze, .int kx1, .int L1])), (zb, .inr (1, [.ref zr, .int L1])), (zr, .inl (cB, 400, .inl fz)), (ze, .inl (cI, 4, .inl fe))]) [0, 1, 2, 3] rfl
  have hD9 := hD.sub (ws' := [(z, .inr (8, [.ref zb, .ref ze, .int kx1, .int L1])), (zb, .inr (1, [.ref zr, .int L1])), (zr, .inl (cB, 400, .inl fz)), (ze, .inl (cI, 4, .inl fe))]) [0, 1, 2, 3] (by decide) rfl
  exact W.iret (v := L1) hx hb hr (fun t ht hW => ⟨⟨L1, (), rfl, rfl, by rw [ht]; exact hP9, hD9⟩, hS.F ht⟩) hS.2.2 d_SystemUse_bytesInRecord_28

theorem d_SystemUse_bytesBehind_0 : decode b_SystemUse_bytesBehind 0 = .ok (.aload_n 0, 1) := by decide +kernel
theorem d_SystemUse_bytesBehind_1 : decode b_SystemUse_bytesBehind 1 = .ok (.getfield 16, 3) := by decide +kernel
theorem d_SystemUse_bytesBehind_4 : decode b_SystemUse_bytesBehind 4 = .ok (.getfield 34, 3) := by decide +kernel
theorem d_SystemUse_bytesBehind_7 : decode b_SystemUse_bytesBehind 7 = .ok (.aload_n 0, 1) := by decide +kernel
theorem d_SystemUse_bytesBehind_8 : decode b_SystemUse_bytesBehind 8 = .ok (.getfield 31, 3) := by decide +kernel
theorem d_SystemUse_bytesBehind_11 : decode b_SystemUse_bytesBehind 11 = .ok (.isub, 1) := by decide +kernel
theorem d_SystemUse_bytesBehind_12 : decode b_SystemUse_bytesBehind 12 = .ok (.ireturn, 1) := by decide +kernel
set_option maxHeartbeats 4000000 in
set_option maxRecDepth 100000 in
theorem c_bytesBehind (l : Launch) (D : va_G) (cB cI cJ cZ cN cF : ClassId) (sz : Nat) (z zb zr ze : Nat) (fz fe : Nat → Int32) (kx1 L1 : Int32) : Met l y_SystemUse_bytesBehind w_SystemUse_bytesBehind ({ frames := 0, cells := 0, slots := 0, locals := 0 }) (va_Pc [.ref z] (fun U => U.heap.size = sz ∧ va_P D CL [(z, .inr (8, [.ref zb, .ref ze, .int kx1, .int L1])), (zb, .inr (1, [.ref zr, .int L1])), (zr, .inl (cB, 400, .inl fz)), (ze, .inl (cI, 4, .inl fe))] U.heap ∧ va_K D CL (TY cB cI cJ cZ cN cF) U ∧ NN U ∧ va_D (fun _ => True) [(z, .inr (8, [.ref zb, .ref ze, .int kx1, .int L1])), (zb, .inr (1, [.ref zr, .int L1])), (zr, .inl (cB, 400, .inl fz)), (ze, .inl (cI, 4, .inl fe))])) (va_Qi (fun (r : Int32) (u : Unit) => r = 0) (fun (u : Unit) (t : State) => match u with | () => va_P D CL [(z, .inr (8, [.ref zb, .ref ze, .int kx1, .int L1])), (zb, .inr (1, [.ref zr, .int L1])), (zr, .inl (cB, 400, .inl fz)), (ze, .inl (cI, 4, .inl fe))] t.heap ∧ va_D (va_A [(z, .inr (8, [.ref zb, .ref ze, .int kx1, .int L1])), (zb, .inr (1, [.ref zr, .int L1])), (zr, .inl (cB, 400, .inl fz)), (ze, .inl (cI, 4, .inl fe))] sz) [(z, .inr (8, [.ref zb, .ref ze, .int kx1, .int L1])), (zb, .inr (1, [.ref zr, .int L1])), (zr, .inl (cB, 400, .inl fz)), (ze, .inl (cI, 4, .inl fe))]) (va_A [(z, .inr (8, [.ref zb, .ref ze, .int kx1, .int L1])), (zb, .inr (1, [.ref zr, .int L1])), (zr, .inl (cB, 400, .inl fz)), (ze, .inl (cI, 4, .inl fe))] sz)) 0 0 (va_A [(z, .inr (8, [.ref zb, .ref ze, .int kx1, .int L1])), (zb, .inr (1, [.ref zr, .int L1])), (zr, .inl (cB, 400, .inl fz)), (ze, .inl (cI, 4, .inl fe))] sz) := by
  refine Met.ofW (cc := b_SystemUse_bytesBehind) (maxL := 1) (ret := some .int) (by decide) rfl ?_
  intro p e s m args below meth c s₁ B hml hv
  obtain ⟨rfl, hsz, hP, hK, hN, hD0⟩ := hv
  have hx := B.exec
  have hb := B.bytes
  have hr := B.returns
  have hts := atoms_spec (ws := w_SystemUse_bytesBehind) B.pre
  have ht9 := fun (w : Cond) (h : w ∈ lw_g) => hts w (List.mem_cons_of_mem _ h)
  have hown : s.vm.findClass "DiscMaker$SystemUse" = some m.cls := findClass_of_methodNamed B.named
  have hlocks := B.notSynchronized
  subst hsz
  have hD := hD0.self (sz := s.heap.size)
  generalize hAe : va_A [(z, .inr (8, [.ref zb, .ref ze, .int kx1, .int L1])), (zb, .inr (1, [.ref zr, .int L1])), (zr, .inl (cB, 400, .inl fz)), (ze, .inl (cI, 4, .inl fe))] s.heap.size = A at hD ⊢
  have hA : ∀ q : Nat, s.heap.size ≤ q → A q := fun q h => by rw [← hAe]; exact Or.inr h
  have hS : va_S A s.heap s.heap [] := va_S.rf
  have hP : va_P D CL [(z, .inr (8, [.ref zb, .ref ze, .int kx1, .int L1])), (zb, .inr (1, [.ref zr, .int L1])), (zr, .inl (cB, 400, .inl fz)), (ze, .inl (cI, 4, .inl fe))] s.heap := hP
  have hl := lv_entry [.ref z] (n := 1) (Nat.le_of_ble_eq_true rfl)
  rw [lg_entry_eq]
  generalize (lg_sl [.ref z] ++ List.replicate (1 - (lg_sl [.ref z]).length) Slot.unset).toArray = ls at hl ⊢
  have hl : lv_has ls 1 [(0, .ref z)] := hl
  refine lv_aload_n hx hb d_SystemUse_bytesBehind_0 rfl (lv_at hl 0 rfl) ?_
  refine va_get (D := D) (ci := 8) (v := .ref zb) (C := "DiscMaker$SystemUse") (T := F_SystemUse) (N := 4) hx hb ht9 in_SystemUse hown hK hP 0 rfl rfl 0 (by decide) (ht9 _ k330) (fun _ h9 => h9) rfl d_SystemUse_bytesBehind_1 ?_
  refine va_getN (D := D) (ci := 1) (v := .int L1) (C := "DiscMaker$Bytes") (T := F_Bytes) (N := 2) hx hb ht9 in_Bytes hown hK hP 1 rfl rfl 1 (by decide) (va_Nw.use rfl (hN _ k259)) (fun _ h9 => h9) rfl d_SystemUse_bytesBehind_4 ?_
  refine lv_aload_n hx hb d_SystemUse_bytesBehind_7 rfl (lv_at hl 0 rfl) ?_
  refine va_get (D := D) (ci := 8) (v := .int L1) (C := "DiscMaker$SystemUse") (T := F_SystemUse) (N := 4) hx hb ht9 in_SystemUse hown hK hP 0 rfl rfl 3 (by decide) (ht9 _ k334) (fun _ h9 => h9) rfl d_SystemUse_bytesBehind_8 ?_
  refine lv_isub hx hb d_SystemUse_bytesBehind_11 ?_
  have hP9 := hP.sub (ws' := [(z, .inr (8, [.ref zb, .ref ze, .int kx1, .int L1])), (zb, .inr (1, [.ref zr, .int L1])), (zr, .inl (cB, 400, .inl fz)), (ze, .inl (cI, 4, .inl fe))]) [0, 1, 2, 3] rfl
  have hD9 := hD.sub (ws' := [(z, .inr (8, [.ref zb, .ref ze, .int kx1, .int L1])), (zb, .inr (1, [.ref zr, .int L1])), (zr, .inl (cB, 400, .inl fz)), (ze, .inl (cI, 4, .inl fe))]) [0, 1, 2, 3] (by decide) rfl
  exact W.iret (v := (L1 - L1)) hx hb hr (fun t ht hW => ⟨⟨(L1 - L1), (), rfl, by simp, by rw [ht]; exact hP9, hD9⟩, hS.F ht⟩) hS.2.2 d_SystemUse_bytesBehind_12
