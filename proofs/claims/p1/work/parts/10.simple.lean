theorem d_Text_useUp_0 : decode b_Text_useUp 0 = .ok (.aload_n 0, 1) := by decide +kernel
theorem d_Text_useUp_1 : decode b_Text_useUp 1 = .ok (.getfield 15, 3) := by decide +kernel
theorem d_Text_useUp_4 : decode b_Text_useUp 4 = .ok (.istore_n 1, 1) := by decide +kernel
theorem d_Text_useUp_5 : decode b_Text_useUp 5 = .ok (.aload_n 0, 1) := by decide +kernel
theorem d_Text_useUp_6 : decode b_Text_useUp 6 = .ok (.iconst 0, 1) := by decide +kernel
theorem d_Text_useUp_7 : decode b_Text_useUp 7 = .ok (.putfield 15, 3) := by decide +kernel
theorem d_Text_useUp_10 : decode b_Text_useUp 10 = .ok (.iload_n 1, 1) := by decide +kernel
theorem d_Text_useUp_11 : decode b_Text_useUp 11 = .ok (.ireturn, 1) := by decide +kernel
set_option maxHeartbeats 4000000 in
set_option maxRecDepth 100000 in
theorem c_useUp (l : Launch) (D : va_G) (cB cI cJ cZ cN cF : ClassId) (sz : Nat) (h0 q : Nat) : Met l y_Text_useUp w_Text_useUp ({ frames := 0, cells := 0, slots := 0, locals := 0 }) (va_Pc [.ref h0] (fun U => U.heap.size = sz ∧ va_P D CL [(h0, .inr (9, [.ref q, .int 0]))] U.heap ∧ va_K D CL (TY cB cI cJ cZ cN cF) U ∧ NN U ∧ va_D (fun _ => True) [(h0, .inr (9, [.ref q, .int 0]))])) (va_Qi (fun (r : Int32) (u : Unit) => r = 0) (fun (u : Unit) (t : State) => match u with | () => va_P D CL [(h0, .inr (9, [.ref q, .int 0]))] t.heap ∧ va_D (va_A [(h0, .inr (9, [.ref q, .int 0]))] sz) [(h0, .inr (9, [.ref q, .int 0]))]) (va_A [(h0, .inr (9, [.ref q, .int 0]))] sz)) 0 0 (va_A [(h0, .inr (9, [.ref q, .int 0]))] sz) := by
  refine Met.ofW (cc := b_Text_useUp) (maxL := 2) (ret := some .int) (by decide) rfl ?_
  intro p e s m args below meth c s₁ B hml hv
  obtain ⟨rfl, hsz, hP, hK, hN, hD0⟩ := hv
  have hx := B.exec
  have hb := B.bytes
  have hr := B.returns
  have hts := atoms_spec (ws := w_Text_useUp) B.pre
  have ht9 := fun (w : Cond) (h : w ∈ lw_g) => hts w (List.mem_cons_of_mem _ h)
  have hown : s.vm.findClass "DiscMaker$Text" = some m.cls := findClass_of_methodNamed B.named
  have hlocks := B.notSynchronized
  subst hsz
  have hD := hD0.self (sz := s.heap.size)
  generalize hAe : va_A [(h0, .inr (9, [.ref q, .int 0]))] s.heap.size = A at hD ⊢
  have hA : ∀ q : Nat, s.heap.size ≤ q → A q := fun q h => by rw [← hAe]; exact Or.inr h
  have hS : va_S A s.heap s.heap [] := va_S.rf
  have hP : va_P D CL [(h0, .inr (9, [.ref q, .int 0]))] s.heap := hP
  have hl := lv_entry [.ref h0] (n := 2) (Nat.le_of_ble_eq_true rfl)
  rw [lg_entry_eq]
  generalize (lg_sl [.ref h0] ++ List.replicate (2 - (lg_sl [.ref h0]).length) Slot.unset).toArray = ls at hl ⊢
  have hl : lv_has ls 2 [(0, .ref h0)] := hl
  refine lv_aload_n hx hb d_Text_useUp_0 rfl (lv_at hl 0 rfl) ?_
  refine va_get (D := D) (ci := 9) (v := .int 0) (C := "DiscMaker$Text") (T := F_Text) (N := 2) hx hb ht9 in_Text hown hK hP 0 rfl rfl 1 (by decide) (ht9 _ k158) (fun _ h9 => h9) rfl d_Text_useUp_1 ?_
  refine lv_istore_n hx hb d_Text_useUp_4 rfl hl (by decide) rfl (fun ls hl => ?_)
  have hl : lv_has ls 2 [(1, .int 0), (0, .ref h0)] := hl
  refine lv_aload_n hx hb d_Text_useUp_5 rfl (lv_at hl 1 rfl) ?_
  refine lv_iconst (v := 0) hx hb d_Text_useUp_6 (by decide) ?_
  refine va_put (D := D) (ci := 9) (v := .int 0) (ty := .int) (C := "DiscMaker$Text") (T := F_Text) (N := 2) hx hb ht9 in_Text t_Text t_Text_ok n_Text hown hK hP hD hS 0 rfl rfl 1 (by decide) (ht9 _ k158) (fun _ h9 => h9) rfl (by decide +kernel) rfl rfl (Nat.le_of_ble_eq_true rfl) d_Text_useUp_7 (fun H locs hP hD hS => ?_)
  have hP : va_P D CL [(h0, .inr (9, [.ref q, .int 0]))] H := hP
  have hD : va_D A [(h0, .inr (9, [.ref q, .int 0]))] := hD
  refine lv_iload_n hx hb d_Text_useUp_10 rfl (lv_at hl 0 rfl) ?_
  have hP9 := hP.sub (ws' := [(h0, .inr (9, [.ref q, .int 0]))]) [0] rfl
  have hD9 := hD.sub (ws' := [(h0, .inr (9, [.ref q, .int 0]))]) [0] (by decide) rfl
  exact W.iret (v := 0) hx hb hr (fun t ht hW => ⟨⟨0, (), rfl, rfl, by rw [ht]; exact hP9, hD9⟩, hS.F ht⟩) hS.2.2 d_Text_useUp_11

theorem d_Text_part_0 : decode b_Text_part 0 = .ok (.iload_n 1, 1) := by decide +kernel
theorem d_Text_part_1 : decode b_Text_part 1 = .ok (.iload_n 2, 1) := by decide +kernel
theorem d_Text_part_2 : decode b_Text_part 2 = .ok (.if_icmp .ge 15, 3) := by decide +kernel
theorem d_Text_part_17 : decode b_Text_part 17 = .ok (.iconst 0, 1) := by decide +kernel
theorem d_Text_part_18 : decode b_Text_part 18 = .ok (.newarray .byte, 2) := by decide +kernel
theorem d_Text_part_20 : decode b_Text_part 20 = .ok (.areturn, 1) := by decide +kernel
set_option maxHeartbeats 4000000 in
set_option maxRecDepth 100000 in
theorem c_part (l : Launch) (D : va_G) (cB cI cJ cZ cN cF : ClassId) (sz : Nat) (h0 : Nat) (x y : Int32) (hxy : y ≤ x) : Met l y_Text_part w_Text_part ({ frames := 0, cells := 1, slots := 0, locals := 0 }) (va_Pc [.ref h0, .int x, .int y] (fun U => U.heap.size = sz ∧ va_P D CL [] U.heap ∧ va_K D CL (TY cB cI cJ cZ cN cF) U ∧ NN U ∧ va_D (fun _ => True) [])) (va_Qr (fun (u : Unit) => True) (fun (u : Unit) (a : Nat) (t : State) => match u with | () => va_P D CL [(a, .inl (cB, 0, .inl (fun _ => 0)))] t.heap ∧ va_D (va_A [] sz) [(a, .inl (cB, 0, .inl (fun _ => 0)))]) (va_A [] sz)) 1 0 (va_A [] sz) := by
  refine Met.ofW (cc := b_Text_part) (maxL := 3) (ret := some (.array .byte)) (by decide) rfl ?_
  intro p e s m args below meth c s₁ B hml hv
  obtain ⟨rfl, hsz, hP, hK, hN, hD0⟩ := hv
  have hx := B.exec
  have hb := B.bytes
  have hr := B.returns
  have hts := atoms_spec (ws := w_Text_part) B.pre
  have ht9 := fun (w : Cond) (h : w ∈ lw_g) => hts w (List.mem_cons_of_mem _ h)
  have hown : s.vm.findClass "DiscMaker$Text" = some m.cls := findClass_of_methodNamed B.named
  have hlocks := B.notSynchronized
  subst hsz
  have hD := hD0.self (sz := s.heap.size)
  generalize hAe : va_A [] s.heap.size = A at hD ⊢
  have hA : ∀ q : Nat, s.heap.size ≤ q → A q := fun q h => by rw [← hAe]; exact Or.inr h
  have hS : va_S A s.heap s.heap [] := va_S.rf
  have hP : va_P D CL [] s.heap := hP
  have hl := lv_entry [.ref h0, .int x, .int y] (n := 3) (Nat.le_of_ble_eq_true rfl)
  rw [lg_entry_eq]
  generalize (lg_sl [.ref h0, .int x, .int y] ++ List.replicate (3 - (lg_sl [.ref h0, .int x, .int y]).length) Slot.unset).toArray = ls at hl ⊢
  have hl : lv_has ls 3 [(0, .ref h0), (1, .int x), (2, .int y)] := hl
  refine lv_iload_n hx hb d_Text_part_0 rfl (lv_at hl 1 rfl) ?_
  refine lv_iload_n hx hb d_Text_part_1 rfl (lv_at hl 2 rfl) ?_
  refine lv_icmp_ge (tgt := 17) hx hb d_Text_part_2 (by decide) (fun h_2 => ?_) (fun h_2 => absurd (hxy) h_2)
  refine lv_iconst (v := 0) hx hb d_Text_part_17 (by decide) ?_
  have hc_18 : 1 ≤ 1 := by decide
  have hs_18 : 0 ≤ 0 := by decide
  refine zz_newa (atype := .byte) (cK := cB) (ty := .byte) (N' := 0) (a0 := (0, .inl (fun _ => 0))) 0 (fun _ _ _ h1 h2 => Option.some.inj (h1.symm.trans h2)) rfl hx hb (ht9 _ k164) rfl hK hP hD hS hA (fun _ => rfl) (by decide) (by decide) (by decide) hc_18 hs_18 d_Text_part_18 (fun q18 H hP hD hS => ?_)
  have hP : va_P D CL [(q18, .inl (cB, 0, .inl (fun _ => 0)))] H := hP
  have hD : va_D A [(q18, .inl (cB, 0, .inl (fun _ => 0)))] := hD
  refine W.widen (k := 1) (n := 0) (by decide) (by decide) ?_
  have hP9 := hP.sub (ws' := [(q18, .inl (cB, 0, .inl (fun _ => 0)))]) [0] rfl
  have hD9 := hD.sub (ws' := [(q18, .inl (cB, 0, .inl (fun _ => 0)))]) [0] (by decide) rfl
  exact W.aret (v := .ref q18) hx hb hr (Or.inr ⟨_, rfl⟩) (Or.inr ⟨_, rfl⟩) (fun t ht hW => ⟨⟨(), q18, rfl, trivial, by rw [ht]; exact hP9, hD9⟩, hS.F ht⟩) hS.2.2 d_Text_part_20

theorem d_Text_findZero_0 : decode b_Text_findZero 0 = .ok (.iconst 0, 1) := by decide +kernel
theorem d_Text_findZero_1 : decode b_Text_findZero 1 = .ok (.istore_n 2, 1) := by decide +kernel
theorem d_Text_findZero_2 : decode b_Text_findZero 2 = .ok (.iload_n 2, 1) := by decide +kernel
theorem d_Text_findZero_3 : decode b_Text_findZero 3 = .ok (.iload_n 1, 1) := by decide +kernel
theorem d_Text_findZero_4 : decode b_Text_findZero 4 = .ok (.if_icmp .ge 20, 3) := by decide +kernel
theorem d_Text_findZero_24 : decode b_Text_findZero 24 = .ok (.iload_n 1, 1) := by decide +kernel
theorem d_Text_findZero_25 : decode b_Text_findZero 25 = .ok (.ireturn, 1) := by decide +kernel
set_option maxHeartbeats 4000000 in
set_option maxRecDepth 100000 in
theorem c_findZero (l : Launch) (D : va_G) (cB cI cJ cZ cN cF : ClassId) (sz : Nat) (h0 : Nat) : Met l y_Text_findZero w_Text_findZero ({ frames := 0, cells := 0, slots := 0, locals := 0 }) (va_Pc [.ref h0, .int 0] (fun U => U.heap.size = sz ∧ va_P D CL [] U.heap ∧ va_K D CL (TY cB cI cJ cZ cN cF) U ∧ NN U ∧ va_D (fun _ => True) [])) (va_Qi (fun (r : Int32) (u : Unit) => r = 0) (fun (u : Unit) (t : State) => match u with | () => va_P D CL [] t.heap ∧ va_D (va_A [] sz) []) (va_A [] sz)) 0 0 (va_A [] sz) := by
  refine Met.ofW (cc := b_Text_findZero) (maxL := 3) (ret := some .int) (by decide) rfl ?_
  intro p e s m args below meth c s₁ B hml hv
  obtain ⟨rfl, hsz, hP, hK, hN, hD0⟩ := hv
  have hx := B.exec
  have hb := B.bytes
  have hr := B.returns
  have hts := atoms_spec (ws := w_Text_findZero) B.pre
  have ht9 := fun (w : Cond) (h : w ∈ lw_g) => hts w (List.mem_cons_of_mem _ h)
  have hown : s.vm.findClass "DiscMaker$Text" = some m.cls := findClass_of_methodNamed B.named
  have hlocks := B.notSynchronized
  subst hsz
  have hD := hD0.self (sz := s.heap.size)
  generalize hAe : va_A [] s.heap.size = A at hD ⊢
  have hA : ∀ q : Nat, s.heap.size ≤ q → A q := fun q h => by rw [← hAe]; exact Or.inr h
  have hS : va_S A s.heap s.heap [] := va_S.rf
  have hP : va_P D CL [] s.heap := hP
  have hl := lv_entry [.ref h0, .int 0] (n := 3) (Nat.le_of_ble_eq_true rfl)
  rw [lg_entry_eq]
  generalize (lg_sl [.ref h0, .int 0] ++ List.replicate (3 - (lg_sl [.ref h0, .int 0]).length) Slot.unset).toArray = ls at hl ⊢
  have hl : lv_has ls 3 [(0, .ref h0), (1, .int 0)] := hl
  refine lv_iconst (v := 0) hx hb d_Text_findZero_0 (by decide) ?_
  refine lv_istore_n hx hb d_Text_findZero_1 rfl hl (by decide) rfl (fun ls hl => ?_)
  have hl : lv_has ls 3 [(2, .int 0), (0, .ref h0), (1, .int 0)] := hl
  refine lv_iload_n hx hb d_Text_findZero_2 rfl (lv_at hl 0 rfl) ?_
  refine lv_iload_n hx hb d_Text_findZero_3 rfl (lv_at hl 2 rfl) ?_
  refine lv_icmp_ge (tgt := 24) hx hb d_Text_findZero_4 (by decide) (fun h_4 => ?_) (fun h_4 => absurd (by decide) h_4)
  refine lv_iload_n hx hb d_Text_findZero_24 rfl (lv_at hl 2 rfl) ?_
  have hP9 := hP.sub (ws' := []) [] rfl
  have hD9 := hD.sub (ws' := []) [] (by decide) rfl
  exact W.iret (v := 0) hx hb hr (fun t ht hW => ⟨⟨0, (), rfl, rfl, by rw [ht]; exact hP9, hD9⟩, hS.F ht⟩) hS.2.2 d_Text_findZero_25

theorem d_DiscMaker_isTarget_0 : decode b_DiscMaker_isTarget 0 = .ok (.aload_n 0, 1) := by decide +kernel
theorem d_DiscMaker_isTarget_1 : decode b_DiscMaker_isTarget 1 = .ok (.arraylength, 1) := by decide +kernel
theorem d_DiscMaker_isTarget_2 : decode b_DiscMaker_isTarget 2 = .ok (.iconst 1, 1) := by decide +kernel
theorem d_DiscMaker_isTarget_3 : decode b_DiscMaker_isTarget 3 = .ok (.if_icmp .lt 11, 3) := by decide +kernel
theorem d_DiscMaker_isTarget_14 : decode b_DiscMaker_isTarget 14 = .ok (.iconst 0, 1) := by decide +kernel
theorem d_DiscMaker_isTarget_15 : decode b_DiscMaker_isTarget 15 = .ok (.ireturn, 1) := by decide +kernel
set_option maxHeartbeats 4000000 in
set_option maxRecDepth 100000 in
theorem c_isTarget (l : Launch) (D : va_G) (cB cI cJ cZ cN cF : ClassId) (sz : Nat) (q : Nat) (f : Nat → Int32) : Met l y_DiscMaker_isTarget w_DiscMaker_isTarget ({ frames := 0, cells := 0, slots := 0, locals := 0 }) (va_Pc [.ref q] (fun U => U.heap.size = sz ∧ va_P D CL [(q, .inl (cB, 0, .inl f))] U.heap ∧ va_K D CL (TY cB cI cJ cZ cN cF) U ∧ NN U ∧ va_D (fun _ => True) [(q, .inl (cB, 0, .inl f))])) (va_Qi (fun (r : Int32) (u : Unit) => r = 0) (fun (u : Unit) (t : State) => match u with | () => va_P D CL [(q, .inl (cB, 0, .inl f))] t.heap ∧ va_D (va_A [(q, .inl (cB, 0, .inl f))] sz) [(q, .inl (cB, 0, .inl f))]) (va_A [(q, .inl (cB, 0, .inl f))] sz)) 0 0 (va_A [(q, .inl (cB, 0, .inl f))] sz) := by
  refine Met.ofW (cc := b_DiscMaker_isTarget) (maxL := 2) (ret := some .boolean) (by decide) rfl ?_
  intro p e s m args below meth c s₁ B hml hv
  obtain ⟨rfl, hsz, hP, hK, hN, hD0⟩ := hv
  have hx := B.exec
  have hb := B.bytes
  have hr := B.returns
  have hts := atoms_spec (ws := w_DiscMaker_isTarget) B.pre
  have ht9 := fun (w : Cond) (h : w ∈ lw_g) => hts w (List.mem_cons_of_mem _ h)
  have hown : s.vm.findClass "DiscMaker" = some m.cls := findClass_of_methodNamed B.named
  have hlocks := B.notSynchronized
  subst hsz
  have hD := hD0.self (sz := s.heap.size)
  generalize hAe : va_A [(q, .inl (cB, 0, .inl f))] s.heap.size = A at hD ⊢
  have hA : ∀ q : Nat, s.heap.size ≤ q → A q := fun q h => by rw [← hAe]; exact Or.inr h
  have hS : va_S A s.heap s.heap [] := va_S.rf
  have hP : va_P D CL [(q, .inl (cB, 0, .inl f))] s.heap := hP
  have hl := lv_entry [.ref q] (n := 2) (Nat.le_of_ble_eq_true rfl)
  rw [lg_entry_eq]
  generalize (lg_sl [.ref q] ++ List.replicate (2 - (lg_sl [.ref q]).length) Slot.unset).toArray = ls at hl ⊢
  have hl : lv_has ls 2 [(0, .ref q)] := hl
  refine lv_aload_n hx hb d_DiscMaker_isTarget_0 rfl (lv_at hl 0 rfl) ?_
  refine va_alen (v := 0) hx hb hK hP 0 0 rfl rfl rfl d_DiscMaker_isTarget_1 ?_
  refine lv_iconst (v := 1) hx hb d_DiscMaker_isTarget_2 (by decide) ?_
  refine lv_icmp_lt (tgt := 14) hx hb d_DiscMaker_isTarget_3 (by decide) (fun h_3 => ?_) (fun h_3 => absurd (by decide) h_3)
  refine lv_iconst (v := 0) hx hb d_DiscMaker_isTarget_14 (by decide) ?_
  have hP9 := hP.sub (ws' := [(q, .inl (cB, 0, .inl f))]) [0] rfl
  have hD9 := hD.sub (ws' := [(q, .inl (cB, 0, .inl f))]) [0] (by decide) rfl
  exact W.zret (v := 0) hx hb hr (by first | rfl | decide) (fun t ht hW => ⟨⟨0, (), rfl, rfl, by rw [ht]; exact hP9, hD9⟩, hS.F ht⟩) hS.2.2 d_DiscMaker_isTarget_15

theorem d_DiscMaker_isName_0 : decode b_DiscMaker_isName 0 = .ok (.aload_n 0, 1) := by decide +kernel
theorem d_DiscMaker_isName_1 : decode b_DiscMaker_isName 1 = .ok (.arraylength, 1) := by decide +kernel
theorem d_DiscMaker_isName_2 : decode b_DiscMaker_isName 2 = .ok (.iconst 1, 1) := by decide +kernel
theorem d_DiscMaker_isName_3 : decode b_DiscMaker_isName 3 = .ok (.if_icmp .lt 10, 3) := by decide +kernel
theorem d_DiscMaker_isName_13 : decode b_DiscMaker_isName 13 = .ok (.iconst 0, 1) := by decide +kernel
theorem d_DiscMaker_isName_14 : decode b_DiscMaker_isName 14 = .ok (.ireturn, 1) := by decide +kernel
set_option maxHeartbeats 4000000 in
set_option maxRecDepth 100000 in
theorem c_isName (l : Launch) (D : va_G) (cB cI cJ cZ cN cF : ClassId) (sz : Nat) (q : Nat) (f : Nat → Int32) : Met l y_DiscMaker_isName w_DiscMaker_isName ({ frames := 0, cells := 0, slots := 0, locals := 0 }) (va_Pc [.ref q] (fun U => U.heap.size = sz ∧ va_P D CL [(q, .inl (cB, 0, .inl f))] U.heap ∧ va_K D CL (TY cB cI cJ cZ cN cF) U ∧ NN U ∧ va_D (fun _ => True) [(q, .inl (cB, 0, .inl f))])) (va_Qi (fun (r : Int32) (u : Unit) => r = 0) (fun (u : Unit) (t : State) => match u with | () => va_P D CL [(q, .inl (cB, 0, .inl f))] t.heap ∧ va_D (va_A [(q, .inl (cB, 0, .inl f))] sz) [(q, .inl (cB, 0, .inl f))]) (va_A [(q, .inl (cB, 0, .inl f))] sz)) 0 0 (va_A [(q, .inl (cB, 0, .inl f))] sz) := by
  refine Met.ofW (cc := b_DiscMaker_isName) (maxL := 3) (ret := some .boolean) (by decide) rfl ?_
  intro p e s m args below meth c s₁ B hml hv
  obtain ⟨rfl, hsz, hP, hK, hN, hD0⟩ := hv
  have hx := B.exec
  have hb := B.bytes
  have hr := B.returns
  have hts := atoms_spec (ws := w_DiscMaker_isName) B.pre
  have ht9 := fun (w : Cond) (h : w ∈ lw_g) => hts w (List.mem_cons_of_mem _ h)
  have hown : s.vm.findClass "DiscMaker" = some m.cls := findClass_of_methodNamed B.named
  have hlocks := B.notSynchronized
  subst hsz
  have hD := hD0.self (sz := s.heap.size)
  generalize hAe : va_A [(q, .inl (cB, 0, .inl f))] s.heap.size = A at hD ⊢
  have hA : ∀ q : Nat, s.heap.size ≤ q → A q := fun q h => by rw [← hAe]; exact Or.inr h
  have hS : va_S A s.heap s.heap [] := va_S.rf
  have hP : va_P D CL [(q, .inl (cB, 0, .inl f))] s.heap := hP
  have hl := lv_entry [.ref q] (n := 3) (Nat.le_of_ble_eq_true rfl)
  rw [lg_entry_eq]
  generalize (lg_sl [.ref q] ++ List.replicate (3 - (lg_sl [.ref q]).length) Slot.unset).toArray = ls at hl ⊢
  have hl : lv_has ls 3 [(0, .ref q)] := hl
  refine lv_aload_n hx hb d_DiscMaker_isName_0 rfl (lv_at hl 0 rfl) ?_
  refine va_alen (v := 0) hx hb hK hP 0 0 rfl rfl rfl d_DiscMaker_isName_1 ?_
  refine lv_iconst (v := 1) hx hb d_DiscMaker_isName_2 (by decide) ?_
  refine lv_icmp_lt (tgt := 13) hx hb d_DiscMaker_isName_3 (by decide) (fun h_3 => ?_) (fun h_3 => absurd (by decide) h_3)
  refine lv_iconst (v := 0) hx hb d_DiscMaker_isName_13 (by decide) ?_
  have hP9 := hP.sub (ws' := [(q, .inl (cB, 0, .inl f))]) [0] rfl
  have hD9 := hD.sub (ws' := [(q, .inl (cB, 0, .inl f))]) [0] (by decide) rfl
  exact W.zret (v := 0) hx hb hr (by first | rfl | decide) (fun t ht hW => ⟨⟨0, (), rfl, rfl, by rw [ht]; exact hP9, hD9⟩, hS.F ht⟩) hS.2.2 d_DiscMaker_isName_14

theorem d_Tree_hasDirectory_0 : decode b_Tree_hasDirectory 0 = .ok (.aload_n 0, 1) := by decide +kernel
theorem d_Tree_hasDirectory_1 : decode b_Tree_hasDirectory 1 = .ok (.iload_n 1, 1) := by decide +kernel
theorem d_Tree_hasDirectory_2 : decode b_Tree_hasDirectory 2 = .ok (.invokevirtual 27, 3) := by decide +kernel
theorem d_Tree_hasDirectory_5 : decode b_Tree_hasDirectory 5 = .ok (.ifCond .eq 19, 3) := by decide +kernel
theorem d_Tree_hasDirectory_8 : decode b_Tree_hasDirectory 8 = .ok (.aload_n 0, 1) := by decide +kernel
theorem d_Tree_hasDirectory_9 : decode b_Tree_hasDirectory 9 = .ok (.getfield 11, 3) := by decide +kernel
theorem d_Tree_hasDirectory_12 : decode b_Tree_hasDirectory 12 = .ok (.iload_n 1, 1) := by decide +kernel
theorem d_Tree_hasDirectory_13 : decode b_Tree_hasDirectory 13 = .ok (.aaload, 1) := by decide +kernel
theorem d_Tree_hasDirectory_14 : decode b_Tree_hasDirectory 14 = .ok (.getfield 31, 3) := by decide +kernel
theorem d_Tree_hasDirectory_17 : decode b_Tree_hasDirectory 17 = .ok (.ifCond .ne 7, 3) := by decide +kernel
theorem d_Tree_hasDirectory_20 : decode b_Tree_hasDirectory 20 = .ok (.iconst 1, 1) := by decide +kernel
theorem d_Tree_hasDirectory_21 : decode b_Tree_hasDirectory 21 = .ok (.goto 4, 3) := by decide +kernel
theorem d_Tree_hasDirectory_24 : decode b_Tree_hasDirectory 24 = .ok (.iconst 0, 1) := by decide +kernel
theorem d_Tree_hasDirectory_25 : decode b_Tree_hasDirectory 25 = .ok (.ireturn, 1) := by decide +kernel
set_option maxHeartbeats 4000000 in
set_option maxRecDepth 100000 in
theorem c_hasDirectory (l : Launch) (D : va_G) (cB cI cJ cZ cN cF : ClassId) (sz : Nat) (tr qa qn qm qk qt : Nat) (n : Int32) : Met l y_Tree_hasDirectory w_Tree_hasDirectory ({ frames := 1, cells := 0, slots := 0, locals := 21 }) (va_Pc [.ref tr, .int n] (fun U => U.heap.size = sz ∧ va_P D CL [(tr, .inr (10, [.ref qa, .int 1, .int 1])), (qa, .inl (cN, 40, .inr (.inr (.inr (.inr (va_up (fun _ => none) 0 (some qn))))))), (qn, .inr (5, [.int 0, .ref qm, .ref qk, .ref qt, .int 0, .int 0, .int 0, .int 16877, .int 0, .int 0, .int 0, .int 0]))] U.heap ∧ va_K D CL (TY cB cI cJ cZ cN cF) U ∧ NN U ∧ va_D (fun _ => True) [(tr, .inr (10, [.ref qa, .int 1, .int 1])), (qa, .inl (cN, 40, .inr (.inr (.inr (.inr (va_up (fun _ => none) 0 (some qn))))))), (qn, .inr (5, [.int 0, .ref qm, .ref qk, .ref qt, .int 0, .int 0, .int 0, .int 16877, .int 0, .int 0, .int 0, .int 0]))])) (va_Qi (fun (r : Int32) (u : Unit) => (r = 1 ∧ True) ∨ (r = 0 ∧ True)) (fun (u : Unit) (t : State) => match u with | () => va_P D CL [(tr, .inr (10, [.ref qa, .int 1, .int 1])), (qa, .inl (cN, 40, .inr (.inr (.inr (.inr (va_up (fun _ => none) 0 (some qn))))))), (qn, .inr (5, [.int 0, .ref qm, .ref qk, .ref qt, .int 0, .int 0, .int 0, .int 16877, .int 0, .int 0, .int 0, .int 0]))] t.heap ∧ va_D (va_A [(tr, .inr (10, [.ref qa, .int 1, .int 1])), (qa, .inl (cN, 40, .inr (.inr (.inr (.inr (va_up (fun _ => none) 0 (some qn))))))), (qn, .inr (5, [.int 0, .ref qm, .ref qk, .ref qt, .int 0, .int 0, .int 0, .int 16877, .int 0, .int 0, .int 0, .int 0]))] sz) [(tr, .inr (10, [.ref qa, .int 1, .int 1])), (qa, .inl (cN, 40, .inr (.inr (.inr (.inr (va_up (fun _ => none) 0 (some qn))))))), (qn, .inr (5, [.int 0, .ref qm, .ref qk, .ref qt, .int 0, .int 0, .int 0, .int 16877, .int 0, .int 0, .int 0, .int 0]))]) (va_A [(tr, .inr (10, [.ref qa, .int 1, .int 1])), (qa, .inl (cN, 40, .inr (.inr (.inr (.inr (va_up (fun _ => none) 0 (some qn))))))), (qn, .inr (5, [.int 0, .ref qm, .ref qk, .ref qt, .int 0, .int 0, .int 0, .int 16877, .int 0, .int 0, .int 0, .int 0]))] sz)) 0 0 (va_A [(tr, .inr (10, [.ref qa, .int 1, .int 1])), (qa, .inl (cN, 40, .inr (.inr (.inr (.inr (va_up (fun _ => none) 0 (some qn))))))), (qn, .inr (5, [.int 0, .ref qm, .ref qk, .ref qt, .int 0, .int 0, .int 0, .int 16877, .int 0, .int 0, .int 0, .int 0]))] sz) := by
  refine Met.ofW (cc := b_Tree_hasDirectory) (maxL := 2) (ret := some .boolean) (by decide) rfl ?_
  intro p e s m args below meth c s₁ B hml hv
  obtain ⟨rfl, hsz, hP, hK, hN, hD0⟩ := hv
  have hx := B.exec
  have hb := B.bytes
  have hr := B.returns
  have hts := atoms_spec (ws := w_Tree_hasDirectory) B.pre
  have ht9 := fun (w : Cond) (h : w ∈ lw_g) => hts w (List.mem_cons_of_mem _ h)
  have hown : s.vm.findClass "DiscMaker$Tree" = some m.cls := findClass_of_methodNamed B.named
  have hlocks := B.notSynchronized
  subst hsz
  have hD := hD0.self (sz := s.heap.size)
  generalize hAe : va_A [(tr, .inr (10, [.ref qa, .int 1, .int 1])), (qa, .inl (cN, 40, .inr (.inr (.inr (.inr (va_up (fun _ => none) 0 (some qn))))))), (qn, .inr (5, [.int 0, .ref qm, .ref qk, .ref qt, .int 0, .int 0, .int 0, .int 16877, .int 0, .int 0, .int 0, .int 0]))] s.heap.size = A at hD ⊢
  have hA : ∀ q : Nat, s.heap.size ≤ q → A q := fun q h => by rw [← hAe]; exact Or.inr h
  have hS : va_S A s.heap s.heap [] := va_S.rf
  have hP : va_P D CL [(tr, .inr (10, [.ref qa, .int 1, .int 1])), (qa, .inl (cN, 40, .inr (.inr (.inr (.inr (va_up (fun _ => none) 0 (some qn))))))), (qn, .inr (5, [.int 0, .ref qm, .ref qk, .ref qt, .int 0, .int 0, .int 0, .int 16877, .int 0, .int 0, .int 0, .int 0]))] s.heap := hP
  have hl := lv_entry [.ref tr, .int n] (n := 2) (Nat.le_of_ble_eq_true rfl)
  rw [lg_entry_eq]
  generalize (lg_sl [.ref tr, .int n] ++ List.replicate (2 - (lg_sl [.ref tr, .int n]).length) Slot.unset).toArray = ls at hl ⊢
  have hl : lv_has ls 2 [(0, .ref tr), (1, .int n)] := hl
  refine lv_aload_n hx hb d_Tree_hasDirectory_0 rfl (lv_at hl 0 rfl) ?_
  refine lv_iload_n hx hb d_Tree_hasDirectory_1 rfl (lv_at hl 1 rfl) ?_
  have hPc := hP.sub (ws' := [(tr, .inr (10, [.ref qa, .int 1, .int 1]))]) [0] rfl
  have hDc := hD.sub (ws' := [(tr, .inr (10, [.ref qa, .int 1, .int 1]))]) [0] (by decide) rfl
  have hFc := va_free (wc := [(tr, .inr (10, [.ref qa, .int 1, .int 1]))]) hD hS hA [0] rfl
  have hkc : 0 ≤ 0 := by decide
  have hks : 0 ≤ 0 := by decide
  refine va_calli (va_runV (C := "DiscMaker$Tree") (As := [.int n]) (rest := []) ⟨hx, hb, hml, hown, hts⟩ (c_Tree_has l D cB cI cJ cZ cN cF s.heap.size tr qa n) (cwV 1 hts (lg_goodV k799 k800 k801 k117 kc_Tree_has) rfl rfl rfl (by decide +kernel) ⟨Nat.le_of_ble_eq_true rfl, Nat.le_of_ble_eq_true rfl⟩) ⟨fun a U g mk q => by obtain ⟨q0, q1, qP, qK, qN, qD⟩ := q; exact ⟨q0, q1, qP, va_K.moved (u := U) (U := U.calling g mk a) (Vm.Alike.refl U.vm) qK, qN.calling, qD⟩, va_recv hK hP (ci := 10) (q0 := 0) rfl rfl, fun U hU hW => ⟨rfl, by rw [hU], by rw [hU]; exact hPc, va_K.moved hW.alike hK, NN.warm hW hN, hDc.weaken (fun _ _ _ _ => trivial)⟩⟩ rfl rfl hl.1 rfl (lv_room (Nat.le_of_ble_eq_true rfl)) d_Tree_hasDirectory_2 ⟨hkc, hks⟩) hS (fun q _ h => hFc q h) hFc (fun r2 u t H1 locs ht hvm hp_2 hB hz1 hk1 hS => ?_)
  obtain ⟨hP1, hD1⟩ := hB
  rw [ht] at hP1
  try dsimp only at hp_2
  obtain ⟨hP, hD⟩ := va_join (wr := [(qa, .inl (cN, 40, .inr (.inr (.inr (.inr (va_up (fun _ => none) 0 (some qn))))))), (qn, .inr (5, [.int 0, .ref qm, .ref qk, .ref qt, .int 0, .int 0, .int 0, .int 16877, .int 0, .int 0, .int 0, .int 0]))]) (w1 := [(tr, .inr (10, [.ref qa, .int 1, .int 1]))]) hP hD [0] [1, 2] rfl rfl (by decide) (by decide) hk1 hFc hP1 hD1
  clear hPc hDc hFc hP1 hD1 hk1 hz1
  generalize H1 = H at hP hS ⊢
  have hP : va_P D CL [(qa, .inl (cN, 40, .inr (.inr (.inr (.inr (va_up (fun _ => none) 0 (some qn))))))), (qn, .inr (5, [.int 0, .ref qm, .ref qk, .ref qt, .int 0, .int 0, .int 0, .int 16877, .int 0, .int 0, .int 0, .int 0])), (tr, .inr (10, [.ref qa, .int 1, .int 1]))] H := hP
  have hD : va_D A [(qa, .inl (cN, 40, .inr (.inr (.inr (.inr (va_up (fun _ => none) 0 (some qn))))))), (qn, .inr (5, [.int 0, .ref qm, .ref qk, .ref qt, .int 0, .int 0, .int 0, .int 16877, .int 0, .int 0, .int 0, .int 0])), (tr, .inr (10, [.ref qa, .int 1, .int 1]))] := hD
  rcases hp_2 with ⟨rfl, hn0⟩ | ⟨rfl, hn0⟩
  · skip
    subst hn0
    refine lv_if_eq (tgt := 24) hx hb d_Tree_hasDirectory_5 (by decide) (fun h_5 => absurd h_5 (by decide)) (fun h_5 => ?_)
    refine lv_aload_n hx hb d_Tree_hasDirectory_8 rfl (lv_at hl 0 rfl) ?_
    refine va_get (D := D) (ci := 10) (v := .ref qa) (C := "DiscMaker$Tree") (T := F_Tree) (N := 3) hx hb ht9 in_Tree hown hK hP 2 rfl rfl 0 (by decide) (ht9 _ k235) (fun _ h9 => h9) rfl d_Tree_hasDirectory_9 ?_
    refine lv_iload_n hx hb d_Tree_hasDirectory_12 rfl (lv_at hl 1 rfl) ?_
    refine va_aldq hx hb hK hP 0 4 rfl rfl (by unfold vp_in; decide) d_Tree_hasDirectory_13 ?_
    refine W.eq (g2 := F0 m 14 ls [.ref qn]) (by rfl) ?_
    refine va_getN (D := D) (ci := 5) (v := .int 0) (C := "DiscMaker$Node") (T := F_Node) (N := 12) hx hb ht9 in_Node hown hK hP 1 rfl rfl 0 (by decide) (va_Nw.use rfl (hN _ k180)) (fun _ h9 => h9) rfl d_Tree_hasDirectory_14 ?_
    refine lv_if_ne (tgt := 24) hx hb d_Tree_hasDirectory_17 (by decide) (fun h_17 => absurd (by decide) h_17) (fun h_17 => ?_)
    refine lv_iconst (v := 1) hx hb d_Tree_hasDirectory_20 (by decide) ?_
    refine lv_goto (tgt := 25) hx hb d_Tree_hasDirectory_21 (by decide) ?_
    have hP9 := hP.sub (ws' := [(tr, .inr (10, [.ref qa, .int 1, .int 1])), (qa, .inl (cN, 40, .inr (.inr (.inr (.inr (va_up (fun _ => none) 0 (some qn))))))), (qn, .inr (5, [.int 0, .ref qm, .ref qk, .ref qt, .int 0, .int 0, .int 0, .int 16877, .int 0, .int 0, .int 0, .int 0]))]) [2, 0, 1] rfl
    have hD9 := hD.sub (ws' := [(tr, .inr (10, [.ref qa, .int 1, .int 1])), (qa, .inl (cN, 40, .inr (.inr (.inr (.inr (va_up (fun _ => none) 0 (some qn))))))), (qn, .inr (5, [.int 0, .ref qm, .ref qk, .ref qt, .int 0, .int 0, .int 0, .int 16877, .int 0, .int 0, .int 0, .int 0]))]) [2, 0, 1] (by decide) rfl
    exact W.zret (v := 1) hx hb hr (by first | rfl | decide) (fun t ht hW => ⟨⟨1, (), rfl, by first | exact Or.inl ⟨rfl, trivial⟩ | exact Or.inr ⟨rfl, trivial⟩, by rw [ht]; exact hP9, hD9⟩, hS.F ht⟩) hS.2.2 d_Tree_hasDirectory_25
  · skip
    refine lv_if_eq (tgt := 24) hx hb d_Tree_hasDirectory_5 (by decide) (fun h_5 => ?_) (fun h_5 => absurd (by decide) h_5)
    refine lv_iconst (v := 0) hx hb d_Tree_hasDirectory_24 (by decide) ?_
    have hP9 := hP.sub (ws' := [(tr, .inr (10, [.ref qa, .int 1, .int 1])), (qa, .inl (cN, 40, .inr (.inr (.inr (.inr (va_up (fun _ => none) 0 (some qn))))))), (qn, .inr (5, [.int 0, .ref qm, .ref qk, .ref qt, .int 0, .int 0, .int 0, .int 16877, .int 0, .int 0, .int 0, .int 0]))]) [2, 0, 1] rfl
    have hD9 := hD.sub (ws' := [(tr, .inr (10, [.ref qa, .int 1, .int 1])), (qa, .inl (cN, 40, .inr (.inr (.inr (.inr (va_up (fun _ => none) 0 (some qn))))))), (qn, .inr (5, [.int 0, .ref qm, .ref qk, .ref qt, .int 0, .int 0, .int 0, .int 16877, .int 0, .int 0, .int 0, .int 0]))]) [2, 0, 1] (by decide) rfl
    exact W.zret (v := 0) hx hb hr (by first | rfl | decide) (fun t ht hW => ⟨⟨0, (), rfl, by first | exact Or.inl ⟨rfl, trivial⟩ | exact Or.inr ⟨rfl, trivial⟩, by rw [ht]; exact hP9, hD9⟩, hS.F ht⟩) hS.2.2 d_Tree_hasDirectory_25

theorem d_DiscMaker_grow_0 : decode b_DiscMaker_grow 0 = .ok (.aload_n 0, 1) := by decide +kernel
theorem d_DiscMaker_grow_1 : decode b_DiscMaker_grow 1 = .ok (.getfield 19, 3) := by decide +kernel
theorem d_DiscMaker_grow_4 : decode b_DiscMaker_grow 4 = .ok (.iload_n 1, 1) := by decide +kernel
theorem d_DiscMaker_grow_5 : decode b_DiscMaker_grow 5 = .ok (.invokevirtual 168, 3) := by decide +kernel
theorem d_DiscMaker_grow_8 : decode b_DiscMaker_grow 8 = .ok (.ifCond .eq 13, 3) := by decide +kernel
theorem d_DiscMaker_grow_11 : decode b_DiscMaker_grow 11 = .ok (.aload_n 2, 1) := by decide +kernel
theorem d_DiscMaker_grow_12 : decode b_DiscMaker_grow 12 = .ok (.getfield 171, 3) := by decide +kernel
theorem d_DiscMaker_grow_15 : decode b_DiscMaker_grow 15 = .ok (.invokestatic 172, 3) := by decide +kernel
theorem d_DiscMaker_grow_18 : decode b_DiscMaker_grow 18 = .ok (.ifCond .ne 6, 3) := by decide +kernel
theorem d_DiscMaker_grow_21 : decode b_DiscMaker_grow 21 = .ok (.bipush (-4), 2) := by decide +kernel
theorem d_DiscMaker_grow_23 : decode b_DiscMaker_grow 23 = .ok (.ireturn, 1) := by decide +kernel
set_option maxHeartbeats 4000000 in
set_option maxRecDepth 100000 in
theorem c_grow (l : Launch) (D : va_G) (cB cI cJ cZ cN cF : ClassId) (sz : Nat) (h0 tx tr im mk rd : Nat) (qa qn qm qk qt un um uk ut : Nat) (n so mo ow gr sz1 sd : Int32) (f : Nat → Int32) : Met l y_DiscMaker_grow w_DiscMaker_grow ({ frames := 2, cells := 0, slots := 0, locals := 42 }) (va_Pc [.ref h0, .int n, .ref un] (fun U => U.heap.size = sz ∧ va_P D CL [(h0, .inr (0, [.ref tx, .ref tr, .ref im, .ref mk, .ref rd])), (tr, .inr (10, [.ref qa, .int 1, .int 1])), (qa, .inl (cN, 40, .inr (.inr (.inr (.inr (va_up (fun _ => none) 0 (some qn))))))), (qn, .inr (5, [.int 0, .ref qm, .ref qk, .ref qt, .int 0, .int 0, .int 0, .int 16877, .int 0, .int 0, .int 0, .int 0])), (un, .inr (5, [.int so, .ref um, .ref uk, .ref ut, .int 0, .int 0, .int 0, .int mo, .int ow, .int gr, .int sz1, .int sd])), (um, .inl (cB, 0, .inl f))] U.heap ∧ va_K D CL (TY cB cI cJ cZ cN cF) U ∧ NN U ∧ va_D (fun _ => True) [(h0, .inr (0, [.ref tx, .ref tr, .ref im, .ref mk, .ref rd])), (tr, .inr (10, [.ref qa, .int 1, .int 1])), (qa, .inl (cN, 40, .inr (.inr (.inr (.inr (va_up (fun _ => none) 0 (some qn))))))), (qn, .inr (5, [.int 0, .ref qm, .ref qk, .ref qt, .int 0, .int 0, .int 0, .int 16877, .int 0, .int 0, .int 0, .int 0])), (un, .inr (5, [.int so, .ref um, .ref uk, .ref ut, .int 0, .int 0, .int 0, .int mo, .int ow, .int gr, .int sz1, .int sd])), (um, .inl (cB, 0, .inl f))])) (va_Qi (fun (r : Int32) (u : Unit) => r = (-4)) (fun (u : Unit) (t : State) => match u with | () => va_P D CL [] t.heap ∧ va_D (va_A [(h0, .inr (0, [.ref tx, .ref tr, .ref im, .ref mk, .ref rd])), (tr, .inr (10, [.ref qa, .int 1, .int 1])), (qa, .inl (cN, 40, .inr (.inr (.inr (.inr (va_up (fun _ => none) 0 (some qn))))))), (qn, .inr (5, [.int 0, .ref qm, .ref qk, .ref qt, .int 0, .int 0, .int 0, .int 16877, .int 0, .int 0, .int 0, .int 0])), (un, .inr (5, [.int so, .ref um, .ref uk, .ref ut, .int 0, .int 0, .int 0, .int mo, .int ow, .int gr, .int sz1, .int sd])), (um, .inl (cB, 0, .inl f))] sz) []) (va_A [(h0, .inr (0, [.ref tx, .ref tr, .ref im, .ref mk, .ref rd])), (tr, .inr (10, [.ref qa, .int 1, .int 1])), (qa, .inl (cN, 40, .inr (.inr (.inr (.inr (va_up (fun _ => none) 0 (some qn))))))), (qn, .inr (5, [.int 0, .ref qm, .ref qk, .ref qt, .int 0, .int 0, .int 0, .int 16877, .int 0, .int 0, .int 0, .int 0])), (un, .inr (5, [.int so, .ref um, .ref uk, .ref ut, .int 0, .int 0, .int 0, .int mo, .int ow, .int gr, .int sz1, .int sd])), (um, .inl (cB, 0, .inl f))] sz)) 0 0 (va_A [(h0, .inr (0, [.ref tx, .ref tr, .ref im, .ref mk, .ref rd])), (tr, .inr (10, [.ref qa, .int 1, .int 1])), (qa, .inl (cN, 40, .inr (.inr (.inr (.inr (va_up (fun _ => none) 0 (some qn))))))), (qn, .inr (5, [.int 0, .ref qm, .ref qk, .ref qt, .int 0, .int 0, .int 0, .int 16877, .int 0, .int 0, .int 0, .int 0])), (un, .inr (5, [.int so, .ref um, .ref uk, .ref ut, .int 0, .int 0, .int 0, .int mo, .int ow, .int gr, .int sz1, .int sd])), (um, .inl (cB, 0, .inl f))] sz) := by
  refine Met.ofW (cc := b_DiscMaker_grow) (maxL := 3) (ret := some .int) (by decide) rfl ?_
  intro p e s m args below meth c s₁ B hml hv
  obtain ⟨rfl, hsz, hP, hK, hN, hD0⟩ := hv
  have hx := B.exec
  have hb := B.bytes
  have hr := B.returns
  have hts := atoms_spec (ws := w_DiscMaker_grow) B.pre
  have ht9 := fun (w : Cond) (h : w ∈ lw_g) => hts w (List.mem_cons_of_mem _ h)
  have hown : s.vm.findClass "DiscMaker" = some m.cls := findClass_of_methodNamed B.named
  have hlocks := B.notSynchronized
  subst hsz
  have hD := hD0.self (sz := s.heap.size)
  generalize hAe : va_A [(h0, .inr (0, [.ref tx, .ref tr, .ref im, .ref mk, .ref rd])), (tr, .inr (10, [.ref qa, .int 1, .int 1])), (qa, .inl (cN, 40, .inr (.inr (.inr (.inr (va_up (fun _ => none) 0 (some qn))))))), (qn, .inr (5, [.int 0, .ref qm, .ref qk, .ref qt, .int 0, .int 0, .int 0, .int 16877, .int 0, .int 0, .int 0, .int 0])), (un, .inr (5, [.int so, .ref um, .ref uk, .ref ut, .int 0, .int 0, .int 0, .int mo, .int ow, .int gr, .int sz1, .int sd])), (um, .inl (cB, 0, .inl f))] s.heap.size = A at hD ⊢
  have hA : ∀ q : Nat, s.heap.size ≤ q → A q := fun q h => by rw [← hAe]; exact Or.inr h
  have hS : va_S A s.heap s.heap [] := va_S.rf
  have hP : va_P D CL [(h0, .inr (0, [.ref tx, .ref tr, .ref im, .ref mk, .ref rd])), (tr, .inr (10, [.ref qa, .int 1, .int 1])), (qa, .inl (cN, 40, .inr (.inr (.inr (.inr (va_up (fun _ => none) 0 (some qn))))))), (qn, .inr (5, [.int 0, .ref qm, .ref qk, .ref qt, .int 0, .int 0, .int 0, .int 16877, .int 0, .int 0, .int 0, .int 0])), (un, .inr (5, [.int so, .ref um, .ref uk, .ref ut, .int 0, .int 0, .int 0, .int mo, .int ow, .int gr, .int sz1, .int sd])), (um, .inl (cB, 0, .inl f))] s.heap := hP
  have hl := lv_entry [.ref h0, .int n, .ref un] (n := 3) (Nat.le_of_ble_eq_true rfl)
  rw [lg_entry_eq]
  generalize (lg_sl [.ref h0, .int n, .ref un] ++ List.replicate (3 - (lg_sl [.ref h0, .int n, .ref un]).length) Slot.unset).toArray = ls at hl ⊢
  have hl : lv_has ls 3 [(0, .ref h0), (1, .int n), (2, .ref un)] := hl
  refine lv_aload_n hx hb d_DiscMaker_grow_0 rfl (lv_at hl 0 rfl) ?_
  refine va_get (D := D) (ci := 0) (v := .ref tr) (C := "DiscMaker") (T := F_DiscMaker) (N := 5) hx hb ht9 in_DiscMaker hown hK hP 0 rfl rfl 1 (by decide) (ht9 _ k432) (fun _ h9 => h9) rfl d_DiscMaker_grow_1 ?_
  refine lv_iload_n hx hb d_DiscMaker_grow_4 rfl (lv_at hl 1 rfl) ?_
  have hPc := hP.sub (ws' := [(tr, .inr (10, [.ref qa, .int 1, .int 1])), (qa, .inl (cN, 40, .inr (.inr (.inr (.inr (va_up (fun _ => none) 0 (some qn))))))), (qn, .inr (5, [.int 0, .ref qm, .ref qk, .ref qt, .int 0, .int 0, .int 0, .int 16877, .int 0, .int 0, .int 0, .int 0]))]) [1, 2, 3] rfl
  have hDc := hD.sub (ws' := [(tr, .inr (10, [.ref qa, .int 1, .int 1])), (qa, .inl (cN, 40, .inr (.inr (.inr (.inr (va_up (fun _ => none) 0 (some qn))))))), (qn, .inr (5, [.int 0, .ref qm, .ref qk, .ref qt, .int 0, .int 0, .int 0, .int 16877, .int 0, .int 0, .int 0, .int 0]))]) [1, 2, 3] (by decide) rfl
  have hFc := va_free (wc := [(tr, .inr (10, [.ref qa, .int 1, .int 1])), (qa, .inl (cN, 40, .inr (.inr (.inr (.inr (va_up (fun _ => none) 0 (some qn))))))), (qn, .inr (5, [.int 0, .ref qm, .ref qk, .ref qt, .int 0, .int 0, .int 0, .int 16877, .int 0, .int 0, .int 0, .int 0]))]) hD hS hA [1, 2, 3] rfl
  have hkc : 0 ≤ 0 := by decide
  have hks : 0 ≤ 0 := by decide
  refine va_calli (va_runV (C := "DiscMaker$Tree") (As := [.int n]) (rest := []) ⟨hx, hb, hml, hown, hts⟩ (c_hasDirectory l D cB cI cJ cZ cN cF s.heap.size tr qa qn qm qk qt n) (cwV 1 hts (lg_goodV k795 k796 k797 k117 kc_Tree_hasDirectory) rfl rfl rfl (by decide +kernel) ⟨Nat.le_of_ble_eq_true rfl, Nat.le_of_ble_eq_true rfl⟩) ⟨fun a U g mk q => by obtain ⟨q0, q1, qP, qK, qN, qD⟩ := q; exact ⟨q0, q1, qP, va_K.moved (u := U) (U := U.calling g mk a) (Vm.Alike.refl U.vm) qK, qN.calling, qD⟩, va_recv hK hP (ci := 10) (q0 := 1) rfl rfl, fun U hU hW => ⟨rfl, by rw [hU], by rw [hU]; exact hPc, va_K.moved hW.alike hK, NN.warm hW hN, hDc.weaken (fun _ _ _ _ => trivial)⟩⟩ rfl rfl hl.1 rfl (lv_room (Nat.le_of_ble_eq_true rfl)) d_DiscMaker_grow_5 ⟨hkc, hks⟩) hS (fun q _ h => hFc q h) hFc (fun r5 u t H1 locs ht hvm hp_5 hB hz1 hk1 hS => ?_)
  obtain ⟨hP1, hD1⟩ := hB
  rw [ht] at hP1
  try dsimp only at hp_5
  obtain ⟨hP, hD⟩ := va_join (wr := [(h0, .inr (0, [.ref tx, .ref tr, .ref im, .ref mk, .ref rd])), (un, .inr (5, [.int so, .ref um, .ref uk, .ref ut, .int 0, .int 0, .int 0, .int mo, .int ow, .int gr, .int sz1, .int sd])), (um, .inl (cB, 0, .inl f))]) (w1 := [(tr, .inr (10, [.ref qa, .int 1, .int 1])), (qa, .inl (cN, 40, .inr (.inr (.inr (.inr (va_up (fun _ => none) 0 (some qn))))))), (qn, .inr (5, [.int 0, .ref qm, .ref qk, .ref qt, .int 0, .int 0, .int 0, .int 16877, .int 0, .int 0, .int 0, .int 0]))]) hP hD [1, 2, 3] [0, 4, 5] rfl rfl (by decide) (by decide) hk1 hFc hP1 hD1
  clear hPc hDc hFc hP1 hD1 hk1 hz1
  generalize H1 = H at hP hS ⊢
  have hP : va_P D CL [(h0, .inr (0, [.ref tx, .ref tr, .ref im, .ref mk, .ref rd])), (un, .inr (5, [.int so, .ref um, .ref uk, .ref ut, .int 0, .int 0, .int 0, .int mo, .int ow, .int gr, .int sz1, .int sd])), (um, .inl (cB, 0, .inl f)), (tr, .inr (10, [.ref qa, .int 1, .int 1])), (qa, .inl (cN, 40, .inr (.inr (.inr (.inr (va_up (fun _ => none) 0 (some qn))))))), (qn, .inr (5, [.int 0, .ref qm, .ref qk, .ref qt, .int 0, .int 0, .int 0, .int 16877, .int 0, .int 0, .int 0, .int 0]))] H := hP
  have hD : va_D A [(h0, .inr (0, [.ref tx, .ref tr, .ref im, .ref mk, .ref rd])), (un, .inr (5, [.int so, .ref um, .ref uk, .ref ut, .int 0, .int 0, .int 0, .int mo, .int ow, .int gr, .int sz1, .int sd])), (um, .inl (cB, 0, .inl f)), (tr, .inr (10, [.ref qa, .int 1, .int 1])), (qa, .inl (cN, 40, .inr (.inr (.inr (.inr (va_up (fun _ => none) 0 (some qn))))))), (qn, .inr (5, [.int 0, .ref qm, .ref qk, .ref qt, .int 0, .int 0, .int 0, .int 16877, .int 0, .int 0, .int 0, .int 0]))] := hD
  rcases hp_5 with ⟨rfl, hd⟩ | ⟨rfl, hd⟩
  · skip
    refine lv_if_eq (tgt := 21) hx hb d_DiscMaker_grow_8 (by decide) (fun h_8 => absurd h_8 (by decide)) (fun h_8 => ?_)
    refine lv_aload_n hx hb d_DiscMaker_grow_11 rfl (lv_at hl 2 rfl) ?_
    refine va_getN (D := D) (ci := 5) (v := .ref um) (C := "DiscMaker$Node") (T := F_Node) (N := 12) hx hb ht9 in_Node hown hK hP 1 rfl rfl 1 (by decide) (va_Nw.use rfl (hN _ k187)) (fun _ h9 => h9) rfl d_DiscMaker_grow_12 ?_
    have hPc := hP.sub (ws' := [(um, .inl (cB, 0, .inl f))]) [2] rfl
    have hDc := hD.sub (ws' := [(um, .inl (cB, 0, .inl f))]) [2] (by decide) rfl
    have hFc := va_free (wc := [(um, .inl (cB, 0, .inl f))]) hD hS hA [2] rfl
    have hkc : 0 ≤ 0 := by decide
    have hks : 0 ≤ 0 := by decide
    refine va_calli (va_runS (As := [.ref um]) (rest := []) ⟨hx, hb, hml, hown, hts⟩ (c_isName l D cB cI cJ cZ cN cF H.size um f) (cwS 1 hts (lg_goodS k803 k804 k115 kc_DiscMaker_isName) rfl rfl rfl (by decide +kernel) ⟨Nat.le_of_ble_eq_true rfl, Nat.le_of_ble_eq_true rfl⟩) ⟨fun a U g mk q => by obtain ⟨q0, q1, qP, qK, qN, qD⟩ := q; exact ⟨q0, q1, qP, va_K.moved (u := U) (U := U.calling g mk a) (Vm.Alike.refl U.vm) qK, qN.calling, qD⟩, fun U hU hW => ⟨rfl, by rw [hU], by rw [hU]; exact hPc, va_K.moved hW.alike hK, NN.warm hW hN, hDc.weaken (fun _ _ _ _ => trivial)⟩⟩ rfl rfl hl.1 rfl (lv_room (Nat.le_of_ble_eq_true rfl)) d_DiscMaker_grow_15 ⟨hkc, hks⟩) hS (fun q _ h => hFc q h) hFc (fun r15 u t H1 locs ht hvm hp_15 hB hz1 hk1 hS => ?_)
    obtain ⟨hP1, hD1⟩ := hB
    rw [ht] at hP1
    try dsimp only at hp_15
    obtain ⟨hP, hD⟩ := va_join (wr := [(h0, .inr (0, [.ref tx, .ref tr, .ref im, .ref mk, .ref rd])), (un, .inr (5, [.int so, .ref um, .ref uk, .ref ut, .int 0, .int 0, .int 0, .int mo, .int ow, .int gr, .int sz1, .int sd])), (tr, .inr (10, [.ref qa, .int 1, .int 1])), (qa, .inl (cN, 40, .inr (.inr (.inr (.inr (va_up (fun _ => none) 0 (some qn))))))), (qn, .inr (5, [.int 0, .ref qm, .ref qk, .ref qt, .int 0, .int 0, .int 0, .int 16877, .int 0, .int 0, .int 0, .int 0]))]) (w1 := [(um, .inl (cB, 0, .inl f))]) hP hD [2] [0, 1, 3, 4, 5] rfl rfl (by decide) (by decide) hk1 hFc hP1 hD1
    clear hPc hDc hFc hP1 hD1 hk1 hz1
    generalize H1 = H at hP hS ⊢
    have hP : va_P D CL [(h0, .inr (0, [.ref tx, .ref tr, .ref im, .ref mk, .ref rd])), (un, .inr (5, [.int so, .ref um, .ref uk, .ref ut, .int 0, .int 0, .int 0, .int mo, .int ow, .int gr, .int sz1, .int sd])), (tr, .inr (10, [.ref qa, .int 1, .int 1])), (qa, .inl (cN, 40, .inr (.inr (.inr (.inr (va_up (fun _ => none) 0 (some qn))))))), (qn, .inr (5, [.int 0, .ref qm, .ref qk, .ref qt, .int 0, .int 0, .int 0, .int 16877, .int 0, .int 0, .int 0, .int 0])), (um, .inl (cB, 0, .inl f))] H := hP
    have hD : va_D A [(h0, .inr (0, [.ref tx, .ref tr, .ref im, .ref mk, .ref rd])), (un, .inr (5, [.int so, .ref um, .ref uk, .ref ut, .int 0, .int 0, .int 0, .int mo, .int ow, .int gr, .int sz1, .int sd])), (tr, .inr (10, [.ref qa, .int 1, .int 1])), (qa, .inl (cN, 40, .inr (.inr (.inr (.inr (va_up (fun _ => none) 0 (some qn))))))), (qn, .inr (5, [.int 0, .ref qm, .ref qk, .ref qt, .int 0, .int 0, .int 0, .int 16877, .int 0, .int 0, .int 0, .int 0])), (um, .inl (cB, 0, .inl f))] := hD
    refine W.eq (g2 := F0 m 18 ls [.int 0]) (by rw [show r15 = 0 from hp_15]) ?_
    refine lv_if_ne (tgt := 24) hx hb d_DiscMaker_grow_18 (by decide) (fun h_18 => absurd (by decide) h_18) (fun h_18 => ?_)
    refine lv_bipush (v := (-4)) hx hb d_DiscMaker_grow_21 (by decide) ?_
    have hP9 := hP.sub (ws' := []) [] rfl
    have hD9 := hD.sub (ws' := []) [] (by decide) rfl
    exact W.iret (v := (-4)) hx hb hr (fun t ht hW => ⟨⟨(-4), (), rfl, rfl, by rw [ht]; exact hP9, hD9⟩, hS.F ht⟩) hS.2.2 d_DiscMaker_grow_23
  · skip
    refine lv_if_eq (tgt := 21) hx hb d_DiscMaker_grow_8 (by decide) (fun h_8 => ?_) (fun h_8 => absurd (by decide) h_8)
    refine lv_bipush (v := (-4)) hx hb d_DiscMaker_grow_21 (by decide) ?_
    have hP9 := hP.sub (ws' := []) [] rfl
    have hD9 := hD.sub (ws' := []) [] (by decide) rfl
    exact W.iret (v := (-4)) hx hb hr (fun t ht hW => ⟨⟨(-4), (), rfl, rfl, by rw [ht]; exact hP9, hD9⟩, hS.F ht⟩) hS.2.2 d_DiscMaker_grow_23

theorem d_DiscMaker_directory_0 : decode b_DiscMaker_directory 0 = .ok (.aload_n 0, 1) := by decide +kernel
theorem d_DiscMaker_directory_1 : decode b_DiscMaker_directory 1 = .ok (.getfield 10, 3) := by decide +kernel
theorem d_DiscMaker_directory_4 : decode b_DiscMaker_directory 4 = .ok (.invokevirtual 58, 3) := by decide +kernel
theorem d_DiscMaker_directory_7 : decode b_DiscMaker_directory 7 = .ok (.istore 5, 2) := by decide +kernel
theorem d_DiscMaker_directory_9 : decode b_DiscMaker_directory 9 = .ok (.iload_n 2, 1) := by decide +kernel
theorem d_DiscMaker_directory_10 : decode b_DiscMaker_directory 10 = .ok (.iload_n 3, 1) := by decide +kernel
theorem d_DiscMaker_directory_11 : decode b_DiscMaker_directory 11 = .ok (.iload 4, 2) := by decide +kernel
theorem d_DiscMaker_directory_13 : decode b_DiscMaker_directory 13 = .ok (.invokestatic 62, 3) := by decide +kernel
theorem d_DiscMaker_directory_16 : decode b_DiscMaker_directory 16 = .ok (.ifCond .ne 6, 3) := by decide +kernel
theorem d_DiscMaker_directory_19 : decode b_DiscMaker_directory 19 = .ok (.bipush (-4), 2) := by decide +kernel
theorem d_DiscMaker_directory_21 : decode b_DiscMaker_directory 21 = .ok (.ireturn, 1) := by decide +kernel
theorem d_DiscMaker_directory_22 : decode b_DiscMaker_directory 22 = .ok (.aload_n 0, 1) := by decide +kernel
theorem d_DiscMaker_directory_23 : decode b_DiscMaker_directory 23 = .ok (.iload_n 1, 1) := by decide +kernel
theorem d_DiscMaker_directory_24 : decode b_DiscMaker_directory 24 = .ok (.new 66, 3) := by decide +kernel
theorem d_DiscMaker_directory_27 : decode b_DiscMaker_directory 27 = .ok (.dup, 1) := by decide +kernel
theorem d_DiscMaker_directory_28 : decode b_DiscMaker_directory 28 = .ok (.iconst 0, 1) := by decide +kernel
theorem d_DiscMaker_directory_29 : decode b_DiscMaker_directory 29 = .ok (.aload_n 0, 1) := by decide +kernel
theorem d_DiscMaker_directory_30 : decode b_DiscMaker_directory 30 = .ok (.getfield 10, 3) := by decide +kernel
theorem d_DiscMaker_directory_33 : decode b_DiscMaker_directory 33 = .ok (.iconst 0, 1) := by decide +kernel
theorem d_DiscMaker_directory_34 : decode b_DiscMaker_directory 34 = .ok (.iload 5, 2) := by decide +kernel
theorem d_DiscMaker_directory_36 : decode b_DiscMaker_directory 36 = .ok (.invokevirtual 68, 3) := by decide +kernel
theorem d_DiscMaker_directory_39 : decode b_DiscMaker_directory 39 = .ok (.iload_n 2, 1) := by decide +kernel
theorem d_DiscMaker_directory_40 : decode b_DiscMaker_directory 40 = .ok (.iload_n 3, 1) := by decide +kernel
theorem d_DiscMaker_directory_41 : decode b_DiscMaker_directory 41 = .ok (.iload 4, 2) := by decide +kernel
theorem d_DiscMaker_directory_43 : decode b_DiscMaker_directory 43 = .ok (.invokespecial 72, 3) := by decide +kernel
theorem d_DiscMaker_directory_46 : decode b_DiscMaker_directory 46 = .ok (.invokevirtual 75, 3) := by decide +kernel
theorem d_DiscMaker_directory_49 : decode b_DiscMaker_directory 49 = .ok (.ireturn, 1) := by decide +kernel
set_option maxHeartbeats 4000000 in
set_option maxRecDepth 100000 in
theorem c_directory (l : Launch) (D : va_G) (cB cI cJ cZ cN cF : ClassId) (sz : Nat) (h0 tx tr im mk rd : Nat) (qa qn qm qk qt q : Nat) (n x y z : Int32) : Met l y_DiscMaker_directory w_DiscMaker_directory ({ frames := 3, cells := 4, slots := 23, locals := 64 }) (va_Pc [.ref h0, .int n, .int x, .int y, .int z] (fun U => U.heap.size = sz ∧ va_P D CL [(h0, .inr (0, [.ref tx, .ref tr, .ref im, .ref mk, .ref rd])), (tr, .inr (10, [.ref qa, .int 1, .int 1])), (qa, .inl (cN, 40, .inr (.inr (.inr (.inr (va_up (fun _ => none) 0 (some qn))))))), (qn, .inr (5, [.int 0, .ref qm, .ref qk, .ref qt, .int 0, .int 0, .int 0, .int 16877, .int 0, .int 0, .int 0, .int 0])), (tx, .inr (9, [.ref q, .int 0]))] U.heap ∧ va_K D CL (TY cB cI cJ cZ cN cF) U ∧ NN U ∧ va_D (fun _ => True) [(h0, .inr (0, [.ref tx, .ref tr, .ref im, .ref mk, .ref rd])), (tr, .inr (10, [.ref qa, .int 1, .int 1])), (qa, .inl (cN, 40, .inr (.inr (.inr (.inr (va_up (fun _ => none) 0 (some qn))))))), (qn, .inr (5, [.int 0, .ref qm, .ref qk, .ref qt, .int 0, .int 0, .int 0, .int 16877, .int 0, .int 0, .int 0, .int 0])), (tx, .inr (9, [.ref q, .int 0]))])) (va_Qi (fun (r : Int32) (u : Unit) => r = (-4)) (fun (u : Unit) (t : State) => match u with | () => va_P D CL [] t.heap ∧ va_D (va_A [(h0, .inr (0, [.ref tx, .ref tr, .ref im, .ref mk, .ref rd])), (tr, .inr (10, [.ref qa, .int 1, .int 1])), (qa, .inl (cN, 40, .inr (.inr (.inr (.inr (va_up (fun _ => none) 0 (some qn))))))), (qn, .inr (5, [.int 0, .ref qm, .ref qk, .ref qt, .int 0, .int 0, .int 0, .int 16877, .int 0, .int 0, .int 0, .int 0])), (tx, .inr (9, [.ref q, .int 0]))] sz) []) (va_A [(h0, .inr (0, [.ref tx, .ref tr, .ref im, .ref mk, .ref rd])), (tr, .inr (10, [.ref qa, .int 1, .int 1])), (qa, .inl (cN, 40, .inr (.inr (.inr (.inr (va_up (fun _ => none) 0 (some qn))))))), (qn, .inr (5, [.int 0, .ref qm, .ref qk, .ref qt, .int 0, .int 0, .int 0, .int 16877, .int 0, .int 0, .int 0, .int 0])), (tx, .inr (9, [.ref q, .int 0]))] sz)) 4 23 (va_A [(h0, .inr (0, [.ref tx, .ref tr, .ref im, .ref mk, .ref rd])), (tr, .inr (10, [.ref qa, .int 1, .int 1])), (qa, .inl (cN, 40, .inr (.inr (.inr (.inr (va_up (fun _ => none) 0 (some qn))))))), (qn, .inr (5, [.int 0, .ref qm, .ref qk, .ref qt, .int 0, .int 0, .int 0, .int 16877, .int 0, .int 0, .int 0, .int 0])), (tx, .inr (9, [.ref q, .int 0]))] sz) := by
  refine Met.ofW (cc := b_DiscMaker_directory) (maxL := 6) (ret := some .int) (by decide) rfl ?_
  intro p e s m args below meth c s₁ B hml hv
  obtain ⟨rfl, hsz, hP, hK, hN, hD0⟩ := hv
  have hx := B.exec
  have hb := B.bytes
  have hr := B.returns
  have hts := atoms_spec (ws := w_DiscMaker_directory) B.pre
  have ht9 := fun (w : Cond) (h : w ∈ lw_g) => hts w (List.mem_cons_of_mem _ h)
  have hown : s.vm.findClass "DiscMaker" = some m.cls := findClass_of_methodNamed B.named
  have hlocks := B.notSynchronized
  subst hsz
  have hD := hD0.self (sz := s.heap.size)
  generalize hAe : va_A [(h0, .inr (0, [.ref tx, .ref tr, .ref im, .ref mk, .ref rd])), (tr, .inr (10, [.ref qa, .int 1, .int 1])), (qa, .inl (cN, 40, .inr (.inr (.inr (.inr (va_up (fun _ => none) 0 (some qn))))))), (qn, .inr (5, [.int 0, .ref qm, .ref qk, .ref qt, .int 0, .int 0, .int 0, .int 16877, .int 0, .int 0, .int 0, .int 0])), (tx, .inr (9, [.ref q, .int 0]))] s.heap.size = A at hD ⊢
  have hA : ∀ q : Nat, s.heap.size ≤ q → A q := fun q h => by rw [← hAe]; exact Or.inr h
  have hS : va_S A s.heap s.heap [] := va_S.rf
  have hP : va_P D CL [(h0, .inr (0, [.ref tx, .ref tr, .ref im, .ref mk, .ref rd])), (tr, .inr (10, [.ref qa, .int 1, .int 1])), (qa, .inl (cN, 40, .inr (.inr (.inr (.inr (va_up (fun _ => none) 0 (some qn))))))), (qn, .inr (5, [.int 0, .ref qm, .ref qk, .ref qt, .int 0, .int 0, .int 0, .int 16877, .int 0, .int 0, .int 0, .int 0])), (tx, .inr (9, [.ref q, .int 0]))] s.heap := hP
  have hl := lv_entry [.ref h0, .int n, .int x, .int y, .int z] (n := 6) (Nat.le_of_ble_eq_true rfl)
  rw [lg_entry_eq]
  generalize (lg_sl [.ref h0, .int n, .int x, .int y, .int z] ++ List.replicate (6 - (lg_sl [.ref h0, .int n, .int x, .int y, .int z]).length) Slot.unset).toArray = ls at hl ⊢
  have hl : lv_has ls 6 [(0, .ref h0), (1, .int n), (2, .int x), (3, .int y), (4, .int z)] := hl
  refine lv_aload_n hx hb d_DiscMaker_directory_0 rfl (lv_at hl 0 rfl) ?_
  refine va_get (D := D) (ci := 0) (v := .ref tx) (C := "DiscMaker") (T := F_DiscMaker) (N := 5) hx hb ht9 in_DiscMaker hown hK hP 0 rfl rfl 0 (by decide) (ht9 _ k431) (fun _ h9 => h9) rfl d_DiscMaker_directory_1 ?_
  have hPc := hP.sub (ws' := [(tx, .inr (9, [.ref q, .int 0]))]) [4] rfl
  have hDc := hD.sub (ws' := [(tx, .inr (9, [.ref q, .int 0]))]) [4] (by decide) rfl
  have hFc := va_free (wc := [(tx, .inr (9, [.ref q, .int 0]))]) hD hS hA [4] rfl
  have hkc : 0 ≤ 4 := by decide
  have hks : 0 ≤ 23 := by decide
  refine va_calli (va_runV (C := "DiscMaker$Text") (As := []) (rest := []) ⟨hx, hb, hml, hown, hts⟩ (c_useUp l D cB cI cJ cZ cN cF s.heap.size tx q) (cwV 0 hts (lg_goodV k471 k472 k473 k116 kc_Text_useUp) rfl rfl rfl (by decide +kernel) ⟨Nat.le_of_ble_eq_true rfl, Nat.le_of_ble_eq_true rfl⟩) ⟨fun a U g mk q => by obtain ⟨q0, q1, qP, qK, qN, qD⟩ := q; exact ⟨q0, q1, qP, va_K.moved (u := U) (U := U.calling g mk a) (Vm.Alike.refl U.vm) qK, qN.calling, qD⟩, va_recv hK hP (ci := 9) (q0 := 4) rfl rfl, fun U hU hW => ⟨rfl, by rw [hU], by rw [hU]; exact hPc, va_K.moved hW.alike hK, NN.warm hW hN, hDc.weaken (fun _ _ _ _ => trivial)⟩⟩ rfl rfl hl.1 rfl (lv_room (Nat.le_of_ble_eq_true rfl)) d_DiscMaker_directory_4 ⟨hkc, hks⟩) hS (fun q _ h => hFc q h) hFc (fun r4 u t H1 locs ht hvm hp_4 hB hz1 hk1 hS => ?_)
  obtain ⟨hP1, hD1⟩ := hB
  rw [ht] at hP1
  try dsimp only at hp_4
  obtain ⟨hP, hD⟩ := va_join (wr := [(h0, .inr (0, [.ref tx, .ref tr, .ref im, .ref mk, .ref rd])), (tr, .inr (10, [.ref qa, .int 1, .int 1])), (qa, .inl (cN, 40, .inr (.inr (.inr (.inr (va_up (fun _ => none) 0 (some qn))))))), (qn, .inr (5, [.int 0, .ref qm, .ref qk, .ref qt, .int 0, .int 0, .int 0, .int 16877, .int 0, .int 0, .int 0, .int 0]))]) (w1 := [(tx, .inr (9, [.ref q, .int 0]))]) hP hD [4] [0, 1, 2, 3] rfl rfl (by decide) (by decide) hk1 hFc hP1 hD1
  clear hPc hDc hFc hP1 hD1 hk1 hz1
  generalize H1 = H at hP hS ⊢
  have hP : va_P D CL [(h0, .inr (0, [.ref tx, .ref tr, .ref im, .ref mk, .ref rd])), (tr, .inr (10, [.ref qa, .int 1, .int 1])), (qa, .inl (cN, 40, .inr (.inr (.inr (.inr (va_up (fun _ => none) 0 (some qn))))))), (qn, .inr (5, [.int 0, .ref qm, .ref qk, .ref qt, .int 0, .int 0, .int 0, .int 16877, .int 0, .int 0, .int 0, .int 0])), (tx, .inr (9, [.ref q, .int 0]))] H := hP
  have hD : va_D A [(h0, .inr (0, [.ref tx, .ref tr, .ref im, .ref mk, .ref rd])), (tr, .inr (10, [.ref qa, .int 1, .int 1])), (qa, .inl (cN, 40, .inr (.inr (.inr (.inr (va_up (fun _ => none) 0 (some qn))))))), (qn, .inr (5, [.int 0, .ref qm, .ref qk, .ref qt, .int 0, .int 0, .int 0, .int 16877, .int 0, .int 0, .int 0, .int 0])), (tx, .inr (9, [.ref q, .int 0]))] := hD
  refine W.eq (g2 := F0 m 7 ls [.int 0]) (by rw [show r4 = 0 from hp_4]) ?_
  refine lv_istore hx hb d_DiscMaker_directory_7 hl (by decide) rfl (fun ls hl => ?_)
  have hl : lv_has ls 6 [(5, .int 0), (0, .ref h0), (1, .int n), (2, .int x), (3, .int y), (4, .int z)] := hl
  refine lv_iload_n hx hb d_DiscMaker_directory_9 rfl (lv_at hl 3 rfl) ?_
  refine lv_iload_n hx hb d_DiscMaker_directory_10 rfl (lv_at hl 4 rfl) ?_
  refine lv_iload hx hb d_DiscMaker_directory_11 (lv_at hl 5 rfl) ?_
  have hPc := hP.sub (ws' := []) [] rfl
  have hDc := hD.sub (ws' := []) [] (by decide) rfl
  have hFc := va_free (wc := []) hD hS hA [] rfl
  have hkc : 0 ≤ 4 := by decide
  have hks : 0 ≤ 23 := by decide
  refine va_calli (va_runS (As := [.int x, .int y, .int z]) (rest := []) ⟨hx, hb, hml, hown, hts⟩ (c_isOwnership l D cB cI cJ cZ cN cF H.size x y z) (cwS 3 hts (lg_goodS k475 k476 k115 kc_DiscMaker_isOwnership) rfl rfl rfl (by decide +kernel) ⟨Nat.le_of_ble_eq_true rfl, Nat.le_of_ble_eq_true rfl⟩) ⟨fun a U g mk q => by obtain ⟨q0, q1, qP, qK, qN, qD⟩ := q; exact ⟨q0, q1, qP, va_K.moved (u := U) (U := U.calling g mk a) (Vm.Alike.refl U.vm) qK, qN.calling, qD⟩, fun U hU hW => ⟨rfl, by rw [hU], by rw [hU]; exact hPc, va_K.moved hW.alike hK, NN.warm hW hN, hDc.weaken (fun _ _ _ _ => trivial)⟩⟩ rfl rfl hl.1 rfl (lv_room (Nat.le_of_ble_eq_true rfl)) d_DiscMaker_directory_13 ⟨hkc, hks⟩) hS (fun q _ h => hFc q h) hFc (fun r13 u t H1 locs ht hvm hp_13 hB hz1 hk1 hS => ?_)
  obtain ⟨hP1, hD1⟩ := hB
  rw [ht] at hP1
  try dsimp only at hp_13
  obtain ⟨hP, hD⟩ := va_join (wr := [(h0, .inr (0, [.ref tx, .ref tr, .ref im, .ref mk, .ref rd])), (tr, .inr (10, [.ref qa, .int 1, .int 1])), (qa, .inl (cN, 40, .inr (.inr (.inr (.inr (va_up (fun _ => none) 0 (some qn))))))), (qn, .inr (5, [.int 0, .ref qm, .ref qk, .ref qt, .int 0, .int 0, .int 0, .int 16877, .int 0, .int 0, .int 0, .int 0])), (tx, .inr (9, [.ref q, .int 0]))]) (w1 := []) hP hD [] [0, 1, 2, 3, 4] rfl rfl (by decide) (by decide) hk1 hFc hP1 hD1
  clear hPc hDc hFc hP1 hD1 hk1 hz1
  generalize H1 = H at hP hS ⊢
  have hP : va_P D CL [(h0, .inr (0, [.ref tx, .ref tr, .ref im, .ref mk, .ref rd])), (tr, .inr (10, [.ref qa, .int 1, .int 1])), (qa, .inl (cN, 40, .inr (.inr (.inr (.inr (va_up (fun _ => none) 0 (some qn))))))), (qn, .inr (5, [.int 0, .ref qm, .ref qk, .ref qt, .int 0, .int 0, .int 0, .int 16877, .int 0, .int 0, .int 0, .int 0])), (tx, .inr (9, [.ref q, .int 0]))] H := hP
  have hD : va_D A [(h0, .inr (0, [.ref tx, .ref tr, .ref im, .ref mk, .ref rd])), (tr, .inr (10, [.ref qa, .int 1, .int 1])), (qa, .inl (cN, 40, .inr (.inr (.inr (.inr (va_up (fun _ => none) 0 (some qn))))))), (qn, .inr (5, [.int 0, .ref qm, .ref qk, .ref qt, .int 0, .int 0, .int 0, .int 16877, .int 0, .int 0, .int 0, .int 0])), (tx, .inr (9, [.ref q, .int 0]))] := hD
  rcases hp_13 with ⟨rfl, ho⟩ | ⟨rfl, ho⟩
  · skip
    refine lv_if_ne (tgt := 22) hx hb d_DiscMaker_directory_16 (by decide) (fun h_16 => ?_) (fun h_16 => absurd h_16 (by decide))
    refine lv_aload_n hx hb d_DiscMaker_directory_22 rfl (lv_at hl 1 rfl) ?_
    refine lv_iload_n hx hb d_DiscMaker_directory_23 rfl (lv_at hl 2 rfl) ?_
    have hc_24 : 1 ≤ 4 := by decide
    have hs_24 : 12 ≤ 23 := by decide
    refine va_new (ci := 5) (fs := [.int 0, .null, .null, .null, .int 0, .int 0, .int 0, .int 0, .int 0, .int 0, .int 0, .int 0]) (C := "DiscMaker$Node") (T := F_Node) (N := 12) hx hb ht9 in_Node t_Node t_Node_ok hown (ht9 _ k482) (ht9 _ k173) (ht9 _ k118) hK hP hD hS hA rfl (by decide) hc_24 hs_24 d_DiscMaker_directory_24 (fun un H hP hD hS => ?_)
    have hP : va_P D CL [(h0, .inr (0, [.ref tx, .ref tr, .ref im, .ref mk, .ref rd])), (tr, .inr (10, [.ref qa, .int 1, .int 1])), (qa, .inl (cN, 40, .inr (.inr (.inr (.inr (va_up (fun _ => none) 0 (some qn))))))), (qn, .inr (5, [.int 0, .ref qm, .ref qk, .ref qt, .int 0, .int 0, .int 0, .int 16877, .int 0, .int 0, .int 0, .int 0])), (tx, .inr (9, [.ref q, .int 0])), (un, .inr (5, [.int 0, .null, .null, .null, .int 0, .int 0, .int 0, .int 0, .int 0, .int 0, .int 0, .int 0]))] H := hP
    have hD : va_D A [(h0, .inr (0, [.ref tx, .ref tr, .ref im, .ref mk, .ref rd])), (tr, .inr (10, [.ref qa, .int 1, .int 1])), (qa, .inl (cN, 40, .inr (.inr (.inr (.inr (va_up (fun _ => none) 0 (some qn))))))), (qn, .inr (5, [.int 0, .ref qm, .ref qk, .ref qt, .int 0, .int 0, .int 0, .int 16877, .int 0, .int 0, .int 0, .int 0])), (tx, .inr (9, [.ref q, .int 0])), (un, .inr (5, [.int 0, .null, .null, .null, .int 0, .int 0, .int 0, .int 0, .int 0, .int 0, .int 0, .int 0]))] := hD
    refine W.widen (k := 1) (n := 12) (by decide) (by decide) ?_
    refine lv_dup hx hb d_DiscMaker_directory_27 rfl ?_
    refine lv_iconst (v := 0) hx hb d_DiscMaker_directory_28 (by decide) ?_
    refine lv_aload_n hx hb d_DiscMaker_directory_29 rfl (lv_at hl 1 rfl) ?_
    refine va_get (D := D) (ci := 0) (v := .ref tx) (C := "DiscMaker") (T := F_DiscMaker) (N := 5) hx hb ht9 in_DiscMaker hown hK hP 0 rfl rfl 0 (by decide) (ht9 _ k431) (fun _ h9 => h9) rfl d_DiscMaker_directory_30 ?_
    refine lv_iconst (v := 0) hx hb d_DiscMaker_directory_33 (by decide) ?_
    refine lv_iload hx hb d_DiscMaker_directory_34 (lv_at hl 0 rfl) ?_
    have hPc := hP.sub (ws' := []) [] rfl
    have hDc := hD.sub (ws' := []) [] (by decide) rfl
    have hFc := va_free (wc := []) hD hS hA [] rfl
    have hkc : 2 ≤ 4 := by decide
    have hks : 12 ≤ 23 := by decide
    refine va_callr (va_runV (C := "DiscMaker$Text") (As := [.int 0, .int 0]) (rest := [.int 0, .ref un, .ref un, .int n, .ref h0]) ⟨hx, hb, hml, hown, hts⟩ (c_part l D cB cI cJ cZ cN cF H.size tx 0 0 (by decide)) (cwV 2 hts (lg_goodV k483 k484 k485 k116 kc_Text_part) rfl rfl rfl (by decide +kernel) ⟨Nat.le_of_ble_eq_true rfl, Nat.le_of_ble_eq_true rfl⟩) ⟨fun a U g mk q => by obtain ⟨q0, q1, qP, qK, qN, qD⟩ := q; exact ⟨q0, q1, qP, va_K.moved (u := U) (U := U.calling g mk a) (Vm.Alike.refl U.vm) qK, qN.calling, qD⟩, va_recv hK hP (ci := 9) (q0 := 4) rfl rfl, fun U hU hW => ⟨rfl, by rw [hU], by rw [hU]; exact hPc, va_K.moved hW.alike hK, NN.warm hW hN, hDc.weaken (fun _ _ _ _ => trivial)⟩⟩ rfl rfl hl.1 rfl (lv_room (Nat.le_of_ble_eq_true rfl)) d_DiscMaker_directory_36 ⟨hkc, hks⟩) hS (fun q _ h => hFc q h) hFc (fun u um t H1 locs ht hvm hp_36 hB hz1 hk1 hS => ?_)
    obtain ⟨hP1, hD1⟩ := hB
    rw [ht] at hP1
    obtain ⟨hP, hD⟩ := va_join (wr := [(h0, .inr (0, [.ref tx, .ref tr, .ref im, .ref mk, .ref rd])), (tr, .inr (10, [.ref qa, .int 1, .int 1])), (qa, .inl (cN, 40, .inr (.inr (.inr (.inr (va_up (fun _ => none) 0 (some qn))))))), (qn, .inr (5, [.int 0, .ref qm, .ref qk, .ref qt, .int 0, .int 0, .int 0, .int 16877, .int 0, .int 0, .int 0, .int 0])), (tx, .inr (9, [.ref q, .int 0])), (un, .inr (5, [.int 0, .null, .null, .null, .int 0, .int 0, .int 0, .int 0, .int 0, .int 0, .int 0, .int 0]))]) (w1 := [(um, .inl (cB, 0, .inl (fun _ => 0)))]) hP hD [] [0, 1, 2, 3, 4, 5] rfl rfl (by decide) (by decide) hk1 hFc hP1 hD1
    clear hPc hDc hFc hP1 hD1 hk1 hz1
    generalize H1 = H at hP hS ⊢
    have hP : va_P D CL [(h0, .inr (0, [.ref tx, .ref tr, .ref im, .ref mk, .ref rd])), (tr, .inr (10, [.ref qa, .int 1, .int 1])), (qa, .inl (cN, 40, .inr (.inr (.inr (.inr (va_up (fun _ => none) 0 (some qn))))))), (qn, .inr (5, [.int 0, .ref qm, .ref qk, .ref qt, .int 0, .int 0, .int 0, .int 16877, .int 0, .int 0, .int 0, .int 0])), (tx, .inr (9, [.ref q, .int 0])), (un, .inr (5, [.int 0, .null, .null, .null, .int 0, .int 0, .int 0, .int 0, .int 0, .int 0, .int 0, .int 0])), (um, .inl (cB, 0, .inl (fun _ => 0)))] H := hP
    have hD : va_D A [(h0, .inr (0, [.ref tx, .ref tr, .ref im, .ref mk, .ref rd])), (tr, .inr (10, [.ref qa, .int 1, .int 1])), (qa, .inl (cN, 40, .inr (.inr (.inr (.inr (va_up (fun _ => none) 0 (some qn))))))), (qn, .inr (5, [.int 0, .ref qm, .ref qk, .ref qt, .int 0, .int 0, .int 0, .int 16877, .int 0, .int 0, .int 0, .int 0])), (tx, .inr (9, [.ref q, .int 0])), (un, .inr (5, [.int 0, .null, .null, .null, .int 0, .int 0, .int 0, .int 0, .int 0, .int 0, .int 0, .int 0])), (um, .inl (cB, 0, .inl (fun _ => 0)))] := hD
    refine W.widen (k := 2) (n := 12) (by decide) (by decide) ?_
    refine lv_iload_n hx hb d_DiscMaker_directory_39 rfl (lv_at hl 3 rfl) ?_
    refine lv_iload_n hx hb d_DiscMaker_directory_40 rfl (lv_at hl 4 rfl) ?_
    refine lv_iload hx hb d_DiscMaker_directory_41 (lv_at hl 5 rfl) ?_
    have hPc := hP.sub (ws' := [(un, .inr (5, [.int 0, .null, .null, .null, .int 0, .int 0, .int 0, .int 0, .int 0, .int 0, .int 0, .int 0]))]) [5] rfl
    have hDc := hD.sub (ws' := [(un, .inr (5, [.int 0, .null, .null, .null, .int 0, .int 0, .int 0, .int 0, .int 0, .int 0, .int 0, .int 0]))]) [5] (by decide) rfl
    have hFc := va_free (wc := [(un, .inr (5, [.int 0, .null, .null, .null, .int 0, .int 0, .int 0, .int 0, .int 0, .int 0, .int 0, .int 0]))]) hD hS hA [5] rfl
    have hkc : 4 ≤ 4 := by decide
    have hks : 23 ≤ 23 := by decide
    refine va_callv (va_runI (As := [.int 0, .ref um, .int x, .int y, .int z]) (rest := [.ref un, .int n, .ref h0]) ⟨hx, hb, hml, hown, hts⟩ (c_Node_init l D cB cI cJ cZ cN cF H.size un um 0 x y z) (cwI 5 hts (lg_good kc_Node_init) rfl rfl rfl (ht9 _ k118) (ht9 _ k790) (ht9 _ k175) rfl (by decide +kernel) ⟨Nat.le_of_ble_eq_true rfl, Nat.le_of_ble_eq_true rfl⟩) ⟨fun a U g mk q => by obtain ⟨q0, q1, qP, qK, qN, qD⟩ := q; exact ⟨q0, q1, qP, va_K.moved (u := U) (U := U.calling g mk a) (Vm.Alike.refl U.vm) qK, qN.calling, qD⟩, fun U hU hW => ⟨rfl, by rw [hU], by rw [hU]; exact hPc, va_K.moved hW.alike hK, NN.warm hW hN, hDc.weaken (fun _ _ _ _ => trivial)⟩⟩ rfl rfl hl.1 rfl (lv_room (Nat.le_of_ble_eq_true rfl)) d_DiscMaker_directory_43 ⟨hkc, hks⟩) hS (fun q _ h => hFc q h) hFc (fun u t H1 locs ht hvm hp_43 hB hz1 hk1 hS => ?_)
    obtain ⟨ut, uk⟩ := u
    obtain ⟨hP1, hD1⟩ := hB
    rw [ht] at hP1
    obtain ⟨hP, hD⟩ := va_join (wr := [(h0, .inr (0, [.ref tx, .ref tr, .ref im, .ref mk, .ref rd])), (tr, .inr (10, [.ref qa, .int 1, .int 1])), (qa, .inl (cN, 40, .inr (.inr (.inr (.inr (va_up (fun _ => none) 0 (some qn))))))), (qn, .inr (5, [.int 0, .ref qm, .ref qk, .ref qt, .int 0, .int 0, .int 0, .int 16877, .int 0, .int 0, .int 0, .int 0])), (tx, .inr (9, [.ref q, .int 0])), (um, .inl (cB, 0, .inl (fun _ => 0)))]) (w1 := [(un, .inr (5, [.int 0, .ref um, .ref uk, .ref ut, .int 0, .int 0, .int 0, .int x, .int y, .int z, .int 0, .int 0])), (ut, .inl (cB, 0, .inl (fun _ => 0))), (uk, .inl (cB, 11, .inl (fun _ => 0)))]) hP hD [5] [0, 1, 2, 3, 4, 6] rfl rfl (by decide) (by decide) hk1 hFc hP1 hD1
    clear hPc hDc hFc hP1 hD1 hk1 hz1
    generalize H1 = H at hP hS ⊢
    have hP : va_P D CL [(h0, .inr (0, [.ref tx, .ref tr, .ref im, .ref mk, .ref rd])), (tr, .inr (10, [.ref qa, .int 1, .int 1])), (qa, .inl (cN, 40, .inr (.inr (.inr (.inr (va_up (fun _ => none) 0 (some qn))))))), (qn, .inr (5, [.int 0, .ref qm, .ref qk, .ref qt, .int 0, .int 0, .int 0, .int 16877, .int 0, .int 0, .int 0, .int 0])), (tx, .inr (9, [.ref q, .int 0])), (um, .inl (cB, 0, .inl (fun _ => 0))), (un, .inr (5, [.int 0, .ref um, .ref uk, .ref ut, .int 0, .int 0, .int 0, .int x, .int y, .int z, .int 0, .int 0])), (ut, .inl (cB, 0, .inl (fun _ => 0))), (uk, .inl (cB, 11, .inl (fun _ => 0)))] H := hP
    have hD : va_D A [(h0, .inr (0, [.ref tx, .ref tr, .ref im, .ref mk, .ref rd])), (tr, .inr (10, [.ref qa, .int 1, .int 1])), (qa, .inl (cN, 40, .inr (.inr (.inr (.inr (va_up (fun _ => none) 0 (some qn))))))), (qn, .inr (5, [.int 0, .ref qm, .ref qk, .ref qt, .int 0, .int 0, .int 0, .int 16877, .int 0, .int 0, .int 0, .int 0])), (tx, .inr (9, [.ref q, .int 0])), (um, .inl (cB, 0, .inl (fun _ => 0))), (un, .inr (5, [.int 0, .ref um, .ref uk, .ref ut, .int 0, .int 0, .int 0, .int x, .int y, .int z, .int 0, .int 0])), (ut, .inl (cB, 0, .inl (fun _ => 0))), (uk, .inl (cB, 11, .inl (fun _ => 0)))] := hD
    refine W.widen (k := 4) (n := 23) (by decide) (by decide) ?_
    have hPc := hP.sub (ws' := [(h0, .inr (0, [.ref tx, .ref tr, .ref im, .ref mk, .ref rd])), (tr, .inr (10, [.ref qa, .int 1, .int 1])), (qa, .inl (cN, 40, .inr (.inr (.inr (.inr (va_up (fun _ => none) 0 (some qn))))))), (qn, .inr (5, [.int 0, .ref qm, .ref qk, .ref qt, .int 0, .int 0, .int 0, .int 16877, .int 0, .int 0, .int 0, .int 0])), (un, .inr (5, [.int 0, .ref um, .ref uk, .ref ut, .int 0, .int 0, .int 0, .int x, .int y, .int z, .int 0, .int 0])), (um, .inl (cB, 0, .inl (fun _ => 0)))]) [0, 1, 2, 3, 6, 5] rfl
    have hDc := hD.sub (ws' := [(h0, .inr (0, [.ref tx, .ref tr, .ref im, .ref mk, .ref rd])), (tr, .inr (10, [.ref qa, .int 1, .int 1])), (qa, .inl (cN, 40, .inr (.inr (.inr (.inr (va_up (fun _ => none) 0 (some qn))))))), (qn, .inr (5, [.int 0, .ref qm, .ref qk, .ref qt, .int 0, .int 0, .int 0, .int 16877, .int 0, .int 0, .int 0, .int 0])), (un, .inr (5, [.int 0, .ref um, .ref uk, .ref ut, .int 0, .int 0, .int 0, .int x, .int y, .int z, .int 0, .int 0])), (um, .inl (cB, 0, .inl (fun _ => 0)))]) [0, 1, 2, 3, 6, 5] (by decide) rfl
    have hFc := va_free (wc := [(h0, .inr (0, [.ref tx, .ref tr, .ref im, .ref mk, .ref rd])), (tr, .inr (10, [.ref qa, .int 1, .int 1])), (qa, .inl (cN, 40, .inr (.inr (.inr (.inr (va_up (fun _ => none) 0 (some qn))))))), (qn, .inr (5, [.int 0, .ref qm, .ref qk, .ref qt, .int 0, .int 0, .int 0, .int 16877, .int 0, .int 0, .int 0, .int 0])), (un, .inr (5, [.int 0, .ref um, .ref uk, .ref ut, .int 0, .int 0, .int 0, .int x, .int y, .int z, .int 0, .int 0])), (um, .inl (cB, 0, .inl (fun _ => 0)))]) hD hS hA [0, 1, 2, 3, 6, 5] rfl
    have hkc : 4 ≤ 4 := by decide
    have hks : 23 ≤ 23 := by decide
    refine va_calli (va_runV (C := "DiscMaker") (As := [.int n, .ref un]) (rest := []) ⟨hx, hb, hml, hown, hts⟩ (c_grow l D cB cI cJ cZ cN cF H.size h0 tx tr im mk rd qa qn qm qk qt un um uk ut n 0 x y z 0 0 (fun _ => 0)) (cwV 2 hts (lg_goodV k791 k793 k2 k115 kc_DiscMaker_grow) rfl rfl rfl (by decide +kernel) ⟨Nat.le_of_ble_eq_true rfl, Nat.le_of_ble_eq_true rfl⟩) ⟨fun a U g mk q => by obtain ⟨q0, q1, qP, qK, qN, qD⟩ := q; exact ⟨q0, q1, qP, va_K.moved (u := U) (U := U.calling g mk a) (Vm.Alike.refl U.vm) qK, qN.calling, qD⟩, va_recv hK hP (ci := 0) (q0 := 0) rfl rfl, fun U hU hW => ⟨rfl, by rw [hU], by rw [hU]; exact hPc, va_K.moved hW.alike hK, NN.warm hW hN, hDc.weaken (fun _ _ _ _ => trivial)⟩⟩ rfl rfl hl.1 rfl (lv_room (Nat.le_of_ble_eq_true rfl)) d_DiscMaker_directory_46 ⟨hkc, hks⟩) hS (fun q _ h => hFc q h) hFc (fun r46 u t H1 locs ht hvm hp_46 hB hz1 hk1 hS => ?_)
    obtain ⟨hP1, hD1⟩ := hB
    rw [ht] at hP1
    try dsimp only at hp_46
    obtain ⟨hP, hD⟩ := va_join (wr := [(tx, .inr (9, [.ref q, .int 0])), (ut, .inl (cB, 0, .inl (fun _ => 0))), (uk, .inl (cB, 11, .inl (fun _ => 0)))]) (w1 := []) hP hD [0, 1, 2, 3, 6, 5] [4, 7, 8] rfl rfl (by decide) (by decide) hk1 hFc hP1 hD1
    clear hPc hDc hFc hP1 hD1 hk1 hz1
    generalize H1 = H at hP hS ⊢
    have hP : va_P D CL [(tx, .inr (9, [.ref q, .int 0])), (ut, .inl (cB, 0, .inl (fun _ => 0))), (uk, .inl (cB, 11, .inl (fun _ => 0)))] H := hP
    have hD : va_D A [(tx, .inr (9, [.ref q, .int 0])), (ut, .inl (cB, 0, .inl (fun _ => 0))), (uk, .inl (cB, 11, .inl (fun _ => 0)))] := hD
    have hP9 := hP.sub (ws' := []) [] rfl
    have hD9 := hD.sub (ws' := []) [] (by decide) rfl
    exact W.iret (v := r46) hx hb hr (fun t ht hW => ⟨⟨r46, (), rfl, hp_46, by rw [ht]; exact hP9, hD9⟩, hS.F ht⟩) hS.2.2 d_DiscMaker_directory_49
  · skip
    refine lv_if_ne (tgt := 22) hx hb d_DiscMaker_directory_16 (by decide) (fun h_16 => absurd (by decide) h_16) (fun h_16 => ?_)
    refine lv_bipush (v := (-4)) hx hb d_DiscMaker_directory_19 (by decide) ?_
    have hP9 := hP.sub (ws' := []) [] rfl
    have hD9 := hD.sub (ws' := []) [] (by decide) rfl
    refine W.widen (k := 4) (n := 23) (by decide) (by decide) ?_
    exact W.iret (v := (-4)) hx hb hr (fun t ht hW => ⟨⟨(-4), (), rfl, rfl, by rw [ht]; exact hP9, hD9⟩, hS.F ht⟩) hS.2.2 d_DiscMaker_directory_21

theorem d_DiscMaker_file_0 : decode b_DiscMaker_file 0 = .ok (.aload_n 0, 1) := by decide +kernel
theorem d_DiscMaker_file_1 : decode b_DiscMaker_file 1 = .ok (.getfield 10, 3) := by decide +kernel
theorem d_DiscMaker_file_4 : decode b_DiscMaker_file 4 = .ok (.invokevirtual 58, 3) := by decide +kernel
theorem d_DiscMaker_file_7 : decode b_DiscMaker_file 7 = .ok (.istore 4, 2) := by decide +kernel
theorem d_DiscMaker_file_9 : decode b_DiscMaker_file 9 = .ok (.iload_n 2, 1) := by decide +kernel
theorem d_DiscMaker_file_10 : decode b_DiscMaker_file 10 = .ok (.sipush 4100, 3) := by decide +kernel
theorem d_DiscMaker_file_13 : decode b_DiscMaker_file 13 = .ok (.invokestatic 79, 3) := by decide +kernel
theorem d_DiscMaker_file_16 : decode b_DiscMaker_file 16 = .ok (.ifCond .eq 13, 3) := by decide +kernel
theorem d_DiscMaker_file_19 : decode b_DiscMaker_file 19 = .ok (.iload_n 3, 1) := by decide +kernel
theorem d_DiscMaker_file_20 : decode b_DiscMaker_file 20 = .ok (.sipush 255, 3) := by decide +kernel
theorem d_DiscMaker_file_23 : decode b_DiscMaker_file 23 = .ok (.invokestatic 79, 3) := by decide +kernel
theorem d_DiscMaker_file_26 : decode b_DiscMaker_file 26 = .ok (.ifCond .ne 6, 3) := by decide +kernel
theorem d_DiscMaker_file_29 : decode b_DiscMaker_file 29 = .ok (.bipush (-4), 2) := by decide +kernel
theorem d_DiscMaker_file_31 : decode b_DiscMaker_file 31 = .ok (.ireturn, 1) := by decide +kernel
theorem d_DiscMaker_file_32 : decode b_DiscMaker_file 32 = .ok (.new 66, 3) := by decide +kernel
theorem d_DiscMaker_file_35 : decode b_DiscMaker_file 35 = .ok (.dup, 1) := by decide +kernel
theorem d_DiscMaker_file_36 : decode b_DiscMaker_file 36 = .ok (.iconst 1, 1) := by decide +kernel
theorem d_DiscMaker_file_37 : decode b_DiscMaker_file 37 = .ok (.aload_n 0, 1) := by decide +kernel
theorem d_DiscMaker_file_38 : decode b_DiscMaker_file 38 = .ok (.getfield 10, 3) := by decide +kernel
theorem d_DiscMaker_file_41 : decode b_DiscMaker_file 41 = .ok (.iconst 0, 1) := by decide +kernel
theorem d_DiscMaker_file_42 : decode b_DiscMaker_file 42 = .ok (.iload 4, 2) := by decide +kernel
theorem d_DiscMaker_file_44 : decode b_DiscMaker_file 44 = .ok (.invokevirtual 68, 3) := by decide +kernel
theorem d_DiscMaker_file_47 : decode b_DiscMaker_file 47 = .ok (.sipush 420, 3) := by decide +kernel
theorem d_DiscMaker_file_50 : decode b_DiscMaker_file 50 = .ok (.iconst 0, 1) := by decide +kernel
theorem d_DiscMaker_file_51 : decode b_DiscMaker_file 51 = .ok (.iconst 0, 1) := by decide +kernel
theorem d_DiscMaker_file_52 : decode b_DiscMaker_file 52 = .ok (.invokespecial 72, 3) := by decide +kernel
theorem d_DiscMaker_file_55 : decode b_DiscMaker_file 55 = .ok (.astore 5, 2) := by decide +kernel
theorem d_DiscMaker_file_57 : decode b_DiscMaker_file 57 = .ok (.aload 5, 2) := by decide +kernel
theorem d_DiscMaker_file_59 : decode b_DiscMaker_file 59 = .ok (.iload_n 2, 1) := by decide +kernel
theorem d_DiscMaker_file_60 : decode b_DiscMaker_file 60 = .ok (.putfield 83, 3) := by decide +kernel
theorem d_DiscMaker_file_63 : decode b_DiscMaker_file 63 = .ok (.aload 5, 2) := by decide +kernel
theorem d_DiscMaker_file_65 : decode b_DiscMaker_file 65 = .ok (.iload_n 3, 1) := by decide +kernel
theorem d_DiscMaker_file_66 : decode b_DiscMaker_file 66 = .ok (.putfield 87, 3) := by decide +kernel
theorem d_DiscMaker_file_69 : decode b_DiscMaker_file 69 = .ok (.aload_n 0, 1) := by decide +kernel
theorem d_DiscMaker_file_70 : decode b_DiscMaker_file 70 = .ok (.iload_n 1, 1) := by decide +kernel
theorem d_DiscMaker_file_71 : decode b_DiscMaker_file 71 = .ok (.aload 5, 2) := by decide +kernel
theorem d_DiscMaker_file_73 : decode b_DiscMaker_file 73 = .ok (.invokevirtual 75, 3) := by decide +kernel
theorem d_DiscMaker_file_76 : decode b_DiscMaker_file 76 = .ok (.ireturn, 1) := by decide +kernel
set_option maxHeartbeats 4000000 in
set_option maxRecDepth 100000 in
theorem c_file (l : Launch) (D : va_G) (cB cI cJ cZ cN cF : ClassId) (sz : Nat) (h0 tx tr im mk rd : Nat) (qa qn qm qk qt q : Nat) (n x y : Int32) : Met l y_DiscMaker_file w_DiscMaker_file ({ frames := 3, cells := 4, slots := 23, locals := 64 }) (va_Pc [.ref h0, .int n, .int x, .int y] (fun U => U.heap.size = sz ∧ va_P D CL [(h0, .inr (0, [.ref tx, .ref tr, .ref im, .ref mk, .ref rd])), (tr, .inr (10, [.ref qa, .int 1, .int 1])), (qa, .inl (cN, 40, .inr (.inr (.inr (.inr (va_up (fun _ => none) 0 (some qn))))))), (qn, .inr (5, [.int 0, .ref qm, .ref qk, .ref qt, .int 0, .int 0, .int 0, .int 16877, .int 0, .int 0, .int 0, .int 0])), (tx, .inr (9, [.ref q, .int 0]))] U.heap ∧ va_K D CL (TY cB cI cJ cZ cN cF) U ∧ NN U ∧ va_D (fun _ => True) [(h0, .inr (0, [.ref tx, .ref tr, .ref im, .ref mk, .ref rd])), (tr, .inr (10, [.ref qa, .int 1, .int 1])), (qa, .inl (cN, 40, .inr (.inr (.inr (.inr (va_up (fun _ => none) 0 (some qn))))))), (qn, .inr (5, [.int 0, .ref qm, .ref qk, .ref qt, .int 0, .int 0, .int 0, .int 16877, .int 0, .int 0, .int 0, .int 0])), (tx, .inr (9, [.ref q, .int 0]))])) (va_Qi (fun (r : Int32) (u : Unit) => r = (-4)) (fun (u : Unit) (t : State) => match u with | () => va_P D CL [] t.heap ∧ va_D (va_A [(h0, .inr (0, [.ref tx, .ref tr, .ref im, .ref mk, .ref rd])), (tr, .inr (10, [.ref qa, .int 1, .int 1])), (qa, .inl (cN, 40, .inr (.inr (.inr (.inr (va_up (fun _ => none) 0 (some qn))))))), (qn, .inr (5, [.int 0, .ref qm, .ref qk, .ref qt, .int 0, .int 0, .int 0, .int 16877, .int 0, .int 0, .int 0, .int 0])), (tx, .inr (9, [.ref q, .int 0]))] sz) []) (va_A [(h0, .inr (0, [.ref tx, .ref tr, .ref im, .ref mk, .ref rd])), (tr, .inr (10, [.ref qa, .int 1, .int 1])), (qa, .inl (cN, 40, .inr (.inr (.inr (.inr (va_up (fun _ => none) 0 (some qn))))))), (qn, .inr (5, [.int 0, .ref qm, .ref qk, .ref qt, .int 0, .int 0, .int 0, .int 16877, .int 0, .int 0, .int 0, .int 0])), (tx, .inr (9, [.ref q, .int 0]))] sz)) 4 23 (va_A [(h0, .inr (0, [.ref tx, .ref tr, .ref im, .ref mk, .ref rd])), (tr, .inr (10, [.ref qa, .int 1, .int 1])), (qa, .inl (cN, 40, .inr (.inr (.inr (.inr (va_up (fun _ => none) 0 (some qn))))))), (qn, .inr (5, [.int 0, .ref qm, .ref qk, .ref qt, .int 0, .int 0, .int 0, .int 16877, .int 0, .int 0, .int 0, .int 0])), (tx, .inr (9, [.ref q, .int 0]))] sz) := by
  refine Met.ofW (cc := b_DiscMaker_file) (maxL := 6) (ret := some .int) (by decide) rfl ?_
  intro p e s m args below meth c s₁ B hml hv
  obtain ⟨rfl, hsz, hP, hK, hN, hD0⟩ := hv
  have hx := B.exec
  have hb := B.bytes
  have hr := B.returns
  have hts := atoms_spec (ws := w_DiscMaker_file) B.pre
  have ht9 := fun (w : Cond) (h : w ∈ lw_g) => hts w (List.mem_cons_of_mem _ h)
  have hown : s.vm.findClass "DiscMaker" = some m.cls := findClass_of_methodNamed B.named
  have hlocks := B.notSynchronized
  subst hsz
  have hD := hD0.self (sz := s.heap.size)
  generalize hAe : va_A [(h0, .inr (0, [.ref tx, .ref tr, .ref im, .ref mk, .ref rd])), (tr, .inr (10, [.ref qa, .int 1, .int 1])), (qa, .inl (cN, 40, .inr (.inr (.inr (.inr (va_up (fun _ => none) 0 (some qn))))))), (qn, .inr (5, [.int 0, .ref qm, .ref qk, .ref qt, .int 0, .int 0, .int 0, .int 16877, .int 0, .int 0, .int 0, .int 0])), (tx, .inr (9, [.ref q, .int 0]))] s.heap.size = A at hD ⊢
  have hA : ∀ q : Nat, s.heap.size ≤ q → A q := fun q h => by rw [← hAe]; exact Or.inr h
  have hS : va_S A s.heap s.heap [] := va_S.rf
  have hP : va_P D CL [(h0, .inr (0, [.ref tx, .ref tr, .ref im, .ref mk, .ref rd])), (tr, .inr (10, [.ref qa, .int 1, .int 1])), (qa, .inl (cN, 40, .inr (.inr (.inr (.inr (va_up (fun _ => none) 0 (some qn))))))), (qn, .inr (5, [.int 0, .ref qm, .ref qk, .ref qt, .int 0, .int 0, .int 0, .int 16877, .int 0, .int 0, .int 0, .int 0])), (tx, .inr (9, [.ref q, .int 0]))] s.heap := hP
  have hl := lv_entry [.ref h0, .int n, .int x, .int y] (n := 6) (Nat.le_of_ble_eq_true rfl)
  rw [lg_entry_eq]
  generalize (lg_sl [.ref h0, .int n, .int x, .int y] ++ List.replicate (6 - (lg_sl [.ref h0, .int n, .int x, .int y]).length) Slot.unset).toArray = ls at hl ⊢
  have hl : lv_has ls 6 [(0, .ref h0), (1, .int n), (2, .int x), (3, .int y)] := hl
  refine lv_aload_n hx hb d_DiscMaker_file_0 rfl (lv_at hl 0 rfl) ?_
  refine va_get (D := D) (ci := 0) (v := .ref tx) (C := "DiscMaker") (T := F_DiscMaker) (N := 5) hx hb ht9 in_DiscMaker hown hK hP 0 rfl rfl 0 (by decide) (ht9 _ k431) (fun _ h9 => h9) rfl d_DiscMaker_file_1 ?_
  have hPc := hP.sub (ws' := [(tx, .inr (9, [.ref q, .int 0]))]) [4] rfl
  have hDc := hD.sub (ws' := [(tx, .inr (9, [.ref q, .int 0]))]) [4] (by decide) rfl
  have hFc := va_free (wc := [(tx, .inr (9, [.ref q, .int 0]))]) hD hS hA [4] rfl
  have hkc : 0 ≤ 4 := by decide
  have hks : 0 ≤ 23 := by decide
  refine va_calli (va_runV (C := "DiscMaker$Text") (As := []) (rest := []) ⟨hx, hb, hml, hown, hts⟩ (c_useUp l D cB cI cJ cZ cN cF s.heap.size tx q) (cwV 0 hts (lg_goodV k471 k472 k473 k116 kc_Text_useUp) rfl rfl rfl (by decide +kernel) ⟨Nat.le_of_ble_eq_true rfl, Nat.le_of_ble_eq_true rfl⟩) ⟨fun a U g mk q => by obtain ⟨q0, q1, qP, qK, qN, qD⟩ := q; exact ⟨q0, q1, qP, va_K.moved (u := U) (U := U.calling g mk a) (Vm.Alike.refl U.vm) qK, qN.calling, qD⟩, va_recv hK hP (ci := 9) (q0 := 4) rfl rfl, fun U hU hW => ⟨rfl, by rw [hU], by rw [hU]; exact hPc, va_K.moved hW.alike hK, NN.warm hW hN, hDc.weaken (fun _ _ _ _ => trivial)⟩⟩ rfl rfl hl.1 rfl (lv_room (Nat.le_of_ble_eq_true rfl)) d_DiscMaker_file_4 ⟨hkc, hks⟩) hS (fun q _ h => hFc q h) hFc (fun r4 u t H1 locs ht hvm hp_4 hB hz1 hk1 hS => ?_)
  obtain ⟨hP1, hD1⟩ := hB
  rw [ht] at hP1
  try dsimp only at hp_4
  obtain ⟨hP, hD⟩ := va_join (wr := [(h0, .inr (0, [.ref tx, .ref tr, .ref im, .ref mk, .ref rd])), (tr, .inr (10, [.ref qa, .int 1, .int 1])), (qa, .inl (cN, 40, .inr (.inr (.inr (.inr (va_up (fun _ => none) 0 (some qn))))))), (qn, .inr (5, [.int 0, .ref qm, .ref qk, .ref qt, .int 0, .int 0, .int 0, .int 16877, .int 0, .int 0, .int 0, .int 0]))]) (w1 := [(tx, .inr (9, [.ref q, .int 0]))]) hP hD [4] [0, 1, 2, 3] rfl rfl (by decide) (by decide) hk1 hFc hP1 hD1
  clear hPc hDc hFc hP1 hD1 hk1 hz1
  generalize H1 = H at hP hS ⊢
  have hP : va_P D CL [(h0, .inr (0, [.ref tx, .ref tr, .ref im, .ref mk, .ref rd])), (tr, .inr (10, [.ref qa, .int 1, .int 1])), (qa, .inl (cN, 40, .inr (.inr (.inr (.inr (va_up (fun _ => none) 0 (some qn))))))), (qn, .inr (5, [.int 0, .ref qm, .ref qk, .ref qt, .int 0, .int 0, .int 0, .int 16877, .int 0, .int 0, .int 0, .int 0])), (tx, .inr (9, [.ref q, .int 0]))] H := hP
  have hD : va_D A [(h0, .inr (0, [.ref tx, .ref tr, .ref im, .ref mk, .ref rd])), (tr, .inr (10, [.ref qa, .int 1, .int 1])), (qa, .inl (cN, 40, .inr (.inr (.inr (.inr (va_up (fun _ => none) 0 (some qn))))))), (qn, .inr (5, [.int 0, .ref qm, .ref qk, .ref qt, .int 0, .int 0, .int 0, .int 16877, .int 0, .int 0, .int 0, .int 0])), (tx, .inr (9, [.ref q, .int 0]))] := hD
  refine W.eq (g2 := F0 m 7 ls [.int 0]) (by rw [show r4 = 0 from hp_4]) ?_
  refine lv_istore hx hb d_DiscMaker_file_7 hl (by decide) rfl (fun ls hl => ?_)
  have hl : lv_has ls 6 [(4, .int 0), (0, .ref h0), (1, .int n), (2, .int x), (3, .int y)] := hl
  refine lv_iload_n hx hb d_DiscMaker_file_9 rfl (lv_at hl 3 rfl) ?_
  refine lv_sipush (v := 4100) hx hb d_DiscMaker_file_10 (by decide) ?_
  have hPc := hP.sub (ws' := []) [] rfl
  have hDc := hD.sub (ws' := []) [] (by decide) rfl
  have hFc := va_free (wc := []) hD hS hA [] rfl
  have hkc : 0 ≤ 4 := by decide
  have hks : 0 ≤ 23 := by decide
  refine va_calli (va_runS (As := [.int x, .int 4100]) (rest := []) ⟨hx, hb, hml, hown, hts⟩ (c_isWithin l D cB cI cJ cZ cN cF H.size x 4100) (cwS 2 hts (lg_goodS k479 k480 k115 kc_DiscMaker_isWithin) rfl rfl rfl (by decide +kernel) ⟨Nat.le_of_ble_eq_true rfl, Nat.le_of_ble_eq_true rfl⟩) ⟨fun a U g mk q => by obtain ⟨q0, q1, qP, qK, qN, qD⟩ := q; exact ⟨q0, q1, qP, va_K.moved (u := U) (U := U.calling g mk a) (Vm.Alike.refl U.vm) qK, qN.calling, qD⟩, fun U hU hW => ⟨rfl, by rw [hU], by rw [hU]; exact hPc, va_K.moved hW.alike hK, NN.warm hW hN, hDc.weaken (fun _ _ _ _ => trivial)⟩⟩ rfl rfl hl.1 rfl (lv_room (Nat.le_of_ble_eq_true rfl)) d_DiscMaker_file_13 ⟨hkc, hks⟩) hS (fun q _ h => hFc q h) hFc (fun r13 u t H1 locs ht hvm hp_13 hB hz1 hk1 hS => ?_)
  obtain ⟨hP1, hD1⟩ := hB
  rw [ht] at hP1
  try dsimp only at hp_13
  obtain ⟨hP, hD⟩ := va_join (wr := [(h0, .inr (0, [.ref tx, .ref tr, .ref im, .ref mk, .ref rd])), (tr, .inr (10, [.ref qa, .int 1, .int 1])), (qa, .inl (cN, 40, .inr (.inr (.inr (.inr (va_up (fun _ => none) 0 (some qn))))))), (qn, .inr (5, [.int 0, .ref qm, .ref qk, .ref qt, .int 0, .int 0, .int 0, .int 16877, .int 0, .int 0, .int 0, .int 0])), (tx, .inr (9, [.ref q, .int 0]))]) (w1 := []) hP hD [] [0, 1, 2, 3, 4] rfl rfl (by decide) (by decide) hk1 hFc hP1 hD1
  clear hPc hDc hFc hP1 hD1 hk1 hz1
  generalize H1 = H at hP hS ⊢
  have hP : va_P D CL [(h0, .inr (0, [.ref tx, .ref tr, .ref im, .ref mk, .ref rd])), (tr, .inr (10, [.ref qa, .int 1, .int 1])), (qa, .inl (cN, 40, .inr (.inr (.inr (.inr (va_up (fun _ => none) 0 (some qn))))))), (qn, .inr (5, [.int 0, .ref qm, .ref qk, .ref qt, .int 0, .int 0, .int 0, .int 16877, .int 0, .int 0, .int 0, .int 0])), (tx, .inr (9, [.ref q, .int 0]))] H := hP
  have hD : va_D A [(h0, .inr (0, [.ref tx, .ref tr, .ref im, .ref mk, .ref rd])), (tr, .inr (10, [.ref qa, .int 1, .int 1])), (qa, .inl (cN, 40, .inr (.inr (.inr (.inr (va_up (fun _ => none) 0 (some qn))))))), (qn, .inr (5, [.int 0, .ref qm, .ref qk, .ref qt, .int 0, .int 0, .int 0, .int 16877, .int 0, .int 0, .int 0, .int 0])), (tx, .inr (9, [.ref q, .int 0]))] := hD
  rcases hp_13 with ⟨rfl, ho⟩ | ⟨rfl, ho⟩
  · skip
    refine lv_if_eq (tgt := 29) hx hb d_DiscMaker_file_16 (by decide) (fun h_16 => absurd h_16 (by decide)) (fun h_16 => ?_)
    refine lv_iload_n hx hb d_DiscMaker_file_19 rfl (lv_at hl 4 rfl) ?_
    refine lv_sipush (v := 255) hx hb d_DiscMaker_file_20 (by decide) ?_
    have hPc := hP.sub (ws' := []) [] rfl
    have hDc := hD.sub (ws' := []) [] (by decide) rfl
    have hFc := va_free (wc := []) hD hS hA [] rfl
    have hkc : 0 ≤ 4 := by decide
    have hks : 0 ≤ 23 := by decide
    refine va_calli (va_runS (As := [.int y, .int 255]) (rest := []) ⟨hx, hb, hml, hown, hts⟩ (c_isWithin l D cB cI cJ cZ cN cF H.size y 255) (cwS 2 hts (lg_goodS k479 k480 k115 kc_DiscMaker_isWithin) rfl rfl rfl (by decide +kernel) ⟨Nat.le_of_ble_eq_true rfl, Nat.le_of_ble_eq_true rfl⟩) ⟨fun a U g mk q => by obtain ⟨q0, q1, qP, qK, qN, qD⟩ := q; exact ⟨q0, q1, qP, va_K.moved (u := U) (U := U.calling g mk a) (Vm.Alike.refl U.vm) qK, qN.calling, qD⟩, fun U hU hW => ⟨rfl, by rw [hU], by rw [hU]; exact hPc, va_K.moved hW.alike hK, NN.warm hW hN, hDc.weaken (fun _ _ _ _ => trivial)⟩⟩ rfl rfl hl.1 rfl (lv_room (Nat.le_of_ble_eq_true rfl)) d_DiscMaker_file_23 ⟨hkc, hks⟩) hS (fun q _ h => hFc q h) hFc (fun r23 u t H1 locs ht hvm hp_23 hB hz1 hk1 hS => ?_)
    obtain ⟨hP1, hD1⟩ := hB
    rw [ht] at hP1
    try dsimp only at hp_23
    obtain ⟨hP, hD⟩ := va_join (wr := [(h0, .inr (0, [.ref tx, .ref tr, .ref im, .ref mk, .ref rd])), (tr, .inr (10, [.ref qa, .int 1, .int 1])), (qa, .inl (cN, 40, .inr (.inr (.inr (.inr (va_up (fun _ => none) 0 (some qn))))))), (qn, .inr (5, [.int 0, .ref qm, .ref qk, .ref qt, .int 0, .int 0, .int 0, .int 16877, .int 0, .int 0, .int 0, .int 0])), (tx, .inr (9, [.ref q, .int 0]))]) (w1 := []) hP hD [] [0, 1, 2, 3, 4] rfl rfl (by decide) (by decide) hk1 hFc hP1 hD1
    clear hPc hDc hFc hP1 hD1 hk1 hz1
    generalize H1 = H at hP hS ⊢
    have hP : va_P D CL [(h0, .inr (0, [.ref tx, .ref tr, .ref im, .ref mk, .ref rd])), (tr, .inr (10, [.ref qa, .int 1, .int 1])), (qa, .inl (cN, 40, .inr (.inr (.inr (.inr (va_up (fun _ => none) 0 (some qn))))))), (qn, .inr (5, [.int 0, .ref qm, .ref qk, .ref qt, .int 0, .int 0, .int 0, .int 16877, .int 0, .int 0, .int 0, .int 0])), (tx, .inr (9, [.ref q, .int 0]))] H := hP
    have hD : va_D A [(h0, .inr (0, [.ref tx, .ref tr, .ref im, .ref mk, .ref rd])), (tr, .inr (10, [.ref qa, .int 1, .int 1])), (qa, .inl (cN, 40, .inr (.inr (.inr (.inr (va_up (fun _ => none) 0 (some qn))))))), (qn, .inr (5, [.int 0, .ref qm, .ref qk, .ref qt, .int 0, .int 0, .int 0, .int 16877, .int 0, .int 0, .int 0, .int 0])), (tx, .inr (9, [.ref q, .int 0]))] := hD
    rcases hp_23 with ⟨rfl, ho2⟩ | ⟨rfl, ho2⟩
    · skip
      refine lv_if_ne (tgt := 32) hx hb d_DiscMaker_file_26 (by decide) (fun h_26 => ?_) (fun h_26 => absurd h_26 (by decide))
      have hc_32 : 1 ≤ 4 := by decide
      have hs_32 : 12 ≤ 23 := by decide
      refine va_new (ci := 5) (fs := [.int 0, .null, .null, .null, .int 0, .int 0, .int 0, .int 0, .int 0, .int 0, .int 0, .int 0]) (C := "DiscMaker$Node") (T := F_Node) (N := 12) hx hb ht9 in_Node t_Node t_Node_ok hown (ht9 _ k482) (ht9 _ k173) (ht9 _ k118) hK hP hD hS hA rfl (by decide) hc_32 hs_32 d_DiscMaker_file_32 (fun un H hP hD hS => ?_)
      have hP : va_P D CL [(h0, .inr (0, [.ref tx, .ref tr, .ref im, .ref mk, .ref rd])), (tr, .inr (10, [.ref qa, .int 1, .int 1])), (qa, .inl (cN, 40, .inr (.inr (.inr (.inr (va_up (fun _ => none) 0 (some qn))))))), (qn, .inr (5, [.int 0, .ref qm, .ref qk, .ref qt, .int 0, .int 0, .int 0, .int 16877, .int 0, .int 0, .int 0, .int 0])), (tx, .inr (9, [.ref q, .int 0])), (un, .inr (5, [.int 0, .null, .null, .null, .int 0, .int 0, .int 0, .int 0, .int 0, .int 0, .int 0, .int 0]))] H := hP
      have hD : va_D A [(h0, .inr (0, [.ref tx, .ref tr, .ref im, .ref mk, .ref rd])), (tr, .inr (10, [.ref qa, .int 1, .int 1])), (qa, .inl (cN, 40, .inr (.inr (.inr (.inr (va_up (fun _ => none) 0 (some qn))))))), (qn, .inr (5, [.int 0, .ref qm, .ref qk, .ref qt, .int 0, .int 0, .int 0, .int 16877, .int 0, .int 0, .int 0, .int 0])), (tx, .inr (9, [.ref q, .int 0])), (un, .inr (5, [.int 0, .null, .null, .null, .int 0, .int 0, .int 0, .int 0, .int 0, .int 0, .int 0, .int 0]))] := hD
      refine W.widen (k := 1) (n := 12) (by decide) (by decide) ?_
      refine lv_dup hx hb d_DiscMaker_file_35 rfl ?_
      refine lv_iconst (v := 1) hx hb d_DiscMaker_file_36 (by decide) ?_
      refine lv_aload_n hx hb d_DiscMaker_file_37 rfl (lv_at hl 1 rfl) ?_
      refine va_get (D := D) (ci := 0) (v := .ref tx) (C := "DiscMaker") (T := F_DiscMaker) (N := 5) hx hb ht9 in_DiscMaker hown hK hP 0 rfl rfl 0 (by decide) (ht9 _ k431) (fun _ h9 => h9) rfl d_DiscMaker_file_38 ?_
      refine lv_iconst (v := 0) hx hb d_DiscMaker_file_41 (by decide) ?_
      refine lv_iload hx hb d_DiscMaker_file_42 (lv_at hl 0 rfl) ?_
      have hPc := hP.sub (ws' := []) [] rfl
      have hDc := hD.sub (ws' := []) [] (by decide) rfl
      have hFc := va_free (wc := []) hD hS hA [] rfl
      have hkc : 2 ≤ 4 := by decide
      have hks : 12 ≤ 23 := by decide
      refine va_callr (va_runV (C := "DiscMaker$Text") (As := [.int 0, .int 0]) (rest := [.int 1, .ref un, .ref un]) ⟨hx, hb, hml, hown, hts⟩ (c_part l D cB cI cJ cZ cN cF H.size tx 0 0 (by decide)) (cwV 2 hts (lg_goodV k483 k484 k485 k116 kc_Text_part) rfl rfl rfl (by decide +kernel) ⟨Nat.le_of_ble_eq_true rfl, Nat.le_of_ble_eq_true rfl⟩) ⟨fun a U g mk q => by obtain ⟨q0, q1, qP, qK, qN, qD⟩ := q; exact ⟨q0, q1, qP, va_K.moved (u := U) (U := U.calling g mk a) (Vm.Alike.refl U.vm) qK, qN.calling, qD⟩, va_recv hK hP (ci := 9) (q0 := 4) rfl rfl, fun U hU hW => ⟨rfl, by rw [hU], by rw [hU]; exact hPc, va_K.moved hW.alike hK, NN.warm hW hN, hDc.weaken (fun _ _ _ _ => trivial)⟩⟩ rfl rfl hl.1 rfl (lv_room (Nat.le_of_ble_eq_true rfl)) d_DiscMaker_file_44 ⟨hkc, hks⟩) hS (fun q _ h => hFc q h) hFc (fun u um t H1 locs ht hvm hp_44 hB hz1 hk1 hS => ?_)
      obtain ⟨hP1, hD1⟩ := hB
      rw [ht] at hP1
      obtain ⟨hP, hD⟩ := va_join (wr := [(h0, .inr (0, [.ref tx, .ref tr, .ref im, .ref mk, .ref rd])), (tr, .inr (10, [.ref qa, .int 1, .int 1])), (qa, .inl (cN, 40, .inr (.inr (.inr (.inr (va_up (fun _ => none) 0 (some qn))))))), (qn, .inr (5, [.int 0, .ref qm, .ref qk, .ref qt, .int 0, .int 0, .int 0, .int 16877, .int 0, .int 0, .int 0, .int 0])), (tx, .inr (9, [.ref q, .int 0])), (un, .inr (5, [.int 0, .null, .null, .null, .int 0, .int 0, .int 0, .int 0, .int 0, .int 0, .int 0, .int 0]))]) (w1 := [(um, .inl (cB, 0, .inl (fun _ => 0)))]) hP hD [] [0, 1, 2, 3, 4, 5] rfl rfl (by decide) (by decide) hk1 hFc hP1 hD1
      clear hPc hDc hFc hP1 hD1 hk1 hz1
      generalize H1 = H at hP hS ⊢
      have hP : va_P D CL [(h0, .inr (0, [.ref tx, .ref tr, .ref im, .ref mk, .ref rd])), (tr, .inr (10, [.ref qa, .int 1, .int 1])), (qa, .inl (cN, 40, .inr (.inr (.inr (.inr (va_up (fun _ => none) 0 (some qn))))))), (qn, .inr (5, [.int 0, .ref qm, .ref qk, .ref qt, .int 0, .int 0, .int 0, .int 16877, .int 0, .int 0, .int 0, .int 0])), (tx, .inr (9, [.ref q, .int 0])), (un, .inr (5, [.int 0, .null, .null, .null, .int 0, .int 0, .int 0, .int 0, .int 0, .int 0, .int 0, .int 0])), (um, .inl (cB, 0, .inl (fun _ => 0)))] H := hP
      have hD : va_D A [(h0, .inr (0, [.ref tx, .ref tr, .ref im, .ref mk, .ref rd])), (tr, .inr (10, [.ref qa, .int 1, .int 1])), (qa, .inl (cN, 40, .inr (.inr (.inr (.inr (va_up (fun _ => none) 0 (some qn))))))), (qn, .inr (5, [.int 0, .ref qm, .ref qk, .ref qt, .int 0, .int 0, .int 0, .int 16877, .int 0, .int 0, .int 0, .int 0])), (tx, .inr (9, [.ref q, .int 0])), (un, .inr (5, [.int 0, .null, .null, .null, .int 0, .int 0, .int 0, .int 0, .int 0, .int 0, .int 0, .int 0])), (um, .inl (cB, 0, .inl (fun _ => 0)))] := hD
      refine W.widen (k := 2) (n := 12) (by decide) (by decide) ?_
      refine lv_sipush (v := 420) hx hb d_DiscMaker_file_47 (by decide) ?_
      refine lv_iconst (v := 0) hx hb d_DiscMaker_file_50 (by decide) ?_
      refine lv_iconst (v := 0) hx hb d_DiscMaker_file_51 (by decide) ?_
      have hPc := hP.sub (ws' := [(un, .inr (5, [.int 0, .null, .null, .null, .int 0, .int 0, .int 0, .int 0, .int 0, .int 0, .int 0, .int 0]))]) [5] rfl
      have hDc := hD.sub (ws' := [(un, .inr (5, [.int 0, .null, .null, .null, .int 0, .int 0, .int 0, .int 0, .int 0, .int 0, .int 0, .int 0]))]) [5] (by decide) rfl
      have hFc := va_free (wc := [(un, .inr (5, [.int 0, .null, .null, .null, .int 0, .int 0, .int 0, .int 0, .int 0, .int 0, .int 0, .int 0]))]) hD hS hA [5] rfl
      have hkc : 4 ≤ 4 := by decide
      have hks : 23 ≤ 23 := by decide
      refine va_callv (va_runI (As := [.int 1, .ref um, .int 420, .int 0, .int 0]) (rest := [.ref un]) ⟨hx, hb, hml, hown, hts⟩ (c_Node_init l D cB cI cJ cZ cN cF H.size un um 1 420 0 0) (cwI 5 hts (lg_good kc_Node_init) rfl rfl rfl (ht9 _ k118) (ht9 _ k790) (ht9 _ k175) rfl (by decide +kernel) ⟨Nat.le_of_ble_eq_true rfl, Nat.le_of_ble_eq_true rfl⟩) ⟨fun a U g mk q => by obtain ⟨q0, q1, qP, qK, qN, qD⟩ := q; exact ⟨q0, q1, qP, va_K.moved (u := U) (U := U.calling g mk a) (Vm.Alike.refl U.vm) qK, qN.calling, qD⟩, fun U hU hW => ⟨rfl, by rw [hU], by rw [hU]; exact hPc, va_K.moved hW.alike hK, NN.warm hW hN, hDc.weaken (fun _ _ _ _ => trivial)⟩⟩ rfl rfl hl.1 rfl (lv_room (Nat.le_of_ble_eq_true rfl)) d_DiscMaker_file_52 ⟨hkc, hks⟩) hS (fun q _ h => hFc q h) hFc (fun u t H1 locs ht hvm hp_52 hB hz1 hk1 hS => ?_)
      obtain ⟨ut, uk⟩ := u
      obtain ⟨hP1, hD1⟩ := hB
      rw [ht] at hP1
      obtain ⟨hP, hD⟩ := va_join (wr := [(h0, .inr (0, [.ref tx, .ref tr, .ref im, .ref mk, .ref rd])), (tr, .inr (10, [.ref qa, .int 1, .int 1])), (qa, .inl (cN, 40, .inr (.inr (.inr (.inr (va_up (fun _ => none) 0 (some qn))))))), (qn, .inr (5, [.int 0, .ref qm, .ref qk, .ref qt, .int 0, .int 0, .int 0, .int 16877, .int 0, .int 0, .int 0, .int 0])), (tx, .inr (9, [.ref q, .int 0])), (um, .inl (cB, 0, .inl (fun _ => 0)))]) (w1 := [(un, .inr (5, [.int 1, .ref um, .ref uk, .ref ut, .int 0, .int 0, .int 0, .int 420, .int 0, .int 0, .int 0, .int 0])), (ut, .inl (cB, 0, .inl (fun _ => 0))), (uk, .inl (cB, 11, .inl (fun _ => 0)))]) hP hD [5] [0, 1, 2, 3, 4, 6] rfl rfl (by decide) (by decide) hk1 hFc hP1 hD1
      clear hPc hDc hFc hP1 hD1 hk1 hz1
      generalize H1 = H at hP hS ⊢
      have hP : va_P D CL [(h0, .inr (0, [.ref tx, .ref tr, .ref im, .ref mk, .ref rd])), (tr, .inr (10, [.ref qa, .int 1, .int 1])), (qa, .inl (cN, 40, .inr (.inr (.inr (.inr (va_up (fun _ => none) 0 (some qn))))))), (qn, .inr (5, [.int 0, .ref qm, .ref qk, .ref qt, .int 0, .int 0, .int 0, .int 16877, .int 0, .int 0, .int 0, .int 0])), (tx, .inr (9, [.ref q, .int 0])), (um, .inl (cB, 0, .inl (fun _ => 0))), (un, .inr (5, [.int 1, .ref um, .ref uk, .ref ut, .int 0, .int 0, .int 0, .int 420, .int 0, .int 0, .int 0, .int 0])), (ut, .inl (cB, 0, .inl (fun _ => 0))), (uk, .inl (cB, 11, .inl (fun _ => 0)))] H := hP
      have hD : va_D A [(h0, .inr (0, [.ref tx, .ref tr, .ref im, .ref mk, .ref rd])), (tr, .inr (10, [.ref qa, .int 1, .int 1])), (qa, .inl (cN, 40, .inr (.inr (.inr (.inr (va_up (fun _ => none) 0 (some qn))))))), (qn, .inr (5, [.int 0, .ref qm, .ref qk, .ref qt, .int 0, .int 0, .int 0, .int 16877, .int 0, .int 0, .int 0, .int 0])), (tx, .inr (9, [.ref q, .int 0])), (um, .inl (cB, 0, .inl (fun _ => 0))), (un, .inr (5, [.int 1, .ref um, .ref uk, .ref ut, .int 0, .int 0, .int 0, .int 420, .int 0, .int 0, .int 0, .int 0])), (ut, .inl (cB, 0, .inl (fun _ => 0))), (uk, .inl (cB, 11, .inl (fun _ => 0)))] := hD
      refine W.widen (k := 4) (n := 23) (by decide) (by decide) ?_
      refine lv_astore hx hb d_DiscMaker_file_55 hl (by decide) rfl (fun ls hl => ?_)
      have hl : lv_has ls 6 [(5, .ref un), (4, .int 0), (0, .ref h0), (1, .int n), (2, .int x), (3, .int y)] := hl
      refine lv_aload hx hb d_DiscMaker_file_57 (lv_at hl 0 rfl) ?_
      refine lv_iload_n hx hb d_DiscMaker_file_59 rfl (lv_at hl 4 rfl) ?_
      refine va_putN (D := D) (ci := 5) (v := .int x) (ty := .int) (C := "DiscMaker$Node") (T := F_Node) (N := 12) hx hb ht9 in_Node t_Node t_Node_ok n_Node hown hK hP hD hS 6 rfl rfl 10 (by decide) (va_Nw.use rfl (hN _ k206)) (fun _ h9 => h9) rfl (by decide +kernel) rfl rfl (Nat.le_of_ble_eq_true rfl) d_DiscMaker_file_60 (fun H locs hP hD hS => ?_)
      have hP : va_P D CL [(h0, .inr (0, [.ref tx, .ref tr, .ref im, .ref mk, .ref rd])), (tr, .inr (10, [.ref qa, .int 1, .int 1])), (qa, .inl (cN, 40, .inr (.inr (.inr (.inr (va_up (fun _ => none) 0 (some qn))))))), (qn, .inr (5, [.int 0, .ref qm, .ref qk, .ref qt, .int 0, .int 0, .int 0, .int 16877, .int 0, .int 0, .int 0, .int 0])), (tx, .inr (9, [.ref q, .int 0])), (um, .inl (cB, 0, .inl (fun _ => 0))), (un, .inr (5, [.int 1, .ref um, .ref uk, .ref ut, .int 0, .int 0, .int 0, .int 420, .int 0, .int 0, .int x, .int 0])), (ut, .inl (cB, 0, .inl (fun _ => 0))), (uk, .inl (cB, 11, .inl (fun _ => 0)))] H := hP
      have hD : va_D A [(h0, .inr (0, [.ref tx, .ref tr, .ref im, .ref mk, .ref rd])), (tr, .inr (10, [.ref qa, .int 1, .int 1])), (qa, .inl (cN, 40, .inr (.inr (.inr (.inr (va_up (fun _ => none) 0 (some qn))))))), (qn, .inr (5, [.int 0, .ref qm, .ref qk, .ref qt, .int 0, .int 0, .int 0, .int 16877, .int 0, .int 0, .int 0, .int 0])), (tx, .inr (9, [.ref q, .int 0])), (um, .inl (cB, 0, .inl (fun _ => 0))), (un, .inr (5, [.int 1, .ref um, .ref uk, .ref ut, .int 0, .int 0, .int 0, .int 420, .int 0, .int 0, .int x, .int 0])), (ut, .inl (cB, 0, .inl (fun _ => 0))), (uk, .inl (cB, 11, .inl (fun _ => 0)))] := hD
      refine lv_aload hx hb d_DiscMaker_file_63 (lv_at hl 0 rfl) ?_
      refine lv_iload_n hx hb d_DiscMaker_file_65 rfl (lv_at hl 5 rfl) ?_
      refine va_putN (D := D) (ci := 5) (v := .int y) (ty := .int) (C := "DiscMaker$Node") (T := F_Node) (N := 12) hx hb ht9 in_Node t_Node t_Node_ok n_Node hown hK hP hD hS 6 rfl rfl 11 (by decide) (va_Nw.use rfl (hN _ k208)) (fun _ h9 => h9) rfl (by decide +kernel) rfl rfl (Nat.le_of_ble_eq_true rfl) d_DiscMaker_file_66 (fun H locs hP hD hS => ?_)
      have hP : va_P D CL [(h0, .inr (0, [.ref tx, .ref tr, .ref im, .ref mk, .ref rd])), (tr, .inr (10, [.ref qa, .int 1, .int 1])), (qa, .inl (cN, 40, .inr (.inr (.inr (.inr (va_up (fun _ => none) 0 (some qn))))))), (qn, .inr (5, [.int 0, .ref qm, .ref qk, .ref qt, .int 0, .int 0, .int 0, .int 16877, .int 0, .int 0, .int 0, .int 0])), (tx, .inr (9, [.ref q, .int 0])), (um, .inl (cB, 0, .inl (fun _ => 0))), (un, .inr (5, [.int 1, .ref um, .ref uk, .ref ut, .int 0, .int 0, .int 0, .int 420, .int 0, .int 0, .int x, .int y])), (ut, .inl (cB, 0, .inl (fun _ => 0))), (uk, .inl (cB, 11, .inl (fun _ => 0)))] H := hP
      have hD : va_D A [(h0, .inr (0, [.ref tx, .ref tr, .ref im, .ref mk, .ref rd])), (tr, .inr (10, [.ref qa, .int 1, .int 1])), (qa, .inl (cN, 40, .inr (.inr (.inr (.inr (va_up (fun _ => none) 0 (some qn))))))), (qn, .inr (5, [.int 0, .ref qm, .ref qk, .ref qt, .int 0, .int 0, .int 0, .int 16877, .int 0, .int 0, .int 0, .int 0])), (tx, .inr (9, [.ref q, .int 0])), (um, .inl (cB, 0, .inl (fun _ => 0))), (un, .inr (5, [.int 1, .ref um, .ref uk, .ref ut, .int 0, .int 0, .int 0, .int 420, .int 0, .int 0, .int x, .int y])), (ut, .inl (cB, 0, .inl (fun _ => 0))), (uk, .inl (cB, 11, .inl (fun _ => 0)))] := hD
      refine lv_aload_n hx hb d_DiscMaker_file_69 rfl (lv_at hl 2 rfl) ?_
      refine lv_iload_n hx hb d_DiscMaker_file_70 rfl (lv_at hl 3 rfl) ?_
      refine lv_aload hx hb d_DiscMaker_file_71 (lv_at hl 0 rfl) ?_
      have hPc := hP.sub (ws' := [(h0, .inr (0, [.ref tx, .ref tr, .ref im, .ref mk, .ref rd])), (tr, .inr (10, [.ref qa, .int 1, .int 1])), (qa, .inl (cN, 40, .inr (.inr (.inr (.inr (va_up (fun _ => none) 0 (some qn))))))), (qn, .inr (5, [.int 0, .ref qm, .ref qk, .ref qt, .int 0, .int 0, .int 0, .int 16877, .int 0, .int 0, .int 0, .int 0])), (un, .inr (5, [.int 1, .ref um, .ref uk, .ref ut, .int 0, .int 0, .int 0, .int 420, .int 0, .int 0, .int x, .int y])), (um, .inl (cB, 0, .inl (fun _ => 0)))]) [0, 1, 2, 3, 6, 5] rfl
      have hDc := hD.sub (ws' := [(h0, .inr (0, [.ref tx, .ref tr, .ref im, .ref mk, .ref rd])), (tr, .inr (10, [.ref qa, .int 1, .int 1])), (qa, .inl (cN, 40, .inr (.inr (.inr (.inr (va_up (fun _ => none) 0 (some qn))))))), (qn, .inr (5, [.int 0, .ref qm, .ref qk, .ref qt, .int 0, .int 0, .int 0, .int 16877, .int 0, .int 0, .int 0, .int 0])), (un, .inr (5, [.int 1, .ref um, .ref uk, .ref ut, .int 0, .int 0, .int 0, .int 420, .int 0, .int 0, .int x, .int y])), (um, .inl (cB, 0, .inl (fun _ => 0)))]) [0, 1, 2, 3, 6, 5] (by decide) rfl
      have hFc := va_free (wc := [(h0, .inr (0, [.ref tx, .ref tr, .ref im, .ref mk, .ref rd])), (tr, .inr (10, [.ref qa, .int 1, .int 1])), (qa, .inl (cN, 40, .inr (.inr (.inr (.inr (va_up (fun _ => none) 0 (some qn))))))), (qn, .inr (5, [.int 0, .ref qm, .ref qk, .ref qt, .int 0, .int 0, .int 0, .int 16877, .int 0, .int 0, .int 0, .int 0])), (un, .inr (5, [.int 1, .ref um, .ref uk, .ref ut, .int 0, .int 0, .int 0, .int 420, .int 0, .int 0, .int x, .int y])), (um, .inl (cB, 0, .inl (fun _ => 0)))]) hD hS hA [0, 1, 2, 3, 6, 5] rfl
      have hkc : 4 ≤ 4 := by decide
      have hks : 23 ≤ 23 := by decide
      refine va_calli (va_runV (C := "DiscMaker") (As := [.int n, .ref un]) (rest := []) ⟨hx, hb, hml, hown, hts⟩ (c_grow l D cB cI cJ cZ cN cF H.size h0 tx tr im mk rd qa qn qm qk qt un um uk ut n 1 420 0 0 x y (fun _ => 0)) (cwV 2 hts (lg_goodV k791 k793 k2 k115 kc_DiscMaker_grow) rfl rfl rfl (by decide +kernel) ⟨Nat.le_of_ble_eq_true rfl, Nat.le_of_ble_eq_true rfl⟩) ⟨fun a U g mk q => by obtain ⟨q0, q1, qP, qK, qN, qD⟩ := q; exact ⟨q0, q1, qP, va_K.moved (u := U) (U := U.calling g mk a) (Vm.Alike.refl U.vm) qK, qN.calling, qD⟩, va_recv hK hP (ci := 0) (q0 := 0) rfl rfl, fun U hU hW => ⟨rfl, by rw [hU], by rw [hU]; exact hPc, va_K.moved hW.alike hK, NN.warm hW hN, hDc.weaken (fun _ _ _ _ => trivial)⟩⟩ rfl rfl hl.1 rfl (lv_room (Nat.le_of_ble_eq_true rfl)) d_DiscMaker_file_73 ⟨hkc, hks⟩) hS (fun q _ h => hFc q h) hFc (fun r73 u t H1 locs ht hvm hp_73 hB hz1 hk1 hS => ?_)
      obtain ⟨hP1, hD1⟩ := hB
      rw [ht] at hP1
      try dsimp only at hp_73
      obtain ⟨hP, hD⟩ := va_join (wr := [(tx, .inr (9, [.ref q, .int 0])), (ut, .inl (cB, 0, .inl (fun _ => 0))), (uk, .inl (cB, 11, .inl (fun _ => 0)))]) (w1 := []) hP hD [0, 1, 2, 3, 6, 5] [4, 7, 8] rfl rfl (by decide) (by decide) hk1 hFc hP1 hD1
      clear hPc hDc hFc hP1 hD1 hk1 hz1
      generalize H1 = H at hP hS ⊢
      have hP : va_P D CL [(tx, .inr (9, [.ref q, .int 0])), (ut, .inl (cB, 0, .inl (fun _ => 0))), (uk, .inl (cB, 11, .inl (fun _ => 0)))] H := hP
      have hD : va_D A [(tx, .inr (9, [.ref q, .int 0])), (ut, .inl (cB, 0, .inl (fun _ => 0))), (uk, .inl (cB, 11, .inl (fun _ => 0)))] := hD
      have hP9 := hP.sub (ws' := []) [] rfl
      have hD9 := hD.sub (ws' := []) [] (by decide) rfl
      exact W.iret (v := r73) hx hb hr (fun t ht hW => ⟨⟨r73, (), rfl, hp_73, by rw [ht]; exact hP9, hD9⟩, hS.F ht⟩) hS.2.2 d_DiscMaker_file_76
    · skip
      refine lv_if_ne (tgt := 32) hx hb d_DiscMaker_file_26 (by decide) (fun h_26 => absurd (by decide) h_26) (fun h_26 => ?_)
      refine lv_bipush (v := (-4)) hx hb d_DiscMaker_file_29 (by decide) ?_
      have hP9 := hP.sub (ws' := []) [] rfl
      have hD9 := hD.sub (ws' := []) [] (by decide) rfl
      refine W.widen (k := 4) (n := 23) (by decide) (by decide) ?_
      exact W.iret (v := (-4)) hx hb hr (fun t ht hW => ⟨⟨(-4), (), rfl, rfl, by rw [ht]; exact hP9, hD9⟩, hS.F ht⟩) hS.2.2 d_DiscMaker_file_31
  · skip
    refine lv_if_eq (tgt := 29) hx hb d_DiscMaker_file_16 (by decide) (fun h_16 => ?_) (fun h_16 => absurd (by decide) h_16)
    refine lv_bipush (v := (-4)) hx hb d_DiscMaker_file_29 (by decide) ?_
    have hP9 := hP.sub (ws' := []) [] rfl
    have hD9 := hD.sub (ws' := []) [] (by decide) rfl
    refine W.widen (k := 4) (n := 23) (by decide) (by decide) ?_
    exact W.iret (v := (-4)) hx hb hr (fun t ht hW => ⟨⟨(-4), (), rfl, rfl, by rw [ht]; exact hP9, hD9⟩, hS.F ht⟩) hS.2.2 d_DiscMaker_file_31

theorem d_DiscMaker_link_0 : decode b_DiscMaker_link 0 = .ok (.aload_n 0, 1) := by decide +kernel
theorem d_DiscMaker_link_1 : decode b_DiscMaker_link 1 = .ok (.getfield 10, 3) := by decide +kernel
theorem d_DiscMaker_link_4 : decode b_DiscMaker_link 4 = .ok (.invokevirtual 58, 3) := by decide +kernel
theorem d_DiscMaker_link_7 : decode b_DiscMaker_link 7 = .ok (.istore_n 2, 1) := by decide +kernel
theorem d_DiscMaker_link_8 : decode b_DiscMaker_link 8 = .ok (.aload_n 0, 1) := by decide +kernel
theorem d_DiscMaker_link_9 : decode b_DiscMaker_link 9 = .ok (.getfield 10, 3) := by decide +kernel
theorem d_DiscMaker_link_12 : decode b_DiscMaker_link 12 = .ok (.iload_n 2, 1) := by decide +kernel
theorem d_DiscMaker_link_13 : decode b_DiscMaker_link 13 = .ok (.invokevirtual 90, 3) := by decide +kernel
theorem d_DiscMaker_link_16 : decode b_DiscMaker_link 16 = .ok (.istore_n 3, 1) := by decide +kernel
theorem d_DiscMaker_link_17 : decode b_DiscMaker_link 17 = .ok (.aload_n 0, 1) := by decide +kernel
theorem d_DiscMaker_link_18 : decode b_DiscMaker_link 18 = .ok (.getfield 10, 3) := by decide +kernel
theorem d_DiscMaker_link_21 : decode b_DiscMaker_link 21 = .ok (.iload_n 3, 1) := by decide +kernel
theorem d_DiscMaker_link_22 : decode b_DiscMaker_link 22 = .ok (.iconst 1, 1) := by decide +kernel
theorem d_DiscMaker_link_23 : decode b_DiscMaker_link 23 = .ok (.iadd, 1) := by decide +kernel
theorem d_DiscMaker_link_24 : decode b_DiscMaker_link 24 = .ok (.iload_n 2, 1) := by decide +kernel
theorem d_DiscMaker_link_25 : decode b_DiscMaker_link 25 = .ok (.invokevirtual 68, 3) := by decide +kernel
theorem d_DiscMaker_link_28 : decode b_DiscMaker_link 28 = .ok (.astore 4, 2) := by decide +kernel
theorem d_DiscMaker_link_30 : decode b_DiscMaker_link 30 = .ok (.aload 4, 2) := by decide +kernel
theorem d_DiscMaker_link_32 : decode b_DiscMaker_link 32 = .ok (.invokestatic 94, 3) := by decide +kernel
theorem d_DiscMaker_link_35 : decode b_DiscMaker_link 35 = .ok (.ifCond .eq 18, 3) := by decide +kernel
theorem d_DiscMaker_link_53 : decode b_DiscMaker_link 53 = .ok (.bipush (-4), 2) := by decide +kernel
theorem d_DiscMaker_link_55 : decode b_DiscMaker_link 55 = .ok (.ireturn, 1) := by decide +kernel
set_option maxHeartbeats 4000000 in
set_option maxRecDepth 100000 in
theorem c_link (l : Launch) (D : va_G) (cB cI cJ cZ cN cF : ClassId) (sz : Nat) (h0 tx tr im mk rd : Nat) (q : Nat) (n : Int32) : Met l y_DiscMaker_link w_DiscMaker_link ({ frames := 1, cells := 1, slots := 0, locals := 22 }) (va_Pc [.ref h0, .int n] (fun U => U.heap.size = sz ∧ va_P D CL [(h0, .inr (0, [.ref tx, .ref tr, .ref im, .ref mk, .ref rd])), (tx, .inr (9, [.ref q, .int 0]))] U.heap ∧ va_K D CL (TY cB cI cJ cZ cN cF) U ∧ NN U ∧ va_D (fun _ => True) [(h0, .inr (0, [.ref tx, .ref tr, .ref im, .ref mk, .ref rd])), (tx, .inr (9, [.ref q, .int 0]))])) (va_Qi (fun (r : Int32) (u : Unit) => r = (-4)) (fun (u : Unit) (t : State) => match u with | () => va_P D CL [] t.heap ∧ va_D (va_A [(h0, .inr (0, [.ref tx, .ref tr, .ref im, .ref mk, .ref rd])), (tx, .inr (9, [.ref q, .int 0]))] sz) []) (va_A [(h0, .inr (0, [.ref tx, .ref tr, .ref im, .ref mk, .ref rd])), (tx, .inr (9, [.ref q, .int 0]))] sz)) 1 0 (va_A [(h0, .inr (0, [.ref tx, .ref tr, .ref im, .ref mk, .ref rd])), (tx, .inr (9, [.ref q, .int 0]))] sz) := by
  refine Met.ofW (cc := b_DiscMaker_link) (maxL := 6) (ret := some .int) (by decide) rfl ?_
  intro p e s m args below meth c s₁ B hml hv
  obtain ⟨rfl, hsz, hP, hK, hN, hD0⟩ := hv
  have hx := B.exec
  have hb := B.bytes
  have hr := B.returns
  have hts := atoms_spec (ws := w_DiscMaker_link) B.pre
  have ht9 := fun (w : Cond) (h : w ∈ lw_g) => hts w (List.mem_cons_of_mem _ h)
  have hown : s.vm.findClass "DiscMaker" = some m.cls := findClass_of_methodNamed B.named
  have hlocks := B.notSynchronized
  subst hsz
  have hD := hD0.self (sz := s.heap.size)
  generalize hAe : va_A [(h0, .inr (0, [.ref tx, .ref tr, .ref im, .ref mk, .ref rd])), (tx, .inr (9, [.ref q, .int 0]))] s.heap.size = A at hD ⊢
  have hA : ∀ q : Nat, s.heap.size ≤ q → A q := fun q h => by rw [← hAe]; exact Or.inr h
  have hS : va_S A s.heap s.heap [] := va_S.rf
  have hP : va_P D CL [(h0, .inr (0, [.ref tx, .ref tr, .ref im, .ref mk, .ref rd])), (tx, .inr (9, [.ref q, .int 0]))] s.heap := hP
  have hl := lv_entry [.ref h0, .int n] (n := 6) (Nat.le_of_ble_eq_true rfl)
  rw [lg_entry_eq]
  generalize (lg_sl [.ref h0, .int n] ++ List.replicate (6 - (lg_sl [.ref h0, .int n]).length) Slot.unset).toArray = ls at hl ⊢
  have hl : lv_has ls 6 [(0, .ref h0), (1, .int n)] := hl
  refine lv_aload_n hx hb d_DiscMaker_link_0 rfl (lv_at hl 0 rfl) ?_
  refine va_get (D := D) (ci := 0) (v := .ref tx) (C := "DiscMaker") (T := F_DiscMaker) (N := 5) hx hb ht9 in_DiscMaker hown hK hP 0 rfl rfl 0 (by decide) (ht9 _ k431) (fun _ h9 => h9) rfl d_DiscMaker_link_1 ?_
  have hPc := hP.sub (ws' := [(tx, .inr (9, [.ref q, .int 0]))]) [1] rfl
  have hDc := hD.sub (ws' := [(tx, .inr (9, [.ref q, .int 0]))]) [1] (by decide) rfl
  have hFc := va_free (wc := [(tx, .inr (9, [.ref q, .int 0]))]) hD hS hA [1] rfl
  have hkc : 0 ≤ 1 := by decide
  have hks : 0 ≤ 0 := by decide
  refine va_calli (va_runV (C := "DiscMaker$Text") (As := []) (rest := []) ⟨hx, hb, hml, hown, hts⟩ (c_useUp l D cB cI cJ cZ cN cF s.heap.size tx q) (cwV 0 hts (lg_goodV k471 k472 k473 k116 kc_Text_useUp) rfl rfl rfl (by decide +kernel) ⟨Nat.le_of_ble_eq_true rfl, Nat.le_of_ble_eq_true rfl⟩) ⟨fun a U g mk q => by obtain ⟨q0, q1, qP, qK, qN, qD⟩ := q; exact ⟨q0, q1, qP, va_K.moved (u := U) (U := U.calling g mk a) (Vm.Alike.refl U.vm) qK, qN.calling, qD⟩, va_recv hK hP (ci := 9) (q0 := 1) rfl rfl, fun U hU hW => ⟨rfl, by rw [hU], by rw [hU]; exact hPc, va_K.moved hW.alike hK, NN.warm hW hN, hDc.weaken (fun _ _ _ _ => trivial)⟩⟩ rfl rfl hl.1 rfl (lv_room (Nat.le_of_ble_eq_true rfl)) d_DiscMaker_link_4 ⟨hkc, hks⟩) hS (fun q _ h => hFc q h) hFc (fun r4 u t H1 locs ht hvm hp_4 hB hz1 hk1 hS => ?_)
  obtain ⟨hP1, hD1⟩ := hB
  rw [ht] at hP1
  try dsimp only at hp_4
  obtain ⟨hP, hD⟩ := va_join (wr := [(h0, .inr (0, [.ref tx, .ref tr, .ref im, .ref mk, .ref rd]))]) (w1 := [(tx, .inr (9, [.ref q, .int 0]))]) hP hD [1] [0] rfl rfl (by decide) (by decide) hk1 hFc hP1 hD1
  clear hPc hDc hFc hP1 hD1 hk1 hz1
  generalize H1 = H at hP hS ⊢
  have hP : va_P D CL [(h0, .inr (0, [.ref tx, .ref tr, .ref im, .ref mk, .ref rd])), (tx, .inr (9, [.ref q, .int 0]))] H := hP
  have hD : va_D A [(h0, .inr (0, [.ref tx, .ref tr, .ref im, .ref mk, .ref rd])), (tx, .inr (9, [.ref q, .int 0]))] := hD
  refine W.eq (g2 := F0 m 7 ls [.int 0]) (by rw [show r4 = 0 from hp_4]) ?_
  refine lv_istore_n hx hb d_DiscMaker_link_7 rfl hl (by decide) rfl (fun ls hl => ?_)
  have hl : lv_has ls 6 [(2, .int 0), (0, .ref h0), (1, .int n)] := hl
  refine lv_aload_n hx hb d_DiscMaker_link_8 rfl (lv_at hl 1 rfl) ?_
  refine va_get (D := D) (ci := 0) (v := .ref tx) (C := "DiscMaker") (T := F_DiscMaker) (N := 5) hx hb ht9 in_DiscMaker hown hK hP 0 rfl rfl 0 (by decide) (ht9 _ k431) (fun _ h9 => h9) rfl d_DiscMaker_link_9 ?_
  refine lv_iload_n hx hb d_DiscMaker_link_12 rfl (lv_at hl 0 rfl) ?_
  have hPc := hP.sub (ws' := []) [] rfl
  have hDc := hD.sub (ws' := []) [] (by decide) rfl
  have hFc := va_free (wc := []) hD hS hA [] rfl
  have hkc : 0 ≤ 1 := by decide
  have hks : 0 ≤ 0 := by decide
  refine va_calli (va_runV (C := "DiscMaker$Text") (As := [.int 0]) (rest := []) ⟨hx, hb, hml, hown, hts⟩ (c_findZero l D cB cI cJ cZ cN cF H.size tx) (cwV 1 hts (lg_goodV k880 k881 k882 k116 kc_Text_findZero) rfl rfl rfl (by decide +kernel) ⟨Nat.le_of_ble_eq_true rfl, Nat.le_of_ble_eq_true rfl⟩) ⟨fun a U g mk q => by obtain ⟨q0, q1, qP, qK, qN, qD⟩ := q; exact ⟨q0, q1, qP, va_K.moved (u := U) (U := U.calling g mk a) (Vm.Alike.refl U.vm) qK, qN.calling, qD⟩, va_recv hK hP (ci := 9) (q0 := 1) rfl rfl, fun U hU hW => ⟨rfl, by rw [hU], by rw [hU]; exact hPc, va_K.moved hW.alike hK, NN.warm hW hN, hDc.weaken (fun _ _ _ _ => trivial)⟩⟩ rfl rfl hl.1 rfl (lv_room (Nat.le_of_ble_eq_true rfl)) d_DiscMaker_link_13 ⟨hkc, hks⟩) hS (fun q _ h => hFc q h) hFc (fun r13 u t H1 locs ht hvm hp_13 hB hz1 hk1 hS => ?_)
  obtain ⟨hP1, hD1⟩ := hB
  rw [ht] at hP1
  try dsimp only at hp_13
  obtain ⟨hP, hD⟩ := va_join (wr := [(h0, .inr (0, [.ref tx, .ref tr, .ref im, .ref mk, .ref rd])), (tx, .inr (9, [.ref q, .int 0]))]) (w1 := []) hP hD [] [0, 1] rfl rfl (by decide) (by decide) hk1 hFc hP1 hD1
  clear hPc hDc hFc hP1 hD1 hk1 hz1
  generalize H1 = H at hP hS ⊢
  have hP : va_P D CL [(h0, .inr (0, [.ref tx, .ref tr, .ref im, .ref mk, .ref rd])), (tx, .inr (9, [.ref q, .int 0]))] H := hP
  have hD : va_D A [(h0, .inr (0, [.ref tx, .ref tr, .ref im, .ref mk, .ref rd])), (tx, .inr (9, [.ref q, .int 0]))] := hD
  refine W.eq (g2 := F0 m 16 ls [.int 0]) (by rw [show r13 = 0 from hp_13]) ?_
  refine lv_istore_n hx hb d_DiscMaker_link_16 rfl hl (by decide) rfl (fun ls hl => ?_)
  have hl : lv_has ls 6 [(3, .int 0), (2, .int 0), (0, .ref h0), (1, .int n)] := hl
  refine lv_aload_n hx hb d_DiscMaker_link_17 rfl (lv_at hl 2 rfl) ?_
  refine va_get (D := D) (ci := 0) (v := .ref tx) (C := "DiscMaker") (T := F_DiscMaker) (N := 5) hx hb ht9 in_DiscMaker hown hK hP 0 rfl rfl 0 (by decide) (ht9 _ k431) (fun _ h9 => h9) rfl d_DiscMaker_link_18 ?_
  refine lv_iload_n hx hb d_DiscMaker_link_21 rfl (lv_at hl 0 rfl) ?_
  refine lv_iconst (v := 1) hx hb d_DiscMaker_link_22 (by decide) ?_
  refine lv_iadd hx hb d_DiscMaker_link_23 ?_
  refine W.eq (g2 := F0 m 24 ls [.int 1, .ref tx]) (by rw [show ((0 + 1) : Int32) = 1 from by decide]) ?_
  refine lv_iload_n hx hb d_DiscMaker_link_24 rfl (lv_at hl 1 rfl) ?_
  have hPc := hP.sub (ws' := []) [] rfl
  have hDc := hD.sub (ws' := []) [] (by decide) rfl
  have hFc := va_free (wc := []) hD hS hA [] rfl
  have hkc : 1 ≤ 1 := by decide
  have hks : 0 ≤ 0 := by decide
  refine va_callr (va_runV (C := "DiscMaker$Text") (As := [.int 1, .int 0]) (rest := []) ⟨hx, hb, hml, hown, hts⟩ (c_part l D cB cI cJ cZ cN cF H.size tx 1 0 (by decide)) (cwV 2 hts (lg_goodV k483 k484 k485 k116 kc_Text_part) rfl rfl rfl (by decide +kernel) ⟨Nat.le_of_ble_eq_true rfl, Nat.le_of_ble_eq_true rfl⟩) ⟨fun a U g mk q => by obtain ⟨q0, q1, qP, qK, qN, qD⟩ := q; exact ⟨q0, q1, qP, va_K.moved (u := U) (U := U.calling g mk a) (Vm.Alike.refl U.vm) qK, qN.calling, qD⟩, va_recv hK hP (ci := 9) (q0 := 1) rfl rfl, fun U hU hW => ⟨rfl, by rw [hU], by rw [hU]; exact hPc, va_K.moved hW.alike hK, NN.warm hW hN, hDc.weaken (fun _ _ _ _ => trivial)⟩⟩ rfl rfl hl.1 rfl (lv_room (Nat.le_of_ble_eq_true rfl)) d_DiscMaker_link_25 ⟨hkc, hks⟩) hS (fun q _ h => hFc q h) hFc (fun u um t H1 locs ht hvm hp_25 hB hz1 hk1 hS => ?_)
  obtain ⟨hP1, hD1⟩ := hB
  rw [ht] at hP1
  obtain ⟨hP, hD⟩ := va_join (wr := [(h0, .inr (0, [.ref tx, .ref tr, .ref im, .ref mk, .ref rd])), (tx, .inr (9, [.ref q, .int 0]))]) (w1 := [(um, .inl (cB, 0, .inl (fun _ => 0)))]) hP hD [] [0, 1] rfl rfl (by decide) (by decide) hk1 hFc hP1 hD1
  clear hPc hDc hFc hP1 hD1 hk1 hz1
  generalize H1 = H at hP hS ⊢
  have hP : va_P D CL [(h0, .inr (0, [.ref tx, .ref tr, .ref im, .ref mk, .ref rd])), (tx, .inr (9, [.ref q, .int 0])), (um, .inl (cB, 0, .inl (fun _ => 0)))] H := hP
  have hD : va_D A [(h0, .inr (0, [.ref tx, .ref tr, .ref im, .ref mk, .ref rd])), (tx, .inr (9, [.ref q, .int 0])), (um, .inl (cB, 0, .inl (fun _ => 0)))] := hD
  refine W.widen (k := 1) (n := 0) (by decide) (by decide) ?_
  refine lv_astore hx hb d_DiscMaker_link_28 hl (by decide) rfl (fun ls hl => ?_)
  have hl : lv_has ls 6 [(4, .ref um), (3, .int 0), (2, .int 0), (0, .ref h0), (1, .int n)] := hl
  refine lv_aload hx hb d_DiscMaker_link_30 (lv_at hl 0 rfl) ?_
  have hPc := hP.sub (ws' := [(um, .inl (cB, 0, .inl (fun _ => 0)))]) [2] rfl
  have hDc := hD.sub (ws' := [(um, .inl (cB, 0, .inl (fun _ => 0)))]) [2] (by decide) rfl
  have hFc := va_free (wc := [(um, .inl (cB, 0, .inl (fun _ => 0)))]) hD hS hA [2] rfl
  have hkc : 1 ≤ 1 := by decide
  have hks : 0 ≤ 0 := by decide
  refine va_calli (va_runS (As := [.ref um]) (rest := []) ⟨hx, hb, hml, hown, hts⟩ (c_isTarget l D cB cI cJ cZ cN cF H.size um (fun _ => 0)) (cwS 1 hts (lg_goodS k884 k885 k115 kc_DiscMaker_isTarget) rfl rfl rfl (by decide +kernel) ⟨Nat.le_of_ble_eq_true rfl, Nat.le_of_ble_eq_true rfl⟩) ⟨fun a U g mk q => by obtain ⟨q0, q1, qP, qK, qN, qD⟩ := q; exact ⟨q0, q1, qP, va_K.moved (u := U) (U := U.calling g mk a) (Vm.Alike.refl U.vm) qK, qN.calling, qD⟩, fun U hU hW => ⟨rfl, by rw [hU], by rw [hU]; exact hPc, va_K.moved hW.alike hK, NN.warm hW hN, hDc.weaken (fun _ _ _ _ => trivial)⟩⟩ rfl rfl hl.1 rfl (lv_room (Nat.le_of_ble_eq_true rfl)) d_DiscMaker_link_32 ⟨hkc, hks⟩) hS (fun q _ h => hFc q h) hFc (fun r32 u t H1 locs ht hvm hp_32 hB hz1 hk1 hS => ?_)
  obtain ⟨hP1, hD1⟩ := hB
  rw [ht] at hP1
  try dsimp only at hp_32
  obtain ⟨hP, hD⟩ := va_join (wr := [(h0, .inr (0, [.ref tx, .ref tr, .ref im, .ref mk, .ref rd])), (tx, .inr (9, [.ref q, .int 0]))]) (w1 := [(um, .inl (cB, 0, .inl (fun _ => 0)))]) hP hD [2] [0, 1] rfl rfl (by decide) (by decide) hk1 hFc hP1 hD1
  clear hPc hDc hFc hP1 hD1 hk1 hz1
  generalize H1 = H at hP hS ⊢
  have hP : va_P D CL [(h0, .inr (0, [.ref tx, .ref tr, .ref im, .ref mk, .ref rd])), (tx, .inr (9, [.ref q, .int 0])), (um, .inl (cB, 0, .inl (fun _ => 0)))] H := hP
  have hD : va_D A [(h0, .inr (0, [.ref tx, .ref tr, .ref im, .ref mk, .ref rd])), (tx, .inr (9, [.ref q, .int 0])), (um, .inl (cB, 0, .inl (fun _ => 0)))] := hD
  refine W.eq (g2 := F0 m 35 ls [.int 0]) (by rw [show r32 = 0 from hp_32]) ?_
  refine lv_if_eq (tgt := 53) hx hb d_DiscMaker_link_35 (by decide) (fun h_35 => ?_) (fun h_35 => absurd (by decide) h_35)
  refine lv_bipush (v := (-4)) hx hb d_DiscMaker_link_53 (by decide) ?_
  have hP9 := hP.sub (ws' := []) [] rfl
  have hD9 := hD.sub (ws' := []) [] (by decide) rfl
  exact W.iret (v := (-4)) hx hb hr (fun t ht hW => ⟨⟨(-4), (), rfl, rfl, by rw [ht]; exact hP9, hD9⟩, hS.F ht⟩) hS.2.2 d_DiscMaker_link_55

theorem d_Reader_findDescriptor_0 : decode b_Reader_findDescriptor 0 = .ok (.iconst (-1), 1) := by decide +kernel
theorem d_Reader_findDescriptor_1 : decode b_Reader_findDescriptor 1 = .ok (.istore_n 1, 1) := by decide +kernel
theorem d_Reader_findDescriptor_2 : decode b_Reader_findDescriptor 2 = .ok (.ldc 54, 2) := by decide +kernel
theorem d_Reader_findDescriptor_4 : decode b_Reader_findDescriptor 4 = .ok (.istore_n 2, 1) := by decide +kernel
theorem d_Reader_findDescriptor_5 : decode b_Reader_findDescriptor 5 = .ok (.iload_n 2, 1) := by decide +kernel
theorem d_Reader_findDescriptor_6 : decode b_Reader_findDescriptor 6 = .ok (.aload_n 0, 1) := by decide +kernel
theorem d_Reader_findDescriptor_7 : decode b_Reader_findDescriptor 7 = .ok (.getfield 17, 3) := by decide +kernel
theorem d_Reader_findDescriptor_10 : decode b_Reader_findDescriptor 10 = .ok (.getfield 55, 3) := by decide +kernel
theorem d_Reader_findDescriptor_13 : decode b_Reader_findDescriptor 13 = .ok (.if_icmp .ge 73, 3) := by decide +kernel
theorem d_Reader_findDescriptor_86 : decode b_Reader_findDescriptor 86 = .ok (.aload_n 0, 1) := by decide +kernel
theorem d_Reader_findDescriptor_87 : decode b_Reader_findDescriptor 87 = .ok (.iload_n 2, 1) := by decide +kernel
theorem d_Reader_findDescriptor_88 : decode b_Reader_findDescriptor 88 = .ok (.putfield 37, 3) := by decide +kernel
theorem d_Reader_findDescriptor_91 : decode b_Reader_findDescriptor 91 = .ok (.iconst (-1), 1) := by decide +kernel
theorem d_Reader_findDescriptor_92 : decode b_Reader_findDescriptor 92 = .ok (.ireturn, 1) := by decide +kernel
set_option maxHeartbeats 4000000 in
set_option maxRecDepth 100000 in
theorem c_findDescriptor (l : Launch) (D : va_G) (cB cI cJ cZ cN cF : ClassId) (sz : Nat) (h0 im qp qr q : Nat) (v : Int32) : Met l y_Reader_findDescriptor w_Reader_findDescriptor ({ frames := 0, cells := 0, slots := 0, locals := 0 }) (va_Pc [.ref h0] (fun U => U.heap.size = sz ∧ va_P D CL [(h0, .inr (7, [.ref im, .ref qp, .ref qr, .int 0, .int v, .int (-1)])), (im, .inr (1, [.ref q, .int 0]))] U.heap ∧ va_K D CL (TY cB cI cJ cZ cN cF) U ∧ NN U ∧ va_D (fun _ => True) [(h0, .inr (7, [.ref im, .ref qp, .ref qr, .int 0, .int v, .int (-1)])), (im, .inr (1, [.ref q, .int 0]))])) (va_Qi (fun (r : Int32) (u : Unit) => r = (-1)) (fun (u : Unit) (t : State) => match u with | () => va_P D CL [(h0, .inr (7, [.ref im, .ref qp, .ref qr, .int 0, .int v, .int 32768])), (im, .inr (1, [.ref q, .int 0]))] t.heap ∧ va_D (va_A [(h0, .inr (7, [.ref im, .ref qp, .ref qr, .int 0, .int v, .int (-1)])), (im, .inr (1, [.ref q, .int 0]))] sz) [(h0, .inr (7, [.ref im, .ref qp, .ref qr, .int 0, .int v, .int 32768])), (im, .inr (1, [.ref q, .int 0]))]) (va_A [(h0, .inr (7, [.ref im, .ref qp, .ref qr, .int 0, .int v, .int (-1)])), (im, .inr (1, [.ref q, .int 0]))] sz)) 0 0 (va_A [(h0, .inr (7, [.ref im, .ref qp, .ref qr, .int 0, .int v, .int (-1)])), (im, .inr (1, [.ref q, .int 0]))] sz) := by
  refine Met.ofW (cc := b_Reader_findDescriptor) (maxL := 3) (ret := some .int) (by decide) rfl ?_
  intro p e s m args below meth c s₁ B hml hv
  obtain ⟨rfl, hsz, hP, hK, hN, hD0⟩ := hv
  have hx := B.exec
  have hb := B.bytes
  have hr := B.returns
  have hts := atoms_spec (ws := w_Reader_findDescriptor) B.pre
  have ht9 := fun (w : Cond) (h : w ∈ lw_g) => hts w (List.mem_cons_of_mem _ h)
  have hown : s.vm.findClass "DiscMaker$Reader" = some m.cls := findClass_of_methodNamed B.named
  have hlocks := B.notSynchronized
  subst hsz
  have hD := hD0.self (sz := s.heap.size)
  generalize hAe : va_A [(h0, .inr (7, [.ref im, .ref qp, .ref qr, .int 0, .int v, .int (-1)])), (im, .inr (1, [.ref q, .int 0]))] s.heap.size = A at hD ⊢
  have hA : ∀ q : Nat, s.heap.size ≤ q → A q := fun q h => by rw [← hAe]; exact Or.inr h
  have hS : va_S A s.heap s.heap [] := va_S.rf
  have hP : va_P D CL [(h0, .inr (7, [.ref im, .ref qp, .ref qr, .int 0, .int v, .int (-1)])), (im, .inr (1, [.ref q, .int 0]))] s.heap := hP
  have hl := lv_entry [.ref h0] (n := 3) (Nat.le_of_ble_eq_true rfl)
  rw [lg_entry_eq]
  generalize (lg_sl [.ref h0] ++ List.replicate (3 - (lg_sl [.ref h0]).length) Slot.unset).toArray = ls at hl ⊢
  have hl : lv_has ls 3 [(0, .ref h0)] := hl
  refine lv_iconst (v := (-1)) hx hb d_Reader_findDescriptor_0 (by decide) ?_
  refine lv_istore_n hx hb d_Reader_findDescriptor_1 rfl hl (by decide) rfl (fun ls hl => ?_)
  have hl : lv_has ls 3 [(1, .int (-1)), (0, .ref h0)] := hl
  refine lv_ldc (v := 32768) hx hb hown (ht9 _ k1173) d_Reader_findDescriptor_2 ?_
  refine lv_istore_n hx hb d_Reader_findDescriptor_4 rfl hl (by decide) rfl (fun ls hl => ?_)
  have hl : lv_has ls 3 [(2, .int 32768), (1, .int (-1)), (0, .ref h0)] := hl
  refine lv_iload_n hx hb d_Reader_findDescriptor_5 rfl (lv_at hl 0 rfl) ?_
  refine lv_aload_n hx hb d_Reader_findDescriptor_6 rfl (lv_at hl 2 rfl) ?_
  refine va_get (D := D) (ci := 7) (v := .ref im) (C := "DiscMaker$Reader") (T := F_Reader) (N := 6) hx hb ht9 in_Reader hown hK hP 0 rfl rfl 0 (by decide) (ht9 _ k412) (fun _ h9 => h9) rfl d_Reader_findDescriptor_7 ?_
  refine va_getN (D := D) (ci := 1) (v := .int 0) (C := "DiscMaker$Bytes") (T := F_Bytes) (N := 2) hx hb ht9 in_Bytes hown hK hP 1 rfl rfl 1 (by decide) (va_Nw.use rfl (hN _ k260)) (fun _ h9 => h9) rfl d_Reader_findDescriptor_10 ?_
  refine lv_icmp_ge (tgt := 86) hx hb d_Reader_findDescriptor_13 (by decide) (fun h_13 => ?_) (fun h_13 => absurd (by decide) h_13)
  refine lv_aload_n hx hb d_Reader_findDescriptor_86 rfl (lv_at hl 2 rfl) ?_
  refine lv_iload_n hx hb d_Reader_findDescriptor_87 rfl (lv_at hl 0 rfl) ?_
  refine va_put (D := D) (ci := 7) (v := .int 32768) (ty := .int) (C := "DiscMaker$Reader") (T := F_Reader) (N := 6) hx hb ht9 in_Reader t_Reader t_Reader_ok n_Reader hown hK hP hD hS 0 rfl rfl 5 (by decide) (ht9 _ k417) (fun _ h9 => h9) rfl (by decide +kernel) rfl rfl (Nat.le_of_ble_eq_true rfl) d_Reader_findDescriptor_88 (fun H locs hP hD hS => ?_)
  have hP : va_P D CL [(h0, .inr (7, [.ref im, .ref qp, .ref qr, .int 0, .int v, .int 32768])), (im, .inr (1, [.ref q, .int 0]))] H := hP
  have hD : va_D A [(h0, .inr (7, [.ref im, .ref qp, .ref qr, .int 0, .int v, .int 32768])), (im, .inr (1, [.ref q, .int 0]))] := hD
  refine lv_iconst (v := (-1)) hx hb d_Reader_findDescriptor_91 (by decide) ?_
  have hP9 := hP.sub (ws' := [(h0, .inr (7, [.ref im, .ref qp, .ref qr, .int 0, .int v, .int 32768])), (im, .inr (1, [.ref q, .int 0]))]) [0, 1] rfl
  have hD9 := hD.sub (ws' := [(h0, .inr (7, [.ref im, .ref qp, .ref qr, .int 0, .int v, .int 32768])), (im, .inr (1, [.ref q, .int 0]))]) [0, 1] (by decide) rfl
  exact W.iret (v := (-1)) hx hb hr (fun t ht hW => ⟨⟨(-1), (), rfl, rfl, by rw [ht]; exact hP9, hD9⟩, hS.F ht⟩) hS.2.2 d_Reader_findDescriptor_92

theorem d_Reader_open_0 : decode b_Reader_open 0 = .ok (.aload_n 0, 1) := by decide +kernel
theorem d_Reader_open_1 : decode b_Reader_open 1 = .ok (.iload_n 1, 1) := by decide +kernel
theorem d_Reader_open_2 : decode b_Reader_open 2 = .ok (.putfield 34, 3) := by decide +kernel
theorem d_Reader_open_5 : decode b_Reader_open 5 = .ok (.aload_n 0, 1) := by decide +kernel
theorem d_Reader_open_6 : decode b_Reader_open 6 = .ok (.iconst 0, 1) := by decide +kernel
theorem d_Reader_open_7 : decode b_Reader_open 7 = .ok (.putfield 30, 3) := by decide +kernel
theorem d_Reader_open_10 : decode b_Reader_open 10 = .ok (.aload_n 0, 1) := by decide +kernel
theorem d_Reader_open_11 : decode b_Reader_open 11 = .ok (.iconst (-1), 1) := by decide +kernel
theorem d_Reader_open_12 : decode b_Reader_open 12 = .ok (.putfield 37, 3) := by decide +kernel
theorem d_Reader_open_15 : decode b_Reader_open 15 = .ok (.aload_n 0, 1) := by decide +kernel
theorem d_Reader_open_16 : decode b_Reader_open 16 = .ok (.invokevirtual 40, 3) := by decide +kernel
theorem d_Reader_open_19 : decode b_Reader_open 19 = .ok (.istore_n 2, 1) := by decide +kernel
theorem d_Reader_open_20 : decode b_Reader_open 20 = .ok (.aload_n 0, 1) := by decide +kernel
theorem d_Reader_open_21 : decode b_Reader_open 21 = .ok (.getfield 37, 3) := by decide +kernel
theorem d_Reader_open_24 : decode b_Reader_open 24 = .ok (.iconst (-1), 1) := by decide +kernel
theorem d_Reader_open_25 : decode b_Reader_open 25 = .ok (.if_icmp .ne 12, 3) := by decide +kernel
theorem d_Reader_open_37 : decode b_Reader_open 37 = .ok (.iconst 0, 1) := by decide +kernel
theorem d_Reader_open_38 : decode b_Reader_open 38 = .ok (.istore_n 3, 1) := by decide +kernel
theorem d_Reader_open_39 : decode b_Reader_open 39 = .ok (.iload_n 3, 1) := by decide +kernel
theorem d_Reader_open_40 : decode b_Reader_open 40 = .ok (.aload_n 0, 1) := by decide +kernel
theorem d_Reader_open_41 : decode b_Reader_open 41 = .ok (.getfield 30, 3) := by decide +kernel
theorem d_Reader_open_44 : decode b_Reader_open 44 = .ok (.if_icmp .ge 38, 3) := by decide +kernel
theorem d_Reader_open_82 : decode b_Reader_open 82 = .ok (.aload_n 0, 1) := by decide +kernel
theorem d_Reader_open_83 : decode b_Reader_open 83 = .ok (.getfield 37, 3) := by decide +kernel
theorem d_Reader_open_86 : decode b_Reader_open 86 = .ok (.iconst (-1), 1) := by decide +kernel
theorem d_Reader_open_87 : decode b_Reader_open 87 = .ok (.if_icmp .eq 15, 3) := by decide +kernel
theorem d_Reader_open_90 : decode b_Reader_open 90 = .ok (.aload_n 0, 1) := by decide +kernel
theorem d_Reader_open_91 : decode b_Reader_open 91 = .ok (.iconst 0, 1) := by decide +kernel
theorem d_Reader_open_92 : decode b_Reader_open 92 = .ok (.putfield 30, 3) := by decide +kernel
theorem d_Reader_open_95 : decode b_Reader_open 95 = .ok (.iconst (-1), 1) := by decide +kernel
theorem d_Reader_open_96 : decode b_Reader_open 96 = .ok (.aload_n 0, 1) := by decide +kernel
theorem d_Reader_open_97 : decode b_Reader_open 97 = .ok (.getfield 37, 3) := by decide +kernel
theorem d_Reader_open_100 : decode b_Reader_open 100 = .ok (.isub, 1) := by decide +kernel
theorem d_Reader_open_101 : decode b_Reader_open 101 = .ok (.ireturn, 1) := by decide +kernel
set_option maxHeartbeats 4000000 in
set_option maxRecDepth 100000 in
theorem c_open (l : Launch) (D : va_G) (cB cI cJ cZ cN cF : ClassId) (sz : Nat) (h0 im qp qr q : Nat) (v : Int32) : Met l y_Reader_open w_Reader_open ({ frames := 1, cells := 0, slots := 0, locals := 22 }) (va_Pc [.ref h0, .int v] (fun U => U.heap.size = sz ∧ va_P D CL [(h0, .inr (7, [.ref im, .ref qp, .ref qr, .int 0, .int 0, .int 0])), (im, .inr (1, [.ref q, .int 0]))] U.heap ∧ va_K D CL (TY cB cI cJ cZ cN cF) U ∧ NN U ∧ va_D (fun _ => True) [(h0, .inr (7, [.ref im, .ref qp, .ref qr, .int 0, .int 0, .int 0])), (im, .inr (1, [.ref q, .int 0]))])) (va_Qi (fun (r : Int32) (u : Unit) => r = (-32769)) (fun (u : Unit) (t : State) => match u with | () => va_P D CL [] t.heap ∧ va_D (va_A [(h0, .inr (7, [.ref im, .ref qp, .ref qr, .int 0, .int 0, .int 0])), (im, .inr (1, [.ref q, .int 0]))] sz) []) (va_A [(h0, .inr (7, [.ref im, .ref qp, .ref qr, .int 0, .int 0, .int 0])), (im, .inr (1, [.ref q, .int 0]))] sz)) 0 0 (va_A [(h0, .inr (7, [.ref im, .ref qp, .ref qr, .int 0, .int 0, .int 0])), (im, .inr (1, [.ref q, .int 0]))] sz) := by
  refine Met.ofW (cc := b_Reader_open) (maxL := 4) (ret := some .int) (by decide) rfl ?_
  intro p e s m args below meth c s₁ B hml hv
  obtain ⟨rfl, hsz, hP, hK, hN, hD0⟩ := hv
  have hx := B.exec
  have hb := B.bytes
  have hr := B.returns
  have hts := atoms_spec (ws := w_Reader_open) B.pre
  have ht9 := fun (w : Cond) (h : w ∈ lw_g) => hts w (List.mem_cons_of_mem _ h)
  have hown : s.vm.findClass "DiscMaker$Reader" = some m.cls := findClass_of_methodNamed B.named
  have hlocks := B.notSynchronized
  subst hsz
  have hD := hD0.self (sz := s.heap.size)
  generalize hAe : va_A [(h0, .inr (7, [.ref im, .ref qp, .ref qr, .int 0, .int 0, .int 0])), (im, .inr (1, [.ref q, .int 0]))] s.heap.size = A at hD ⊢
  have hA : ∀ q : Nat, s.heap.size ≤ q → A q := fun q h => by rw [← hAe]; exact Or.inr h
  have hS : va_S A s.heap s.heap [] := va_S.rf
  have hP : va_P D CL [(h0, .inr (7, [.ref im, .ref qp, .ref qr, .int 0, .int 0, .int 0])), (im, .inr (1, [.ref q, .int 0]))] s.heap := hP
  have hl := lv_entry [.ref h0, .int v] (n := 4) (Nat.le_of_ble_eq_true rfl)
  rw [lg_entry_eq]
  generalize (lg_sl [.ref h0, .int v] ++ List.replicate (4 - (lg_sl [.ref h0, .int v]).length) Slot.unset).toArray = ls at hl ⊢
  have hl : lv_has ls 4 [(0, .ref h0), (1, .int v)] := hl
  refine lv_aload_n hx hb d_Reader_open_0 rfl (lv_at hl 0 rfl) ?_
  refine lv_iload_n hx hb d_Reader_open_1 rfl (lv_at hl 1 rfl) ?_
  refine va_put (D := D) (ci := 7) (v := .int v) (ty := .int) (C := "DiscMaker$Reader") (T := F_Reader) (N := 6) hx hb ht9 in_Reader t_Reader t_Reader_ok n_Reader hown hK hP hD hS 0 rfl rfl 4 (by decide) (ht9 _ k416) (fun _ h9 => h9) rfl (by decide +kernel) rfl rfl (Nat.le_of_ble_eq_true rfl) d_Reader_open_2 (fun H locs hP hD hS => ?_)
  have hP : va_P D CL [(h0, .inr (7, [.ref im, .ref qp, .ref qr, .int 0, .int v, .int 0])), (im, .inr (1, [.ref q, .int 0]))] H := hP
  have hD : va_D A [(h0, .inr (7, [.ref im, .ref qp, .ref qr, .int 0, .int v, .int 0])), (im, .inr (1, [.ref q, .int 0]))] := hD
  refine lv_aload_n hx hb d_Reader_open_5 rfl (lv_at hl 0 rfl) ?_
  refine lv_iconst (v := 0) hx hb d_Reader_open_6 (by decide) ?_
  refine va_put (D := D) (ci := 7) (v := .int 0) (ty := .int) (C := "DiscMaker$Reader") (T := F_Reader) (N := 6) hx hb ht9 in_Reader t_Reader t_Reader_ok n_Reader hown hK hP hD hS 0 rfl rfl 3 (by decide) (ht9 _ k415) (fun _ h9 => h9) rfl (by decide +kernel) rfl rfl (Nat.le_of_ble_eq_true rfl) d_Reader_open_7 (fun H locs hP hD hS => ?_)
  have hP : va_P D CL [(h0, .inr (7, [.ref im, .ref qp, .ref qr, .int 0, .int v, .int 0])), (im, .inr (1, [.ref q, .int 0]))] H := hP
  have hD : va_D A [(h0, .inr (7, [.ref im, .ref qp, .ref qr, .int 0, .int v, .int 0])), (im, .inr (1, [.ref q, .int 0]))] := hD
  refine lv_aload_n hx hb d_Reader_open_10 rfl (lv_at hl 0 rfl) ?_
  refine lv_iconst (v := (-1)) hx hb d_Reader_open_11 (by decide) ?_
  refine va_put (D := D) (ci := 7) (v := .int (-1)) (ty := .int) (C := "DiscMaker$Reader") (T := F_Reader) (N := 6) hx hb ht9 in_Reader t_Reader t_Reader_ok n_Reader hown hK hP hD hS 0 rfl rfl 5 (by decide) (ht9 _ k417) (fun _ h9 => h9) rfl (by decide +kernel) rfl rfl (Nat.le_of_ble_eq_true rfl) d_Reader_open_12 (fun H locs hP hD hS => ?_)
  have hP : va_P D CL [(h0, .inr (7, [.ref im, .ref qp, .ref qr, .int 0, .int v, .int (-1)])), (im, .inr (1, [.ref q, .int 0]))] H := hP
  have hD : va_D A [(h0, .inr (7, [.ref im, .ref qp, .ref qr, .int 0, .int v, .int (-1)])), (im, .inr (1, [.ref q, .int 0]))] := hD
  refine lv_aload_n hx hb d_Reader_open_15 rfl (lv_at hl 0 rfl) ?_
  have hPc := hP.sub (ws' := [(h0, .inr (7, [.ref im, .ref qp, .ref qr, .int 0, .int v, .int (-1)])), (im, .inr (1, [.ref q, .int 0]))]) [0, 1] rfl
  have hDc := hD.sub (ws' := [(h0, .inr (7, [.ref im, .ref qp, .ref qr, .int 0, .int v, .int (-1)])), (im, .inr (1, [.ref q, .int 0]))]) [0, 1] (by decide) rfl
  have hFc := va_free (wc := [(h0, .inr (7, [.ref im, .ref qp, .ref qr, .int 0, .int v, .int (-1)])), (im, .inr (1, [.ref q, .int 0]))]) hD hS hA [0, 1] rfl
  have hkc : 0 ≤ 0 := by decide
  have hks : 0 ≤ 0 := by decide
  refine va_calli (va_runV (C := "DiscMaker$Reader") (As := []) (rest := []) ⟨hx, hb, hml, hown, hts⟩ (c_findDescriptor l D cB cI cJ cZ cN cF H.size h0 im qp qr q v) (cwV 0 hts (lg_goodV k1169 k1171 k31 k123 kc_Reader_findDescriptor) rfl rfl rfl (by decide +kernel) ⟨Nat.le_of_ble_eq_true rfl, Nat.le_of_ble_eq_true rfl⟩) ⟨fun a U g mk q => by obtain ⟨q0, q1, qP, qK, qN, qD⟩ := q; exact ⟨q0, q1, qP, va_K.moved (u := U) (U := U.calling g mk a) (Vm.Alike.refl U.vm) qK, qN.calling, qD⟩, va_recv hK hP (ci := 7) (q0 := 0) rfl rfl, fun U hU hW => ⟨rfl, by rw [hU], by rw [hU]; exact hPc, va_K.moved hW.alike hK, NN.warm hW hN, hDc.weaken (fun _ _ _ _ => trivial)⟩⟩ rfl rfl hl.1 rfl (lv_room (Nat.le_of_ble_eq_true rfl)) d_Reader_open_16 ⟨hkc, hks⟩) hS (fun q _ h => hFc q h) hFc (fun r16 u t H1 locs ht hvm hp_16 hB hz1 hk1 hS => ?_)
  obtain ⟨hP1, hD1⟩ := hB
  rw [ht] at hP1
  try dsimp only at hp_16
  obtain ⟨hP, hD⟩ := va_join (wr := []) (w1 := [(h0, .inr (7, [.ref im, .ref qp, .ref qr, .int 0, .int v, .int 32768])), (im, .inr (1, [.ref q, .int 0]))]) hP hD [0, 1] [] rfl rfl (by decide) (by decide) hk1 hFc hP1 hD1
  clear hPc hDc hFc hP1 hD1 hk1 hz1
  generalize H1 = H at hP hS ⊢
  have hP : va_P D CL [(h0, .inr (7, [.ref im, .ref qp, .ref qr, .int 0, .int v, .int 32768])), (im, .inr (1, [.ref q, .int 0]))] H := hP
  have hD : va_D A [(h0, .inr (7, [.ref im, .ref qp, .ref qr, .int 0, .int v, .int 32768])), (im, .inr (1, [.ref q, .int 0]))] := hD
  refine W.eq (g2 := F0 m 19 ls [.int (-1)]) (by rw [show r16 = (-1) from hp_16]) ?_
  refine lv_istore_n hx hb d_Reader_open_19 rfl hl (by decide) rfl (fun ls hl => ?_)
  have hl : lv_has ls 4 [(2, .int (-1)), (0, .ref h0), (1, .int v)] := hl
  refine lv_aload_n hx hb d_Reader_open_20 rfl (lv_at hl 1 rfl) ?_
  refine va_get (D := D) (ci := 7) (v := .int 32768) (C := "DiscMaker$Reader") (T := F_Reader) (N := 6) hx hb ht9 in_Reader hown hK hP 0 rfl rfl 5 (by decide) (ht9 _ k417) (fun _ h9 => h9) rfl d_Reader_open_21 ?_
  refine lv_iconst (v := (-1)) hx hb d_Reader_open_24 (by decide) ?_
  refine lv_icmp_ne (tgt := 37) hx hb d_Reader_open_25 (by decide) (fun h_25 => ?_) (fun h_25 => absurd h_25 (by decide))
  refine lv_iconst (v := 0) hx hb d_Reader_open_37 (by decide) ?_
  refine lv_istore_n hx hb d_Reader_open_38 rfl hl (by decide) rfl (fun ls hl => ?_)
  have hl : lv_has ls 4 [(3, .int 0), (2, .int (-1)), (0, .ref h0), (1, .int v)] := hl
  refine lv_iload_n hx hb d_Reader_open_39 rfl (lv_at hl 0 rfl) ?_
  refine lv_aload_n hx hb d_Reader_open_40 rfl (lv_at hl 2 rfl) ?_
  refine va_get (D := D) (ci := 7) (v := .int 0) (C := "DiscMaker$Reader") (T := F_Reader) (N := 6) hx hb ht9 in_Reader hown hK hP 0 rfl rfl 3 (by decide) (ht9 _ k415) (fun _ h9 => h9) rfl d_Reader_open_41 ?_
  refine lv_icmp_ge (tgt := 82) hx hb d_Reader_open_44 (by decide) (fun h_44 => ?_) (fun h_44 => absurd (by decide) h_44)
  refine lv_aload_n hx hb d_Reader_open_82 rfl (lv_at hl 2 rfl) ?_
  refine va_get (D := D) (ci := 7) (v := .int 32768) (C := "DiscMaker$Reader") (T := F_Reader) (N := 6) hx hb ht9 in_Reader hown hK hP 0 rfl rfl 5 (by decide) (ht9 _ k417) (fun _ h9 => h9) rfl d_Reader_open_83 ?_
  refine lv_iconst (v := (-1)) hx hb d_Reader_open_86 (by decide) ?_
  refine lv_icmp_eq (tgt := 102) hx hb d_Reader_open_87 (by decide) (fun h_87 => absurd h_87 (by decide)) (fun h_87 => ?_)
  refine lv_aload_n hx hb d_Reader_open_90 rfl (lv_at hl 2 rfl) ?_
  refine lv_iconst (v := 0) hx hb d_Reader_open_91 (by decide) ?_
  refine va_put (D := D) (ci := 7) (v := .int 0) (ty := .int) (C := "DiscMaker$Reader") (T := F_Reader) (N := 6) hx hb ht9 in_Reader t_Reader t_Reader_ok n_Reader hown hK hP hD hS 0 rfl rfl 3 (by decide) (ht9 _ k415) (fun _ h9 => h9) rfl (by decide +kernel) rfl rfl (Nat.le_of_ble_eq_true rfl) d_Reader_open_92 (fun H locs hP hD hS => ?_)
  have hP : va_P D CL [(h0, .inr (7, [.ref im, .ref qp, .ref qr, .int 0, .int v, .int 32768])), (im, .inr (1, [.ref q, .int 0]))] H := hP
  have hD : va_D A [(h0, .inr (7, [.ref im, .ref qp, .ref qr, .int 0, .int v, .int 32768])), (im, .inr (1, [.ref q, .int 0]))] := hD
  refine lv_iconst (v := (-1)) hx hb d_Reader_open_95 (by decide) ?_
  refine lv_aload_n hx hb d_Reader_open_96 rfl (lv_at hl 2 rfl) ?_
  refine va_get (D := D) (ci := 7) (v := .int 32768) (C := "DiscMaker$Reader") (T := F_Reader) (N := 6) hx hb ht9 in_Reader hown hK hP 0 rfl rfl 5 (by decide) (ht9 _ k417) (fun _ h9 => h9) rfl d_Reader_open_97 ?_
  refine lv_isub hx hb d_Reader_open_100 ?_
  refine W.eq (g2 := F0 m 101 ls [.int (-32769)]) (by rw [show (((-1) - 32768) : Int32) = (-32769) from by decide]) ?_
  have hP9 := hP.sub (ws' := []) [] rfl
  have hD9 := hD.sub (ws' := []) [] (by decide) rfl
  exact W.iret (v := (-32769)) hx hb hr (fun t ht hW => ⟨⟨(-32769), (), rfl, rfl, by rw [ht]; exact hP9, hD9⟩, hS.F ht⟩) hS.2.2 d_Reader_open_101

theorem d_DiscMaker_init_0 : decode b_DiscMaker_init 0 = .ok (.aload_n 0, 1) := by decide +kernel
theorem d_DiscMaker_init_1 : decode b_DiscMaker_init 1 = .ok (.invokespecial 1, 3) := by decide +kernel
theorem d_DiscMaker_init_4 : decode b_DiscMaker_init 4 = .ok (.aload_n 0, 1) := by decide +kernel
theorem d_DiscMaker_init_5 : decode b_DiscMaker_init 5 = .ok (.new 7, 3) := by decide +kernel
theorem d_DiscMaker_init_8 : decode b_DiscMaker_init 8 = .ok (.dup, 1) := by decide +kernel
theorem d_DiscMaker_init_9 : decode b_DiscMaker_init 9 = .ok (.invokespecial 9, 3) := by decide +kernel
theorem d_DiscMaker_init_12 : decode b_DiscMaker_init 12 = .ok (.putfield 10, 3) := by decide +kernel
theorem d_DiscMaker_init_15 : decode b_DiscMaker_init 15 = .ok (.aload_n 0, 1) := by decide +kernel
theorem d_DiscMaker_init_16 : decode b_DiscMaker_init 16 = .ok (.new 16, 3) := by decide +kernel
theorem d_DiscMaker_init_19 : decode b_DiscMaker_init 19 = .ok (.dup, 1) := by decide +kernel
theorem d_DiscMaker_init_20 : decode b_DiscMaker_init 20 = .ok (.invokespecial 18, 3) := by decide +kernel
theorem d_DiscMaker_init_23 : decode b_DiscMaker_init 23 = .ok (.putfield 19, 3) := by decide +kernel
theorem d_DiscMaker_init_26 : decode b_DiscMaker_init 26 = .ok (.aload_n 0, 1) := by decide +kernel
theorem d_DiscMaker_init_27 : decode b_DiscMaker_init 27 = .ok (.new 23, 3) := by decide +kernel
theorem d_DiscMaker_init_30 : decode b_DiscMaker_init 30 = .ok (.dup, 1) := by decide +kernel
theorem d_DiscMaker_init_31 : decode b_DiscMaker_init 31 = .ok (.iconst 0, 1) := by decide +kernel
theorem d_DiscMaker_init_32 : decode b_DiscMaker_init 32 = .ok (.invokespecial 25, 3) := by decide +kernel
theorem d_DiscMaker_init_35 : decode b_DiscMaker_init 35 = .ok (.putfield 28, 3) := by decide +kernel
theorem d_DiscMaker_init_38 : decode b_DiscMaker_init 38 = .ok (.aload_n 0, 1) := by decide +kernel
theorem d_DiscMaker_init_39 : decode b_DiscMaker_init 39 = .ok (.new 32, 3) := by decide +kernel
theorem d_DiscMaker_init_42 : decode b_DiscMaker_init 42 = .ok (.dup, 1) := by decide +kernel
theorem d_DiscMaker_init_43 : decode b_DiscMaker_init 43 = .ok (.aload_n 0, 1) := by decide +kernel
theorem d_DiscMaker_init_44 : decode b_DiscMaker_init 44 = .ok (.getfield 19, 3) := by decide +kernel
theorem d_DiscMaker_init_47 : decode b_DiscMaker_init 47 = .ok (.aload_n 0, 1) := by decide +kernel
theorem d_DiscMaker_init_48 : decode b_DiscMaker_init 48 = .ok (.getfield 28, 3) := by decide +kernel
theorem d_DiscMaker_init_51 : decode b_DiscMaker_init 51 = .ok (.invokespecial 34, 3) := by decide +kernel
theorem d_DiscMaker_init_54 : decode b_DiscMaker_init 54 = .ok (.putfield 37, 3) := by decide +kernel
theorem d_DiscMaker_init_57 : decode b_DiscMaker_init 57 = .ok (.aload_n 0, 1) := by decide +kernel
theorem d_DiscMaker_init_58 : decode b_DiscMaker_init 58 = .ok (.new 41, 3) := by decide +kernel
theorem d_DiscMaker_init_61 : decode b_DiscMaker_init 61 = .ok (.dup, 1) := by decide +kernel
theorem d_DiscMaker_init_62 : decode b_DiscMaker_init 62 = .ok (.aload_n 0, 1) := by decide +kernel
theorem d_DiscMaker_init_63 : decode b_DiscMaker_init 63 = .ok (.getfield 28, 3) := by decide +kernel
theorem d_DiscMaker_init_66 : decode b_DiscMaker_init 66 = .ok (.invokespecial 43, 3) := by decide +kernel
theorem d_DiscMaker_init_69 : decode b_DiscMaker_init 69 = .ok (.putfield 46, 3) := by decide +kernel
theorem d_DiscMaker_init_72 : decode b_DiscMaker_init 72 = .ok (.return_, 1) := by decide +kernel
set_option maxHeartbeats 4000000 in
set_option maxRecDepth 100000 in
theorem c_DiscMaker_init (l : Launch) (D : va_G) (cB cI cJ cZ cN cF : ClassId) (sz : Nat) (h0 : Nat) : Met l y_DiscMaker_init w_DiscMaker_init ({ frames := 4, cells := 33, slots := 1467, locals := 87 }) (va_Pc [.ref h0] (fun U => U.heap.size = sz ∧ va_P D CL [(h0, .inr (0, [.null, .null, .null, .null, .null]))] U.heap ∧ va_K D CL (TY cB cI cJ cZ cN cF) U ∧ NN U ∧ va_D (fun _ => True) [(h0, .inr (0, [.null, .null, .null, .null, .null]))])) (va_Qv (fun (u : Nat × Nat × Nat × Nat × Nat × Nat × Nat × Nat × Nat × Nat × Nat × Nat × Nat × Nat × Nat × Nat × Nat × Nat × Nat × Nat × Nat × Nat × Nat × Nat × Nat × Nat × Nat × Nat × Nat × Nat × Nat × Nat × Nat) => True) (fun (u : Nat × Nat × Nat × Nat × Nat × Nat × Nat × Nat × Nat × Nat × Nat × Nat × Nat × Nat × Nat × Nat × Nat × Nat × Nat × Nat × Nat × Nat × Nat × Nat × Nat × Nat × Nat × Nat × Nat × Nat × Nat × Nat × Nat) (t : State) => match u with | (tx, tq, tr, qa, qn, qm, qt, qk, im, iq, mkr, x, xo, xp, xt, xb, xe, y, yo, yp, yt, yb, ye, z, zb, zr, ze, i, ir, ct, rd, rr, rp) => va_P D CL [(h0, .inr (0, [.ref tx, .ref tr, .ref im, .ref mkr, .ref rd])), (tx, .inr (9, [.ref tq, .int 0])), (tq, .inl (cB, 400, .inl (fun _ => 0))), (tr, .inr (10, [.ref qa, .int 1, .int 1])), (qa, .inl (cN, 40, .inr (.inr (.inr (.inr (va_up (fun _ => none) 0 (some qn))))))), (qn, .inr (5, [.int 0, .ref qm, .ref qk, .ref qt, .int 0, .int 0, .int 0, .int 16877, .int 0, .int 0, .int 0, .int 0])), (qm, .inl (cB, 0, .inl (fun _ => 0))), (qt, .inl (cB, 0, .inl (fun _ => 0))), (qk, .inl (cB, 11, .inl (fun _ => 0))), (im, .inr (1, [.ref iq, .int 0])), (iq, .inl (cB, 0, .inl (fun _ => 0))), (mkr, .inr (4, [.ref tr, .ref im, .ref x, .ref y, .ref z, .ref i, .ref ct, .int 0, .int 0, .int 0])), (x, .inr (3, [.int 0, .int 16, .int 19, .ref xo, .ref xp, .ref xt, .ref xb, .ref xe, .int 0, .int 0])), (xo, .inl (cI, 40, .inl (fun _ => 0))), (xp, .inl (cI, 12, .inl (fun _ => 0))), (xt, .inl (cI, 40, .inl (fun _ => 0))), (xb, .inl (cI, 40, .inl (fun _ => 0))), (xe, .inl (cI, 40, .inl (fun _ => 0))), (y, .inr (3, [.int 1, .int 17, .int 21, .ref yo, .ref yp, .ref yt, .ref yb, .ref ye, .int 0, .int 0])), (yo, .inl (cI, 40, .inl (fun _ => 0))), (yp, .inl (cI, 12, .inl (fun _ => 0))), (yt, .inl (cI, 40, .inl (fun _ => 0))), (yb, .inl (cI, 40, .inl (fun _ => 0))), (ye, .inl (cI, 40, .inl (fun _ => 0))), (z, .inr (8, [.ref zb, .ref ze, .int 0, .int 0])), (zb, .inr (1, [.ref zr, .int 0])), (zr, .inl (cB, 400, .inl (fun _ => 0))), (ze, .inl (cI, 4, .inl (fun _ => 0))), (i, .inr (1, [.ref ir, .int 0])), (ir, .inl (cB, 60, .inl (fun _ => 0))), (ct, .inl (cI, 40, .inl (fun _ => 0))), (rd, .inr (7, [.ref im, .ref rp, .ref rr, .int 0, .int 0, .int 0])), (rp, .inr (6, [.ref im, .null, .int 0, .int 0, .int 0, .int 0])), (rr, .inl (cF, 99, .inr (.inr (.inr (.inr (fun _ => none))))))] t.heap ∧ va_D (va_A [(h0, .inr (0, [.null, .null, .null, .null, .null]))] sz) [(h0, .inr (0, [.ref tx, .ref tr, .ref im, .ref mkr, .ref rd])), (tx, .inr (9, [.ref tq, .int 0])), (tq, .inl (cB, 400, .inl (fun _ => 0))), (tr, .inr (10, [.ref qa, .int 1, .int 1])), (qa, .inl (cN, 40, .inr (.inr (.inr (.inr (va_up (fun _ => none) 0 (some qn))))))), (qn, .inr (5, [.int 0, .ref qm, .ref qk, .ref qt, .int 0, .int 0, .int 0, .int 16877, .int 0, .int 0, .int 0, .int 0])), (qm, .inl (cB, 0, .inl (fun _ => 0))), (qt, .inl (cB, 0, .inl (fun _ => 0))), (qk, .inl (cB, 11, .inl (fun _ => 0))), (im, .inr (1, [.ref iq, .int 0])), (iq, .inl (cB, 0, .inl (fun _ => 0))), (mkr, .inr (4, [.ref tr, .ref im, .ref x, .ref y, .ref z, .ref i, .ref ct, .int 0, .int 0, .int 0])), (x, .inr (3, [.int 0, .int 16, .int 19, .ref xo, .ref xp, .ref xt, .ref xb, .ref xe, .int 0, .int 0])), (xo, .inl (cI, 40, .inl (fun _ => 0))), (xp, .inl (cI, 12, .inl (fun _ => 0))), (xt, .inl (cI, 40, .inl (fun _ => 0))), (xb, .inl (cI, 40, .inl (fun _ => 0))), (xe, .inl (cI, 40, .inl (fun _ => 0))), (y, .inr (3, [.int 1, .int 17, .int 21, .ref yo, .ref yp, .ref yt, .ref yb, .ref ye, .int 0, .int 0])), (yo, .inl (cI, 40, .inl (fun _ => 0))), (yp, .inl (cI, 12, .inl (fun _ => 0))), (yt, .inl (cI, 40, .inl (fun _ => 0))), (yb, .inl (cI, 40, .inl (fun _ => 0))), (ye, .inl (cI, 40, .inl (fun _ => 0))), (z, .inr (8, [.ref zb, .ref ze, .int 0, .int 0])), (zb, .inr (1, [.ref zr, .int 0])), (zr, .inl (cB, 400, .inl (fun _ => 0))), (ze, .inl (cI, 4, .inl (fun _ => 0))), (i, .inr (1, [.ref ir, .int 0])), (ir, .inl (cB, 60, .inl (fun _ => 0))), (ct, .inl (cI, 40, .inl (fun _ => 0))), (rd, .inr (7, [.ref im, .ref rp, .ref rr, .int 0, .int 0, .int 0])), (rp, .inr (6, [.ref im, .null, .int 0, .int 0, .int 0, .int 0])), (rr, .inl (cF, 99, .inr (.inr (.inr (.inr (fun _ => none))))))]) (va_A [(h0, .inr (0, [.null, .null, .null, .null, .null]))] sz)) 33 1467 (va_A [(h0, .inr (0, [.null, .null, .null, .null, .null]))] sz) := by
  refine Met.ofW (cc := b_DiscMaker_init) (maxL := 1) (ret := none) (by decide) rfl ?_
  intro p e s m args below meth c s₁ B hml hv
  obtain ⟨rfl, hsz, hP, hK, hN, hD0⟩ := hv
  have hx := B.exec
  have hb := B.bytes
  have hr := B.returns
  have hts := atoms_spec (ws := w_DiscMaker_init) B.pre
  have ht9 := fun (w : Cond) (h : w ∈ lw_g) => hts w (List.mem_cons_of_mem _ h)
  have hown : s.vm.findClass "DiscMaker" = some m.cls := findClass_of_methodNamed B.named
  have hlocks := B.notSynchronized
  have hin : meth.name = "<init>" := (name_of_methodNamed B.named B.method).1
  subst hsz
  have hD := hD0.self (sz := s.heap.size)
  generalize hAe : va_A [(h0, .inr (0, [.null, .null, .null, .null, .null]))] s.heap.size = A at hD ⊢
  have hA : ∀ q : Nat, s.heap.size ≤ q → A q := fun q h => by rw [← hAe]; exact Or.inr h
  have hS : va_S A s.heap s.heap [] := va_S.rf
  have hP : va_P D CL [(h0, .inr (0, [.null, .null, .null, .null, .null]))] s.heap := hP
  have hl := lv_entry [.ref h0] (n := 1) (Nat.le_of_ble_eq_true rfl)
  rw [lg_entry_eq]
  generalize (lg_sl [.ref h0] ++ List.replicate (1 - (lg_sl [.ref h0]).length) Slot.unset).toArray = ls at hl ⊢
  have hl : lv_has ls 1 [(0, .ref h0)] := hl
  refine lv_aload_n hx hb d_DiscMaker_init_0 rfl (lv_at hl 0 rfl) ?_
  refine W.objInit hx hb hown (ht9 _ k148) (ht9 _ k149) (ht9 _ kObj) rfl (by rw [hml]; exact hl.1) rfl d_DiscMaker_init_1 (Nat.le_of_ble_eq_true rfl) (Nat.le_of_ble_eq_true rfl) ?_
  refine W.eq (g2 := F0 m 4 ls []) rfl ?_
  refine lv_aload_n hx hb d_DiscMaker_init_4 rfl (lv_at hl 0 rfl) ?_
  have hc_5 : 1 ≤ 33 := by decide
  have hs_5 : 2 ≤ 1467 := by decide
  refine va_new (ci := 9) (fs := [.null, .int 0]) (C := "DiscMaker$Text") (T := F_Text) (N := 2) hx hb ht9 in_Text t_Text t_Text_ok hown (ht9 _ k151) (ht9 _ k152) (ht9 _ k116) hK hP hD hS hA rfl (by decide) hc_5 hs_5 d_DiscMaker_init_5 (fun tx H hP hD hS => ?_)
  have hP : va_P D CL [(h0, .inr (0, [.null, .null, .null, .null, .null])), (tx, .inr (9, [.null, .int 0]))] H := hP
  have hD : va_D A [(h0, .inr (0, [.null, .null, .null, .null, .null])), (tx, .inr (9, [.null, .int 0]))] := hD
  refine W.widen (k := 1) (n := 2) (by decide) (by decide) ?_
  refine lv_dup hx hb d_DiscMaker_init_8 rfl ?_
  have hPc := hP.sub (ws' := [(tx, .inr (9, [.null, .int 0]))]) [1] rfl
  have hDc := hD.sub (ws' := [(tx, .inr (9, [.null, .int 0]))]) [1] (by decide) rfl
  have hFc := va_free (wc := [(tx, .inr (9, [.null, .int 0]))]) hD hS hA [1] rfl
  have hkc : 2 ≤ 33 := by decide
  have hks : 402 ≤ 1467 := by decide
  refine va_callv (va_runIN (As := []) (rest := [.ref tx, .ref h0]) ⟨hx, hb, hml, hown, hts⟩ (c_Text_init l D cB cI cJ cZ cN cF H.size tx) ⟨va_cnB 0 hts (lg_good kc_Text_init) rfl rfl rfl (hN _ k153) (ht9 _ k116) (by decide +kernel) ⟨Nat.le_of_ble_eq_true rfl, Nat.le_of_ble_eq_true rfl⟩, rfl, ht9 _ k154⟩ ⟨fun a U g mk q => by obtain ⟨q0, q1, qP, qK, qN, qD⟩ := q; exact ⟨q0, q1, qP, va_K.moved (u := U) (U := U.calling g mk a) (Vm.Alike.refl U.vm) qK, qN.calling, qD⟩, fun U hU hW => ⟨rfl, by rw [hU], by rw [hU]; exact hPc, va_K.moved hW.alike hK, NN.warm hW hN, hDc.weaken (fun _ _ _ _ => trivial)⟩⟩ rfl rfl hl.1 rfl (lv_room (Nat.le_of_ble_eq_true rfl)) d_DiscMaker_init_9 ⟨hkc, hks⟩) hS (fun q _ h => hFc q h) hFc (fun u t H1 locs ht hvm hp_9 hB hz1 hk1 hS => ?_)
  obtain ⟨tq, rfl⟩ : ∃ z, z = u := ⟨_, rfl⟩
  obtain ⟨hP1, hD1⟩ := hB
  rw [ht] at hP1
  obtain ⟨hP, hD⟩ := va_join (wr := [(h0, .inr (0, [.null, .null, .null, .null, .null]))]) (w1 := [(tx, .inr (9, [.ref tq, .int 0])), (tq, .inl (cB, 400, .inl (fun _ => 0)))]) hP hD [1] [0] rfl rfl (by decide) (by decide) hk1 hFc hP1 hD1
  clear hPc hDc hFc hP1 hD1 hk1 hz1
  generalize H1 = H at hP hS ⊢
  have hP : va_P D CL [(h0, .inr (0, [.null, .null, .null, .null, .null])), (tx, .inr (9, [.ref tq, .int 0])), (tq, .inl (cB, 400, .inl (fun _ => 0)))] H := hP
  have hD : va_D A [(h0, .inr (0, [.null, .null, .null, .null, .null])), (tx, .inr (9, [.ref tq, .int 0])), (tq, .inl (cB, 400, .inl (fun _ => 0)))] := hD
  refine W.widen (k := 2) (n := 402) (by decide) (by decide) ?_
  refine va_putF (D := D) (ci := 0) (v := .ref tx) (ty := .object "DiscMaker$Text") (C := "DiscMaker") (T := F_DiscMaker) (N := 5) hx hb ht9 in_DiscMaker t_DiscMaker t_DiscMaker_ok n_DiscMaker hown hK hP hD hS 0 rfl rfl 0 (by decide) (ht9 _ k431) (fun _ h9 => h9) rfl hin rfl (by decide +kernel) rfl rfl (Nat.le_of_ble_eq_true rfl) d_DiscMaker_init_12 (fun H locs hP hD hS => ?_)
  have hP : va_P D CL [(h0, .inr (0, [.ref tx, .null, .null, .null, .null])), (tx, .inr (9, [.ref tq, .int 0])), (tq, .inl (cB, 400, .inl (fun _ => 0)))] H := hP
  have hD : va_D A [(h0, .inr (0, [.ref tx, .null, .null, .null, .null])), (tx, .inr (9, [.ref tq, .int 0])), (tq, .inl (cB, 400, .inl (fun _ => 0)))] := hD
  refine lv_aload_n hx hb d_DiscMaker_init_15 rfl (lv_at hl 0 rfl) ?_
  have hc_16 : 3 ≤ 33 := by decide
  have hs_16 : 405 ≤ 1467 := by decide
  refine va_new (ci := 10) (fs := [.null, .int 0, .int 0]) (C := "DiscMaker$Tree") (T := F_Tree) (N := 3) hx hb ht9 in_Tree t_Tree t_Tree_ok hown (ht9 _ k165) (ht9 _ k166) (ht9 _ k117) hK hP hD hS hA rfl (by decide) hc_16 hs_16 d_DiscMaker_init_16 (fun tr H hP hD hS => ?_)
  have hP : va_P D CL [(h0, .inr (0, [.ref tx, .null, .null, .null, .null])), (tx, .inr (9, [.ref tq, .int 0])), (tq, .inl (cB, 400, .inl (fun _ => 0))), (tr, .inr (10, [.null, .int 0, .int 0]))] H := hP
  have hD : va_D A [(h0, .inr (0, [.ref tx, .null, .null, .null, .null])), (tx, .inr (9, [.ref tq, .int 0])), (tq, .inl (cB, 400, .inl (fun _ => 0))), (tr, .inr (10, [.null, .int 0, .int 0]))] := hD
  refine W.widen (k := 3) (n := 405) (by decide) (by decide) ?_
  refine lv_dup hx hb d_DiscMaker_init_19 rfl ?_
  have hPc := hP.sub (ws' := [(tr, .inr (10, [.null, .int 0, .int 0]))]) [3] rfl
  have hDc := hD.sub (ws' := [(tr, .inr (10, [.null, .int 0, .int 0]))]) [3] (by decide) rfl
  have hFc := va_free (wc := [(tr, .inr (10, [.null, .int 0, .int 0]))]) hD hS hA [3] rfl
  have hkc : 8 ≤ 33 := by decide
  have hks : 468 ≤ 1467 := by decide
  refine va_callv (va_runI (As := []) (rest := [.ref tr, .ref h0]) ⟨hx, hb, hml, hown, hts⟩ (c_Tree_init l D cB cI cJ cZ cN cF H.size tr) (cwI 0 hts (lg_good kc_Tree_init) rfl rfl rfl (ht9 _ k117) (ht9 _ k167) (ht9 _ k168) rfl (by decide +kernel) ⟨Nat.le_of_ble_eq_true rfl, Nat.le_of_ble_eq_true rfl⟩) ⟨fun a U g mk q => by obtain ⟨q0, q1, qP, qK, qN, qD⟩ := q; exact ⟨q0, q1, qP, va_K.moved (u := U) (U := U.calling g mk a) (Vm.Alike.refl U.vm) qK, qN.calling, qD⟩, fun U hU hW => ⟨rfl, by rw [hU], by rw [hU]; exact hPc, va_K.moved hW.alike hK, NN.warm hW hN, hDc.weaken (fun _ _ _ _ => trivial)⟩⟩ rfl rfl hl.1 rfl (lv_room (Nat.le_of_ble_eq_true rfl)) d_DiscMaker_init_20 ⟨hkc, hks⟩) hS (fun q _ h => hFc q h) hFc (fun u t H1 locs ht hvm hp_20 hB hz1 hk1 hS => ?_)
  obtain ⟨qa, qn, qm, qt, qk⟩ := u
  obtain ⟨hP1, hD1⟩ := hB
  rw [ht] at hP1
  obtain ⟨hP, hD⟩ := va_join (wr := [(h0, .inr (0, [.ref tx, .null, .null, .null, .null])), (tx, .inr (9, [.ref tq, .int 0])), (tq, .inl (cB, 400, .inl (fun _ => 0)))]) (w1 := [(tr, .inr (10, [.ref qa, .int 1, .int 1])), (qa, .inl (cN, 40, .inr (.inr (.inr (.inr (va_up (fun _ => none) 0 (some qn))))))), (qn, .inr (5, [.int 0, .ref qm, .ref qk, .ref qt, .int 0, .int 0, .int 0, .int 16877, .int 0, .int 0, .int 0, .int 0])), (qm, .inl (cB, 0, .inl (fun _ => 0))), (qt, .inl (cB, 0, .inl (fun _ => 0))), (qk, .inl (cB, 11, .inl (fun _ => 0)))]) hP hD [3] [0, 1, 2] rfl rfl (by decide) (by decide) hk1 hFc hP1 hD1
  clear hPc hDc hFc hP1 hD1 hk1 hz1
  generalize H1 = H at hP hS ⊢
  have hP : va_P D CL [(h0, .inr (0, [.ref tx, .null, .null, .null, .null])), (tx, .inr (9, [.ref tq, .int 0])), (tq, .inl (cB, 400, .inl (fun _ => 0))), (tr, .inr (10, [.ref qa, .int 1, .int 1])), (qa, .inl (cN, 40, .inr (.inr (.inr (.inr (va_up (fun _ => none) 0 (some qn))))))), (qn, .inr (5, [.int 0, .ref qm, .ref qk, .ref qt, .int 0, .int 0, .int 0, .int 16877, .int 0, .int 0, .int 0, .int 0])), (qm, .inl (cB, 0, .inl (fun _ => 0))), (qt, .inl (cB, 0, .inl (fun _ => 0))), (qk, .inl (cB, 11, .inl (fun _ => 0)))] H := hP
  have hD : va_D A [(h0, .inr (0, [.ref tx, .null, .null, .null, .null])), (tx, .inr (9, [.ref tq, .int 0])), (tq, .inl (cB, 400, .inl (fun _ => 0))), (tr, .inr (10, [.ref qa, .int 1, .int 1])), (qa, .inl (cN, 40, .inr (.inr (.inr (.inr (va_up (fun _ => none) 0 (some qn))))))), (qn, .inr (5, [.int 0, .ref qm, .ref qk, .ref qt, .int 0, .int 0, .int 0, .int 16877, .int 0, .int 0, .int 0, .int 0])), (qm, .inl (cB, 0, .inl (fun _ => 0))), (qt, .inl (cB, 0, .inl (fun _ => 0))), (qk, .inl (cB, 11, .inl (fun _ => 0)))] := hD
  refine W.widen (k := 8) (n := 468) (by decide) (by decide) ?_
  refine va_putF (D := D) (ci := 0) (v := .ref tr) (ty := .object "DiscMaker$Tree") (C := "DiscMaker") (T := F_DiscMaker) (N := 5) hx hb ht9 in_DiscMaker t_DiscMaker t_DiscMaker_ok n_DiscMaker hown hK hP hD hS 0 rfl rfl 1 (by decide) (ht9 _ k432) (fun _ h9 => h9) rfl hin rfl (by decide +kernel) rfl rfl (Nat.le_of_ble_eq_true rfl) d_DiscMaker_init_23 (fun H locs hP hD hS => ?_)
  have hP : va_P D CL [(h0, .inr (0, [.ref tx, .ref tr, .null, .null, .null])), (tx, .inr (9, [.ref tq, .int 0])), (tq, .inl (cB, 400, .inl (fun _ => 0))), (tr, .inr (10, [.ref qa, .int 1, .int 1])), (qa, .inl (cN, 40, .inr (.inr (.inr (.inr (va_up (fun _ => none) 0 (some qn))))))), (qn, .inr (5, [.int 0, .ref qm, .ref qk, .ref qt, .int 0, .int 0, .int 0, .int 16877, .int 0, .int 0, .int 0, .int 0])), (qm, .inl (cB, 0, .inl (fun _ => 0))), (qt, .inl (cB, 0, .inl (fun _ => 0))), (qk, .inl (cB, 11, .inl (fun _ => 0)))] H := hP
  have hD : va_D A [(h0, .inr (0, [.ref tx, .ref tr, .null, .null, .null])), (tx, .inr (9, [.ref tq, .int 0])), (tq, .inl (cB, 400, .inl (fun _ => 0))), (tr, .inr (10, [.ref qa, .int 1, .int 1])), (qa, .inl (cN, 40, .inr (.inr (.inr (.inr (va_up (fun _ => none) 0 (some qn))))))), (qn, .inr (5, [.int 0, .ref qm, .ref qk, .ref qt, .int 0, .int 0, .int 0, .int 16877, .int 0, .int 0, .int 0, .int 0])), (qm, .inl (cB, 0, .inl (fun _ => 0))), (qt, .inl (cB, 0, .inl (fun _ => 0))), (qk, .inl (cB, 11, .inl (fun _ => 0)))] := hD
  refine lv_aload_n hx hb d_DiscMaker_init_26 rfl (lv_at hl 0 rfl) ?_
  have hc_27 : 9 ≤ 33 := by decide
  have hs_27 : 470 ≤ 1467 := by decide
  refine va_new (ci := 1) (fs := [.null, .int 0]) (C := "DiscMaker$Bytes") (T := F_Bytes) (N := 2) hx hb ht9 in_Bytes t_Bytes t_Bytes_ok hown (ht9 _ k250) (ht9 _ k251) (ht9 _ k119) hK hP hD hS hA rfl (by decide) hc_27 hs_27 d_DiscMaker_init_27 (fun im H hP hD hS => ?_)
  have hP : va_P D CL [(h0, .inr (0, [.ref tx, .ref tr, .null, .null, .null])), (tx, .inr (9, [.ref tq, .int 0])), (tq, .inl (cB, 400, .inl (fun _ => 0))), (tr, .inr (10, [.ref qa, .int 1, .int 1])), (qa, .inl (cN, 40, .inr (.inr (.inr (.inr (va_up (fun _ => none) 0 (some qn))))))), (qn, .inr (5, [.int 0, .ref qm, .ref qk, .ref qt, .int 0, .int 0, .int 0, .int 16877, .int 0, .int 0, .int 0, .int 0])), (qm, .inl (cB, 0, .inl (fun _ => 0))), (qt, .inl (cB, 0, .inl (fun _ => 0))), (qk, .inl (cB, 11, .inl (fun _ => 0))), (im, .inr (1, [.null, .int 0]))] H := hP
  have hD : va_D A [(h0, .inr (0, [.ref tx, .ref tr, .null, .null, .null])), (tx, .inr (9, [.ref tq, .int 0])), (tq, .inl (cB, 400, .inl (fun _ => 0))), (tr, .inr (10, [.ref qa, .int 1, .int 1])), (qa, .inl (cN, 40, .inr (.inr (.inr (.inr (va_up (fun _ => none) 0 (some qn))))))), (qn, .inr (5, [.int 0, .ref qm, .ref qk, .ref qt, .int 0, .int 0, .int 0, .int 16877, .int 0, .int 0, .int 0, .int 0])), (qm, .inl (cB, 0, .inl (fun _ => 0))), (qt, .inl (cB, 0, .inl (fun _ => 0))), (qk, .inl (cB, 11, .inl (fun _ => 0))), (im, .inr (1, [.null, .int 0]))] := hD
  refine W.widen (k := 9) (n := 470) (by decide) (by decide) ?_
  refine lv_dup hx hb d_DiscMaker_init_30 rfl ?_
  refine lv_iconst (v := 0) hx hb d_DiscMaker_init_31 (by decide) ?_
  have hPc := hP.sub (ws' := [(im, .inr (1, [.null, .int 0]))]) [9] rfl
  have hDc := hD.sub (ws' := [(im, .inr (1, [.null, .int 0]))]) [9] (by decide) rfl
  have hFc := va_free (wc := [(im, .inr (1, [.null, .int 0]))]) hD hS hA [9] rfl
  have hkc : 10 ≤ 33 := by decide
  have hks : 470 ≤ 1467 := by decide
  refine va_callv (va_runI (As := [.int 0]) (rest := [.ref im, .ref h0]) ⟨hx, hb, hml, hown, hts⟩ (c_Bytes_init_0 l D cB cI cJ cZ cN cF H.size im) (cwI 1 hts (lg_good kc_Bytes_init) rfl rfl rfl (ht9 _ k119) (ht9 _ k252) (ht9 _ k253) rfl (by decide +kernel) ⟨Nat.le_of_ble_eq_true rfl, Nat.le_of_ble_eq_true rfl⟩) ⟨fun a U g mk q => by obtain ⟨q0, q1, qP, qK, qN, qD⟩ := q; exact ⟨q0, q1, qP, va_K.moved (u := U) (U := U.calling g mk a) (Vm.Alike.refl U.vm) qK, qN.calling, qD⟩, fun U hU hW => ⟨rfl, by rw [hU], by rw [hU]; exact hPc, va_K.moved hW.alike hK, NN.warm hW hN, hDc.weaken (fun _ _ _ _ => trivial)⟩⟩ rfl rfl hl.1 rfl (lv_room (Nat.le_of_ble_eq_true rfl)) d_DiscMaker_init_32 ⟨hkc, hks⟩) hS (fun q _ h => hFc q h) hFc (fun u t H1 locs ht hvm hp_32 hB hz1 hk1 hS => ?_)
  obtain ⟨iq, rfl⟩ : ∃ z, z = u := ⟨_, rfl⟩
  obtain ⟨hP1, hD1⟩ := hB
  rw [ht] at hP1
  obtain ⟨hP, hD⟩ := va_join (wr := [(h0, .inr (0, [.ref tx, .ref tr, .null, .null, .null])), (tx, .inr (9, [.ref tq, .int 0])), (tq, .inl (cB, 400, .inl (fun _ => 0))), (tr, .inr (10, [.ref qa, .int 1, .int 1])), (qa, .inl (cN, 40, .inr (.inr (.inr (.inr (va_up (fun _ => none) 0 (some qn))))))), (qn, .inr (5, [.int 0, .ref qm, .ref qk, .ref qt, .int 0, .int 0, .int 0, .int 16877, .int 0, .int 0, .int 0, .int 0])), (qm, .inl (cB, 0, .inl (fun _ => 0))), (qt, .inl (cB, 0, .inl (fun _ => 0))), (qk, .inl (cB, 11, .inl (fun _ => 0)))]) (w1 := [(im, .inr (1, [.ref iq, .int 0])), (iq, .inl (cB, 0, .inl (fun _ => 0)))]) hP hD [9] [0, 1, 2, 3, 4, 5, 6, 7, 8] rfl rfl (by decide) (by decide) hk1 hFc hP1 hD1
  clear hPc hDc hFc hP1 hD1 hk1 hz1
  generalize H1 = H at hP hS ⊢
  have hP : va_P D CL [(h0, .inr (0, [.ref tx, .ref tr, .null, .null, .null])), (tx, .inr (9, [.ref tq, .int 0])), (tq, .inl (cB, 400, .inl (fun _ => 0))), (tr, .inr (10, [.ref qa, .int 1, .int 1])), (qa, .inl (cN, 40, .inr (.inr (.inr (.inr (va_up (fun _ => none) 0 (some qn))))))), (qn, .inr (5, [.int 0, .ref qm, .ref qk, .ref qt, .int 0, .int 0, .int 0, .int 16877, .int 0, .int 0, .int 0, .int 0])), (qm, .inl (cB, 0, .inl (fun _ => 0))), (qt, .inl (cB, 0, .inl (fun _ => 0))), (qk, .inl (cB, 11, .inl (fun _ => 0))), (im, .inr (1, [.ref iq, .int 0])), (iq, .inl (cB, 0, .inl (fun _ => 0)))] H := hP
  have hD : va_D A [(h0, .inr (0, [.ref tx, .ref tr, .null, .null, .null])), (tx, .inr (9, [.ref tq, .int 0])), (tq, .inl (cB, 400, .inl (fun _ => 0))), (tr, .inr (10, [.ref qa, .int 1, .int 1])), (qa, .inl (cN, 40, .inr (.inr (.inr (.inr (va_up (fun _ => none) 0 (some qn))))))), (qn, .inr (5, [.int 0, .ref qm, .ref qk, .ref qt, .int 0, .int 0, .int 0, .int 16877, .int 0, .int 0, .int 0, .int 0])), (qm, .inl (cB, 0, .inl (fun _ => 0))), (qt, .inl (cB, 0, .inl (fun _ => 0))), (qk, .inl (cB, 11, .inl (fun _ => 0))), (im, .inr (1, [.ref iq, .int 0])), (iq, .inl (cB, 0, .inl (fun _ => 0)))] := hD
  refine W.widen (k := 10) (n := 470) (by decide) (by decide) ?_
  refine va_putF (D := D) (ci := 0) (v := .ref im) (ty := .object "DiscMaker$Bytes") (C := "DiscMaker") (T := F_DiscMaker) (N := 5) hx hb ht9 in_DiscMaker t_DiscMaker t_DiscMaker_ok n_DiscMaker hown hK hP hD hS 0 rfl rfl 2 (by decide) (ht9 _ k433) (fun _ h9 => h9) rfl hin rfl (by decide +kernel) rfl rfl (Nat.le_of_ble_eq_true rfl) d_DiscMaker_init_35 (fun H locs hP hD hS => ?_)
  have hP : va_P D CL [(h0, .inr (0, [.ref tx, .ref tr, .ref im, .null, .null])), (tx, .inr (9, [.ref tq, .int 0])), (tq, .inl (cB, 400, .inl (fun _ => 0))), (tr, .inr (10, [.ref qa, .int 1, .int 1])), (qa, .inl (cN, 40, .inr (.inr (.inr (.inr (va_up (fun _ => none) 0 (some qn))))))), (qn, .inr (5, [.int 0, .ref qm, .ref qk, .ref qt, .int 0, .int 0, .int 0, .int 16877, .int 0, .int 0, .int 0, .int 0])), (qm, .inl (cB, 0, .inl (fun _ => 0))), (qt, .inl (cB, 0, .inl (fun _ => 0))), (qk, .inl (cB, 11, .inl (fun _ => 0))), (im, .inr (1, [.ref iq, .int 0])), (iq, .inl (cB, 0, .inl (fun _ => 0)))] H := hP
  have hD : va_D A [(h0, .inr (0, [.ref tx, .ref tr, .ref im, .null, .null])), (tx, .inr (9, [.ref tq, .int 0])), (tq, .inl (cB, 400, .inl (fun _ => 0))), (tr, .inr (10, [.ref qa, .int 1, .int 1])), (qa, .inl (cN, 40, .inr (.inr (.inr (.inr (va_up (fun _ => none) 0 (some qn))))))), (qn, .inr (5, [.int 0, .ref qm, .ref qk, .ref qt, .int 0, .int 0, .int 0, .int 16877, .int 0, .int 0, .int 0, .int 0])), (qm, .inl (cB, 0, .inl (fun _ => 0))), (qt, .inl (cB, 0, .inl (fun _ => 0))), (qk, .inl (cB, 11, .inl (fun _ => 0))), (im, .inr (1, [.ref iq, .int 0])), (iq, .inl (cB, 0, .inl (fun _ => 0)))] := hD
  refine lv_aload_n hx hb d_DiscMaker_init_38 rfl (lv_at hl 0 rfl) ?_
  have hc_39 : 11 ≤ 33 := by decide
  have hs_39 : 480 ≤ 1467 := by decide
  refine va_new (ci := 4) (fs := [.null, .null, .null, .null, .null, .null, .null, .int 0, .int 0, .int 0]) (C := "DiscMaker$Maker") (T := F_Maker) (N := 10) hx hb ht9 in_Maker t_Maker t_Maker_ok hown (ht9 _ k268) (ht9 _ k269) (ht9 _ k120) hK hP hD hS hA rfl (by decide) hc_39 hs_39 d_DiscMaker_init_39 (fun mkr H hP hD hS => ?_)
  have hP : va_P D CL [(h0, .inr (0, [.ref tx, .ref tr, .ref im, .null, .null])), (tx, .inr (9, [.ref tq, .int 0])), (tq, .inl (cB, 400, .inl (fun _ => 0))), (tr, .inr (10, [.ref qa, .int 1, .int 1])), (qa, .inl (cN, 40, .inr (.inr (.inr (.inr (va_up (fun _ => none) 0 (some qn))))))), (qn, .inr (5, [.int 0, .ref qm, .ref qk, .ref qt, .int 0, .int 0, .int 0, .int 16877, .int 0, .int 0, .int 0, .int 0])), (qm, .inl (cB, 0, .inl (fun _ => 0))), (qt, .inl (cB, 0, .inl (fun _ => 0))), (qk, .inl (cB, 11, .inl (fun _ => 0))), (im, .inr (1, [.ref iq, .int 0])), (iq, .inl (cB, 0, .inl (fun _ => 0))), (mkr, .inr (4, [.null, .null, .null, .null, .null, .null, .null, .int 0, .int 0, .int 0]))] H := hP
  have hD : va_D A [(h0, .inr (0, [.ref tx, .ref tr, .ref im, .null, .null])), (tx, .inr (9, [.ref tq, .int 0])), (tq, .inl (cB, 400, .inl (fun _ => 0))), (tr, .inr (10, [.ref qa, .int 1, .int 1])), (qa, .inl (cN, 40, .inr (.inr (.inr (.inr (va_up (fun _ => none) 0 (some qn))))))), (qn, .inr (5, [.int 0, .ref qm, .ref qk, .ref qt, .int 0, .int 0, .int 0, .int 16877, .int 0, .int 0, .int 0, .int 0])), (qm, .inl (cB, 0, .inl (fun _ => 0))), (qt, .inl (cB, 0, .inl (fun _ => 0))), (qk, .inl (cB, 11, .inl (fun _ => 0))), (im, .inr (1, [.ref iq, .int 0])), (iq, .inl (cB, 0, .inl (fun _ => 0))), (mkr, .inr (4, [.null, .null, .null, .null, .null, .null, .null, .int 0, .int 0, .int 0]))] := hD
  refine W.widen (k := 11) (n := 480) (by decide) (by decide) ?_
  refine lv_dup hx hb d_DiscMaker_init_42 rfl ?_
  refine lv_aload_n hx hb d_DiscMaker_init_43 rfl (lv_at hl 0 rfl) ?_
  refine va_get (D := D) (ci := 0) (v := .ref tr) (C := "DiscMaker") (T := F_DiscMaker) (N := 5) hx hb ht9 in_DiscMaker hown hK hP 0 rfl rfl 1 (by decide) (ht9 _ k432) (fun _ h9 => h9) rfl d_DiscMaker_init_44 ?_
  refine lv_aload_n hx hb d_DiscMaker_init_47 rfl (lv_at hl 0 rfl) ?_
  refine va_get (D := D) (ci := 0) (v := .ref im) (C := "DiscMaker") (T := F_DiscMaker) (N := 5) hx hb ht9 in_DiscMaker hown hK hP 0 rfl rfl 2 (by decide) (ht9 _ k433) (fun _ h9 => h9) rfl d_DiscMaker_init_48 ?_
  have hPc := hP.sub (ws' := [(mkr, .inr (4, [.null, .null, .null, .null, .null, .null, .null, .int 0, .int 0, .int 0]))]) [11] rfl
  have hDc := hD.sub (ws' := [(mkr, .inr (4, [.null, .null, .null, .null, .null, .null, .null, .int 0, .int 0, .int 0]))]) [11] (by decide) rfl
  have hFc := va_free (wc := [(mkr, .inr (4, [.null, .null, .null, .null, .null, .null, .null, .int 0, .int 0, .int 0]))]) hD hS hA [11] rfl
  have hkc : 30 ≤ 33 := by decide
  have hks : 1356 ≤ 1467 := by decide
  refine va_callv (va_runI (As := [.ref tr, .ref im]) (rest := [.ref mkr, .ref h0]) ⟨hx, hb, hml, hown, hts⟩ (c_Maker_init l D cB cI cJ cZ cN cF H.size mkr tr im) (cwI 2 hts (lg_good kc_Maker_init) rfl rfl rfl (ht9 _ k120) (ht9 _ k270) (ht9 _ k271) rfl (by decide +kernel) ⟨Nat.le_of_ble_eq_true rfl, Nat.le_of_ble_eq_true rfl⟩) ⟨fun a U g mk q => by obtain ⟨q0, q1, qP, qK, qN, qD⟩ := q; exact ⟨q0, q1, qP, va_K.moved (u := U) (U := U.calling g mk a) (Vm.Alike.refl U.vm) qK, qN.calling, qD⟩, fun U hU hW => ⟨rfl, by rw [hU], by rw [hU]; exact hPc, va_K.moved hW.alike hK, NN.warm hW hN, hDc.weaken (fun _ _ _ _ => trivial)⟩⟩ rfl rfl hl.1 rfl (lv_room (Nat.le_of_ble_eq_true rfl)) d_DiscMaker_init_51 ⟨hkc, hks⟩) hS (fun q _ h => hFc q h) hFc (fun u t H1 locs ht hvm hp_51 hB hz1 hk1 hS => ?_)
  obtain ⟨x, xo, xp, xt, xb, xe, y, yo, yp, yt, yb, ye, z, zb, zr, ze, i, ir, ct⟩ := u
  obtain ⟨hP1, hD1⟩ := hB
  rw [ht] at hP1
  obtain ⟨hP, hD⟩ := va_join (wr := [(h0, .inr (0, [.ref tx, .ref tr, .ref im, .null, .null])), (tx, .inr (9, [.ref tq, .int 0])), (tq, .inl (cB, 400, .inl (fun _ => 0))), (tr, .inr (10, [.ref qa, .int 1, .int 1])), (qa, .inl (cN, 40, .inr (.inr (.inr (.inr (va_up (fun _ => none) 0 (some qn))))))), (qn, .inr (5, [.int 0, .ref qm, .ref qk, .ref qt, .int 0, .int 0, .int 0, .int 16877, .int 0, .int 0, .int 0, .int 0])), (qm, .inl (cB, 0, .inl (fun _ => 0))), (qt, .inl (cB, 0, .inl (fun _ => 0))), (qk, .inl (cB, 11, .inl (fun _ => 0))), (im, .inr (1, [.ref iq, .int 0])), (iq, .inl (cB, 0, .inl (fun _ => 0)))]) (w1 := [(mkr, .inr (4, [.ref tr, .ref im, .ref x, .ref y, .ref z, .ref i, .ref ct, .int 0, .int 0, .int 0])), (x, .inr (3, [.int 0, .int 16, .int 19, .ref xo, .ref xp, .ref xt, .ref xb, .ref xe, .int 0, .int 0])), (xo, .inl (cI, 40, .inl (fun _ => 0))), (xp, .inl (cI, 12, .inl (fun _ => 0))), (xt, .inl (cI, 40, .inl (fun _ => 0))), (xb, .inl (cI, 40, .inl (fun _ => 0))), (xe, .inl (cI, 40, .inl (fun _ => 0))), (y, .inr (3, [.int 1, .int 17, .int 21, .ref yo, .ref yp, .ref yt, .ref yb, .ref ye, .int 0, .int 0])), (yo, .inl (cI, 40, .inl (fun _ => 0))), (yp, .inl (cI, 12, .inl (fun _ => 0))), (yt, .inl (cI, 40, .inl (fun _ => 0))), (yb, .inl (cI, 40, .inl (fun _ => 0))), (ye, .inl (cI, 40, .inl (fun _ => 0))), (z, .inr (8, [.ref zb, .ref ze, .int 0, .int 0])), (zb, .inr (1, [.ref zr, .int 0])), (zr, .inl (cB, 400, .inl (fun _ => 0))), (ze, .inl (cI, 4, .inl (fun _ => 0))), (i, .inr (1, [.ref ir, .int 0])), (ir, .inl (cB, 60, .inl (fun _ => 0))), (ct, .inl (cI, 40, .inl (fun _ => 0)))]) hP hD [11] [0, 1, 2, 3, 4, 5, 6, 7, 8, 9, 10] rfl rfl (by decide) (by decide) hk1 hFc hP1 hD1
  clear hPc hDc hFc hP1 hD1 hk1 hz1
  generalize H1 = H at hP hS ⊢
  have hP : va_P D CL [(h0, .inr (0, [.ref tx, .ref tr, .ref im, .null, .null])), (tx, .inr (9, [.ref tq, .int 0])), (tq, .inl (cB, 400, .inl (fun _ => 0))), (tr, .inr (10, [.ref qa, .int 1, .int 1])), (qa, .inl (cN, 40, .inr (.inr (.inr (.inr (va_up (fun _ => none) 0 (some qn))))))), (qn, .inr (5, [.int 0, .ref qm, .ref qk, .ref qt, .int 0, .int 0, .int 0, .int 16877, .int 0, .int 0, .int 0, .int 0])), (qm, .inl (cB, 0, .inl (fun _ => 0))), (qt, .inl (cB, 0, .inl (fun _ => 0))), (qk, .inl (cB, 11, .inl (fun _ => 0))), (im, .inr (1, [.ref iq, .int 0])), (iq, .inl (cB, 0, .inl (fun _ => 0))), (mkr, .inr (4, [.ref tr, .ref im, .ref x, .ref y, .ref z, .ref i, .ref ct, .int 0, .int 0, .int 0])), (x, .inr (3, [.int 0, .int 16, .int 19, .ref xo, .ref xp, .ref xt, .ref xb, .ref xe, .int 0, .int 0])), (xo, .inl (cI, 40, .inl (fun _ => 0))), (xp, .inl (cI, 12, .inl (fun _ => 0))), (xt, .inl (cI, 40, .inl (fun _ => 0))), (xb, .inl (cI, 40, .inl (fun _ => 0))), (xe, .inl (cI, 40, .inl (fun _ => 0))), (y, .inr (3, [.int 1, .int 17, .int 21, .ref yo, .ref yp, .ref yt, .ref yb, .ref ye, .int 0, .int 0])), (yo, .inl (cI, 40, .inl (fun _ => 0))), (yp, .inl (cI, 12, .inl (fun _ => 0))), (yt, .inl (cI, 40, .inl (fun _ => 0))), (yb, .inl (cI, 40, .inl (fun _ => 0))), (ye, .inl (cI, 40, .inl (fun _ => 0))), (z, .inr (8, [.ref zb, .ref ze, .int 0, .int 0])), (zb, .inr (1, [.ref zr, .int 0])), (zr, .inl (cB, 400, .inl (fun _ => 0))), (ze, .inl (cI, 4, .inl (fun _ => 0))), (i, .inr (1, [.ref ir, .int 0])), (ir, .inl (cB, 60, .inl (fun _ => 0))), (ct, .inl (cI, 40, .inl (fun _ => 0)))] H := hP
  have hD : va_D A [(h0, .inr (0, [.ref tx, .ref tr, .ref im, .null, .null])), (tx, .inr (9, [.ref tq, .int 0])), (tq, .inl (cB, 400, .inl (fun _ => 0))), (tr, .inr (10, [.ref qa, .int 1, .int 1])), (qa, .inl (cN, 40, .inr (.inr (.inr (.inr (va_up (fun _ => none) 0 (some qn))))))), (qn, .inr (5, [.int 0, .ref qm, .ref qk, .ref qt, .int 0, .int 0, .int 0, .int 16877, .int 0, .int 0, .int 0, .int 0])), (qm, .inl (cB, 0, .inl (fun _ => 0))), (qt, .inl (cB, 0, .inl (fun _ => 0))), (qk, .inl (cB, 11, .inl (fun _ => 0))), (im, .inr (1, [.ref iq, .int 0])), (iq, .inl (cB, 0, .inl (fun _ => 0))), (mkr, .inr (4, [.ref tr, .ref im, .ref x, .ref y, .ref z, .ref i, .ref ct, .int 0, .int 0, .int 0])), (x, .inr (3, [.int 0, .int 16, .int 19, .ref xo, .ref xp, .ref xt, .ref xb, .ref xe, .int 0, .int 0])), (xo, .inl (cI, 40, .inl (fun _ => 0))), (xp, .inl (cI, 12, .inl (fun _ => 0))), (xt, .inl (cI, 40, .inl (fun _ => 0))), (xb, .inl (cI, 40, .inl (fun _ => 0))), (xe, .inl (cI, 40, .inl (fun _ => 0))), (y, .inr (3, [.int 1, .int 17, .int 21, .ref yo, .ref yp, .ref yt, .ref yb, .ref ye, .int 0, .int 0])), (yo, .inl (cI, 40, .inl (fun _ => 0))), (yp, .inl (cI, 12, .inl (fun _ => 0))), (yt, .inl (cI, 40, .inl (fun _ => 0))), (yb, .inl (cI, 40, .inl (fun _ => 0))), (ye, .inl (cI, 40, .inl (fun _ => 0))), (z, .inr (8, [.ref zb, .ref ze, .int 0, .int 0])), (zb, .inr (1, [.ref zr, .int 0])), (zr, .inl (cB, 400, .inl (fun _ => 0))), (ze, .inl (cI, 4, .inl (fun _ => 0))), (i, .inr (1, [.ref ir, .int 0])), (ir, .inl (cB, 60, .inl (fun _ => 0))), (ct, .inl (cI, 40, .inl (fun _ => 0)))] := hD
  refine W.widen (k := 30) (n := 1356) (by decide) (by decide) ?_
  refine va_putF (D := D) (ci := 0) (v := .ref mkr) (ty := .object "DiscMaker$Maker") (C := "DiscMaker") (T := F_DiscMaker) (N := 5) hx hb ht9 in_DiscMaker t_DiscMaker t_DiscMaker_ok n_DiscMaker hown hK hP hD hS 0 rfl rfl 3 (by decide) (ht9 _ k434) (fun _ h9 => h9) rfl hin rfl (by decide +kernel) rfl rfl (Nat.le_of_ble_eq_true rfl) d_DiscMaker_init_54 (fun H locs hP hD hS => ?_)
  have hP : va_P D CL [(h0, .inr (0, [.ref tx, .ref tr, .ref im, .ref mkr, .null])), (tx, .inr (9, [.ref tq, .int 0])), (tq, .inl (cB, 400, .inl (fun _ => 0))), (tr, .inr (10, [.ref qa, .int 1, .int 1])), (qa, .inl (cN, 40, .inr (.inr (.inr (.inr (va_up (fun _ => none) 0 (some qn))))))), (qn, .inr (5, [.int 0, .ref qm, .ref qk, .ref qt, .int 0, .int 0, .int 0, .int 16877, .int 0, .int 0, .int 0, .int 0])), (qm, .inl (cB, 0, .inl (fun _ => 0))), (qt, .inl (cB, 0, .inl (fun _ => 0))), (qk, .inl (cB, 11, .inl (fun _ => 0))), (im, .inr (1, [.ref iq, .int 0])), (iq, .inl (cB, 0, .inl (fun _ => 0))), (mkr, .inr (4, [.ref tr, .ref im, .ref x, .ref y, .ref z, .ref i, .ref ct, .int 0, .int 0, .int 0])), (x, .inr (3, [.int 0, .int 16, .int 19, .ref xo, .ref xp, .ref xt, .ref xb, .ref xe, .int 0, .int 0])), (xo, .inl (cI, 40, .inl (fun _ => 0))), (xp, .inl (cI, 12, .inl (fun _ => 0))), (xt, .inl (cI, 40, .inl (fun _ => 0))), (xb, .inl (cI, 40, .inl (fun _ => 0))), (xe, .inl (cI, 40, .inl (fun _ => 0))), (y, .inr (3, [.int 1, .int 17, .int 21, .ref yo, .ref yp, .ref yt, .ref yb, .ref ye, .int 0, .int 0])), (yo, .inl (cI, 40, .inl (fun _ => 0))), (yp, .inl (cI, 12, .inl (fun _ => 0))), (yt, .inl (cI, 40, .inl (fun _ => 0))), (yb, .inl (cI, 40, .inl (fun _ => 0))), (ye, .inl (cI, 40, .inl (fun _ => 0))), (z, .inr (8, [.ref zb, .ref ze, .int 0, .int 0])), (zb, .inr (1, [.ref zr, .int 0])), (zr, .inl (cB, 400, .inl (fun _ => 0))), (ze, .inl (cI, 4, .inl (fun _ => 0))), (i, .inr (1, [.ref ir, .int 0])), (ir, .inl (cB, 60, .inl (fun _ => 0))), (ct, .inl (cI, 40, .inl (fun _ => 0)))] H := hP
  have hD : va_D A [(h0, .inr (0, [.ref tx, .ref tr, .ref im, .ref mkr, .null])), (tx, .inr (9, [.ref tq, .int 0])), (tq, .inl (cB, 400, .inl (fun _ => 0))), (tr, .inr (10, [.ref qa, .int 1, .int 1])), (qa, .inl (cN, 40, .inr (.inr (.inr (.inr (va_up (fun _ => none) 0 (some qn))))))), (qn, .inr (5, [.int 0, .ref qm, .ref qk, .ref qt, .int 0, .int 0, .int 0, .int 16877, .int 0, .int 0, .int 0, .int 0])), (qm, .inl (cB, 0, .inl (fun _ => 0))), (qt, .inl (cB, 0, .inl (fun _ => 0))), (qk, .inl (cB, 11, .inl (fun _ => 0))), (im, .inr (1, [.ref iq, .int 0])), (iq, .inl (cB, 0, .inl (fun _ => 0))), (mkr, .inr (4, [.ref tr, .ref im, .ref x, .ref y, .ref z, .ref i, .ref ct, .int 0, .int 0, .int 0])), (x, .inr (3, [.int 0, .int 16, .int 19, .ref xo, .ref xp, .ref xt, .ref xb, .ref xe, .int 0, .int 0])), (xo, .inl (cI, 40, .inl (fun _ => 0))), (xp, .inl (cI, 12, .inl (fun _ => 0))), (xt, .inl (cI, 40, .inl (fun _ => 0))), (xb, .inl (cI, 40, .inl (fun _ => 0))), (xe, .inl (cI, 40, .inl (fun _ => 0))), (y, .inr (3, [.int 1, .int 17, .int 21, .ref yo, .ref yp, .ref yt, .ref yb, .ref ye, .int 0, .int 0])), (yo, .inl (cI, 40, .inl (fun _ => 0))), (yp, .inl (cI, 12, .inl (fun _ => 0))), (yt, .inl (cI, 40, .inl (fun _ => 0))), (yb, .inl (cI, 40, .inl (fun _ => 0))), (ye, .inl (cI, 40, .inl (fun _ => 0))), (z, .inr (8, [.ref zb, .ref ze, .int 0, .int 0])), (zb, .inr (1, [.ref zr, .int 0])), (zr, .inl (cB, 400, .inl (fun _ => 0))), (ze, .inl (cI, 4, .inl (fun _ => 0))), (i, .inr (1, [.ref ir, .int 0])), (ir, .inl (cB, 60, .inl (fun _ => 0))), (ct, .inl (cI, 40, .inl (fun _ => 0)))] := hD
  refine lv_aload_n hx hb d_DiscMaker_init_57 rfl (lv_at hl 0 rfl) ?_
  have hc_58 : 31 ≤ 33 := by decide
  have hs_58 : 1362 ≤ 1467 := by decide
  refine va_new (ci := 7) (fs := [.null, .null, .null, .int 0, .int 0, .int 0]) (C := "DiscMaker$Reader") (T := F_Reader) (N := 6) hx hb ht9 in_Reader t_Reader t_Reader_ok hown (ht9 _ k378) (ht9 _ k379) (ht9 _ k123) hK hP hD hS hA rfl (by decide) hc_58 hs_58 d_DiscMaker_init_58 (fun rd H hP hD hS => ?_)
  have hP : va_P D CL [(h0, .inr (0, [.ref tx, .ref tr, .ref im, .ref mkr, .null])), (tx, .inr (9, [.ref tq, .int 0])), (tq, .inl (cB, 400, .inl (fun _ => 0))), (tr, .inr (10, [.ref qa, .int 1, .int 1])), (qa, .inl (cN, 40, .inr (.inr (.inr (.inr (va_up (fun _ => none) 0 (some qn))))))), (qn, .inr (5, [.int 0, .ref qm, .ref qk, .ref qt, .int 0, .int 0, .int 0, .int 16877, .int 0, .int 0, .int 0, .int 0])), (qm, .inl (cB, 0, .inl (fun _ => 0))), (qt, .inl (cB, 0, .inl (fun _ => 0))), (qk, .inl (cB, 11, .inl (fun _ => 0))), (im, .inr (1, [.ref iq, .int 0])), (iq, .inl (cB, 0, .inl (fun _ => 0))), (mkr, .inr (4, [.ref tr, .ref im, .ref x, .ref y, .ref z, .ref i, .ref ct, .int 0, .int 0, .int 0])), (x, .inr (3, [.int 0, .int 16, .int 19, .ref xo, .ref xp, .ref xt, .ref xb, .ref xe, .int 0, .int 0])), (xo, .inl (cI, 40, .inl (fun _ => 0))), (xp, .inl (cI, 12, .inl (fun _ => 0))), (xt, .inl (cI, 40, .inl (fun _ => 0))), (xb, .inl (cI, 40, .inl (fun _ => 0))), (xe, .inl (cI, 40, .inl (fun _ => 0))), (y, .inr (3, [.int 1, .int 17, .int 21, .ref yo, .ref yp, .ref yt, .ref yb, .ref ye, .int 0, .int 0])), (yo, .inl (cI, 40, .inl (fun _ => 0))), (yp, .inl (cI, 12, .inl (fun _ => 0))), (yt, .inl (cI, 40, .inl (fun _ => 0))), (yb, .inl (cI, 40, .inl (fun _ => 0))), (ye, .inl (cI, 40, .inl (fun _ => 0))), (z, .inr (8, [.ref zb, .ref ze, .int 0, .int 0])), (zb, .inr (1, [.ref zr, .int 0])), (zr, .inl (cB, 400, .inl (fun _ => 0))), (ze, .inl (cI, 4, .inl (fun _ => 0))), (i, .inr (1, [.ref ir, .int 0])), (ir, .inl (cB, 60, .inl (fun _ => 0))), (ct, .inl (cI, 40, .inl (fun _ => 0))), (rd, .inr (7, [.null, .null, .null, .int 0, .int 0, .int 0]))] H := hP
  have hD : va_D A [(h0, .inr (0, [.ref tx, .ref tr, .ref im, .ref mkr, .null])), (tx, .inr (9, [.ref tq, .int 0])), (tq, .inl (cB, 400, .inl (fun _ => 0))), (tr, .inr (10, [.ref qa, .int 1, .int 1])), (qa, .inl (cN, 40, .inr (.inr (.inr (.inr (va_up (fun _ => none) 0 (some qn))))))), (qn, .inr (5, [.int 0, .ref qm, .ref qk, .ref qt, .int 0, .int 0, .int 0, .int 16877, .int 0, .int 0, .int 0, .int 0])), (qm, .inl (cB, 0, .inl (fun _ => 0))), (qt, .inl (cB, 0, .inl (fun _ => 0))), (qk, .inl (cB, 11, .inl (fun _ => 0))), (im, .inr (1, [.ref iq, .int 0])), (iq, .inl (cB, 0, .inl (fun _ => 0))), (mkr, .inr (4, [.ref tr, .ref im, .ref x, .ref y, .ref z, .ref i, .ref ct, .int 0, .int 0, .int 0])), (x, .inr (3, [.int 0, .int 16, .int 19, .ref xo, .ref xp, .ref xt, .ref xb, .ref xe, .int 0, .int 0])), (xo, .inl (cI, 40, .inl (fun _ => 0))), (xp, .inl (cI, 12, .inl (fun _ => 0))), (xt, .inl (cI, 40, .inl (fun _ => 0))), (xb, .inl (cI, 40, .inl (fun _ => 0))), (xe, .inl (cI, 40, .inl (fun _ => 0))), (y, .inr (3, [.int 1, .int 17, .int 21, .ref yo, .ref yp, .ref yt, .ref yb, .ref ye, .int 0, .int 0])), (yo, .inl (cI, 40, .inl (fun _ => 0))), (yp, .inl (cI, 12, .inl (fun _ => 0))), (yt, .inl (cI, 40, .inl (fun _ => 0))), (yb, .inl (cI, 40, .inl (fun _ => 0))), (ye, .inl (cI, 40, .inl (fun _ => 0))), (z, .inr (8, [.ref zb, .ref ze, .int 0, .int 0])), (zb, .inr (1, [.ref zr, .int 0])), (zr, .inl (cB, 400, .inl (fun _ => 0))), (ze, .inl (cI, 4, .inl (fun _ => 0))), (i, .inr (1, [.ref ir, .int 0])), (ir, .inl (cB, 60, .inl (fun _ => 0))), (ct, .inl (cI, 40, .inl (fun _ => 0))), (rd, .inr (7, [.null, .null, .null, .int 0, .int 0, .int 0]))] := hD
  refine W.widen (k := 31) (n := 1362) (by decide) (by decide) ?_
  refine lv_dup hx hb d_DiscMaker_init_61 rfl ?_
  refine lv_aload_n hx hb d_DiscMaker_init_62 rfl (lv_at hl 0 rfl) ?_
  refine va_get (D := D) (ci := 0) (v := .ref im) (C := "DiscMaker") (T := F_DiscMaker) (N := 5) hx hb ht9 in_DiscMaker hown hK hP 0 rfl rfl 2 (by decide) (ht9 _ k433) (fun _ h9 => h9) rfl d_DiscMaker_init_63 ?_
  have hPc := hP.sub (ws' := [(rd, .inr (7, [.null, .null, .null, .int 0, .int 0, .int 0]))]) [31] rfl
  have hDc := hD.sub (ws' := [(rd, .inr (7, [.null, .null, .null, .int 0, .int 0, .int 0]))]) [31] (by decide) rfl
  have hFc := va_free (wc := [(rd, .inr (7, [.null, .null, .null, .int 0, .int 0, .int 0]))]) hD hS hA [31] rfl
  have hkc : 33 ≤ 33 := by decide
  have hks : 1467 ≤ 1467 := by decide
  refine va_callv (va_runI (As := [.ref im]) (rest := [.ref rd, .ref h0]) ⟨hx, hb, hml, hown, hts⟩ (c_Reader_init l D cB cI cJ cZ cN cF H.size rd im) (cwI 1 hts (lg_good kc_Reader_init) rfl rfl rfl (ht9 _ k123) (ht9 _ k380) (ht9 _ k381) rfl (by decide +kernel) ⟨Nat.le_of_ble_eq_true rfl, Nat.le_of_ble_eq_true rfl⟩) ⟨fun a U g mk q => by obtain ⟨q0, q1, qP, qK, qN, qD⟩ := q; exact ⟨q0, q1, qP, va_K.moved (u := U) (U := U.calling g mk a) (Vm.Alike.refl U.vm) qK, qN.calling, qD⟩, fun U hU hW => ⟨rfl, by rw [hU], by rw [hU]; exact hPc, va_K.moved hW.alike hK, NN.warm hW hN, hDc.weaken (fun _ _ _ _ => trivial)⟩⟩ rfl rfl hl.1 rfl (lv_room (Nat.le_of_ble_eq_true rfl)) d_DiscMaker_init_66 ⟨hkc, hks⟩) hS (fun q _ h => hFc q h) hFc (fun u t H1 locs ht hvm hp_66 hB hz1 hk1 hS => ?_)
  obtain ⟨rr, rp⟩ := u
  obtain ⟨hP1, hD1⟩ := hB
  rw [ht] at hP1
  obtain ⟨hP, hD⟩ := va_join (wr := [(h0, .inr (0, [.ref tx, .ref tr, .ref im, .ref mkr, .null])), (tx, .inr (9, [.ref tq, .int 0])), (tq, .inl (cB, 400, .inl (fun _ => 0))), (tr, .inr (10, [.ref qa, .int 1, .int 1])), (qa, .inl (cN, 40, .inr (.inr (.inr (.inr (va_up (fun _ => none) 0 (some qn))))))), (qn, .inr (5, [.int 0, .ref qm, .ref qk, .ref qt, .int 0, .int 0, .int 0, .int 16877, .int 0, .int 0, .int 0, .int 0])), (qm, .inl (cB, 0, .inl (fun _ => 0))), (qt, .inl (cB, 0, .inl (fun _ => 0))), (qk, .inl (cB, 11, .inl (fun _ => 0))), (im, .inr (1, [.ref iq, .int 0])), (iq, .inl (cB, 0, .inl (fun _ => 0))), (mkr, .inr (4, [.ref tr, .ref im, .ref x, .ref y, .ref z, .ref i, .ref ct, .int 0, .int 0, .int 0])), (x, .inr (3, [.int 0, .int 16, .int 19, .ref xo, .ref xp, .ref xt, .ref xb, .ref xe, .int 0, .int 0])), (xo, .inl (cI, 40, .inl (fun _ => 0))), (xp, .inl (cI, 12, .inl (fun _ => 0))), (xt, .inl (cI, 40, .inl (fun _ => 0))), (xb, .inl (cI, 40, .inl (fun _ => 0))), (xe, .inl (cI, 40, .inl (fun _ => 0))), (y, .inr (3, [.int 1, .int 17, .int 21, .ref yo, .ref yp, .ref yt, .ref yb, .ref ye, .int 0, .int 0])), (yo, .inl (cI, 40, .inl (fun _ => 0))), (yp, .inl (cI, 12, .inl (fun _ => 0))), (yt, .inl (cI, 40, .inl (fun _ => 0))), (yb, .inl (cI, 40, .inl (fun _ => 0))), (ye, .inl (cI, 40, .inl (fun _ => 0))), (z, .inr (8, [.ref zb, .ref ze, .int 0, .int 0])), (zb, .inr (1, [.ref zr, .int 0])), (zr, .inl (cB, 400, .inl (fun _ => 0))), (ze, .inl (cI, 4, .inl (fun _ => 0))), (i, .inr (1, [.ref ir, .int 0])), (ir, .inl (cB, 60, .inl (fun _ => 0))), (ct, .inl (cI, 40, .inl (fun _ => 0)))]) (w1 := [(rd, .inr (7, [.ref im, .ref rp, .ref rr, .int 0, .int 0, .int 0])), (rp, .inr (6, [.ref im, .null, .int 0, .int 0, .int 0, .int 0])), (rr, .inl (cF, 99, .inr (.inr (.inr (.inr (fun _ => none))))))]) hP hD [31] [0, 1, 2, 3, 4, 5, 6, 7, 8, 9, 10, 11, 12, 13, 14, 15, 16, 17, 18, 19, 20, 21, 22, 23, 24, 25, 26, 27, 28, 29, 30] rfl rfl (by decide) (by decide) hk1 hFc hP1 hD1
  clear hPc hDc hFc hP1 hD1 hk1 hz1
  generalize H1 = H at hP hS ⊢
  have hP : va_P D CL [(h0, .inr (0, [.ref tx, .ref tr, .ref im, .ref mkr, .null])), (tx, .inr (9, [.ref tq, .int 0])), (tq, .inl (cB, 400, .inl (fun _ => 0))), (tr, .inr (10, [.ref qa, .int 1, .int 1])), (qa, .inl (cN, 40, .inr (.inr (.inr (.inr (va_up (fun _ => none) 0 (some qn))))))), (qn, .inr (5, [.int 0, .ref qm, .ref qk, .ref qt, .int 0, .int 0, .int 0, .int 16877, .int 0, .int 0, .int 0, .int 0])), (qm, .inl (cB, 0, .inl (fun _ => 0))), (qt, .inl (cB, 0, .inl (fun _ => 0))), (qk, .inl (cB, 11, .inl (fun _ => 0))), (im, .inr (1, [.ref iq, .int 0])), (iq, .inl (cB, 0, .inl (fun _ => 0))), (mkr, .inr (4, [.ref tr, .ref im, .ref x, .ref y, .ref z, .ref i, .ref ct, .int 0, .int 0, .int 0])), (x, .inr (3, [.int 0, .int 16, .int 19, .ref xo, .ref xp, .ref xt, .ref xb, .ref xe, .int 0, .int 0])), (xo, .inl (cI, 40, .inl (fun _ => 0))), (xp, .inl (cI, 12, .inl (fun _ => 0))), (xt, .inl (cI, 40, .inl (fun _ => 0))), (xb, .inl (cI, 40, .inl (fun _ => 0))), (xe, .inl (cI, 40, .inl (fun _ => 0))), (y, .inr (3, [.int 1, .int 17, .int 21, .ref yo, .ref yp, .ref yt, .ref yb, .ref ye, .int 0, .int 0])), (yo, .inl (cI, 40, .inl (fun _ => 0))), (yp, .inl (cI, 12, .inl (fun _ => 0))), (yt, .inl (cI, 40, .inl (fun _ => 0))), (yb, .inl (cI, 40, .inl (fun _ => 0))), (ye, .inl (cI, 40, .inl (fun _ => 0))), (z, .inr (8, [.ref zb, .ref ze, .int 0, .int 0])), (zb, .inr (1, [.ref zr, .int 0])), (zr, .inl (cB, 400, .inl (fun _ => 0))), (ze, .inl (cI, 4, .inl (fun _ => 0))), (i, .inr (1, [.ref ir, .int 0])), (ir, .inl (cB, 60, .inl (fun _ => 0))), (ct, .inl (cI, 40, .inl (fun _ => 0))), (rd, .inr (7, [.ref im, .ref rp, .ref rr, .int 0, .int 0, .int 0])), (rp, .inr (6, [.ref im, .null, .int 0, .int 0, .int 0, .int 0])), (rr, .inl (cF, 99, .inr (.inr (.inr (.inr (fun _ => none))))))] H := hP
  have hD : va_D A [(h0, .inr (0, [.ref tx, .ref tr, .ref im, .ref mkr, .null])), (tx, .inr (9, [.ref tq, .int 0])), (tq, .inl (cB, 400, .inl (fun _ => 0))), (tr, .inr (10, [.ref qa, .int 1, .int 1])), (qa, .inl (cN, 40, .inr (.inr (.inr (.inr (va_up (fun _ => none) 0 (some qn))))))), (qn, .inr (5, [.int 0, .ref qm, .ref qk, .ref qt, .int 0, .int 0, .int 0, .int 16877, .int 0, .int 0, .int 0, .int 0])), (qm, .inl (cB, 0, .inl (fun _ => 0))), (qt, .inl (cB, 0, .inl (fun _ => 0))), (qk, .inl (cB, 11, .inl (fun _ => 0))), (im, .inr (1, [.ref iq, .int 0])), (iq, .inl (cB, 0, .inl (fun _ => 0))), (mkr, .inr (4, [.ref tr, .ref im, .ref x, .ref y, .ref z, .ref i, .ref ct, .int 0, .int 0, .int 0])), (x, .inr (3, [.int 0, .int 16, .int 19, .ref xo, .ref xp, .ref xt, .ref xb, .ref xe, .int 0, .int 0])), (xo, .inl (cI, 40, .inl (fun _ => 0))), (xp, .inl (cI, 12, .inl (fun _ => 0))), (xt, .inl (cI, 40, .inl (fun _ => 0))), (xb, .inl (cI, 40, .inl (fun _ => 0))), (xe, .inl (cI, 40, .inl (fun _ => 0))), (y, .inr (3, [.int 1, .int 17, .int 21, .ref yo, .ref yp, .ref yt, .ref yb, .ref ye, .int 0, .int 0])), (yo, .inl (cI, 40, .inl (fun _ => 0))), (yp, .inl (cI, 12, .inl (fun _ => 0))), (yt, .inl (cI, 40, .inl (fun _ => 0))), (yb, .inl (cI, 40, .inl (fun _ => 0))), (ye, .inl (cI, 40, .inl (fun _ => 0))), (z, .inr (8, [.ref zb, .ref ze, .int 0, .int 0])), (zb, .inr (1, [.ref zr, .int 0])), (zr, .inl (cB, 400, .inl (fun _ => 0))), (ze, .inl (cI, 4, .inl (fun _ => 0))), (i, .inr (1, [.ref ir, .int 0])), (ir, .inl (cB, 60, .inl (fun _ => 0))), (ct, .inl (cI, 40, .inl (fun _ => 0))), (rd, .inr (7, [.ref im, .ref rp, .ref rr, .int 0, .int 0, .int 0])), (rp, .inr (6, [.ref im, .null, .int 0, .int 0, .int 0, .int 0])), (rr, .inl (cF, 99, .inr (.inr (.inr (.inr (fun _ => none))))))] := hD
  refine W.widen (k := 33) (n := 1467) (by decide) (by decide) ?_
  refine va_putF (D := D) (ci := 0) (v := .ref rd) (ty := .object "DiscMaker$Reader") (C := "DiscMaker") (T := F_DiscMaker) (N := 5) hx hb ht9 in_DiscMaker t_DiscMaker t_DiscMaker_ok n_DiscMaker hown hK hP hD hS 0 rfl rfl 4 (by decide) (ht9 _ k435) (fun _ h9 => h9) rfl hin rfl (by decide +kernel) rfl rfl (Nat.le_of_ble_eq_true rfl) d_DiscMaker_init_69 (fun H locs hP hD hS => ?_)
  have hP : va_P D CL [(h0, .inr (0, [.ref tx, .ref tr, .ref im, .ref mkr, .ref rd])), (tx, .inr (9, [.ref tq, .int 0])), (tq, .inl (cB, 400, .inl (fun _ => 0))), (tr, .inr (10, [.ref qa, .int 1, .int 1])), (qa, .inl (cN, 40, .inr (.inr (.inr (.inr (va_up (fun _ => none) 0 (some qn))))))), (qn, .inr (5, [.int 0, .ref qm, .ref qk, .ref qt, .int 0, .int 0, .int 0, .int 16877, .int 0, .int 0, .int 0, .int 0])), (qm, .inl (cB, 0, .inl (fun _ => 0))), (qt, .inl (cB, 0, .inl (fun _ => 0))), (qk, .inl (cB, 11, .inl (fun _ => 0))), (im, .inr (1, [.ref iq, .int 0])), (iq, .inl (cB, 0, .inl (fun _ => 0))), (mkr, .inr (4, [.ref tr, .ref im, .ref x, .ref y, .ref z, .ref i, .ref ct, .int 0, .int 0, .int 0])), (x, .inr (3, [.int 0, .int 16, .int 19, .ref xo, .ref xp, .ref xt, .ref xb, .ref xe, .int 0, .int 0])), (xo, .inl (cI, 40, .inl (fun _ => 0))), (xp, .inl (cI, 12, .inl (fun _ => 0))), (xt, .inl (cI, 40, .inl (fun _ => 0))), (xb, .inl (cI, 40, .inl (fun _ => 0))), (xe, .inl (cI, 40, .inl (fun _ => 0))), (y, .inr (3, [.int 1, .int 17, .int 21, .ref yo, .ref yp, .ref yt, .ref yb, .ref ye, .int 0, .int 0])), (yo, .inl (cI, 40, .inl (fun _ => 0))), (yp, .inl (cI, 12, .inl (fun _ => 0))), (yt, .inl (cI, 40, .inl (fun _ => 0))), (yb, .inl (cI, 40, .inl (fun _ => 0))), (ye, .inl (cI, 40, .inl (fun _ => 0))), (z, .inr (8, [.ref zb, .ref ze, .int 0, .int 0])), (zb, .inr (1, [.ref zr, .int 0])), (zr, .inl (cB, 400, .inl (fun _ => 0))), (ze, .inl (cI, 4, .inl (fun _ => 0))), (i, .inr (1, [.ref ir, .int 0])), (ir, .inl (cB, 60, .inl (fun _ => 0))), (ct, .inl (cI, 40, .inl (fun _ => 0))), (rd, .inr (7, [.ref im, .ref rp, .ref rr, .int 0, .int 0, .int 0])), (rp, .inr (6, [.ref im, .null, .int 0, .int 0, .int 0, .int 0])), (rr, .inl (cF, 99, .inr (.inr (.inr (.inr (fun _ => none))))))] H := hP
  have hD : va_D A [(h0, .inr (0, [.ref tx, .ref tr, .ref im, .ref mkr, .ref rd])), (tx, .inr (9, [.ref tq, .int 0])), (tq, .inl (cB, 400, .inl (fun _ => 0))), (tr, .inr (10, [.ref qa, .int 1, .int 1])), (qa, .inl (cN, 40, .inr (.inr (.inr (.inr (va_up (fun _ => none) 0 (some qn))))))), (qn, .inr (5, [.int 0, .ref qm, .ref qk, .ref qt, .int 0, .int 0, .int 0, .int 16877, .int 0, .int 0, .int 0, .int 0])), (qm, .inl (cB, 0, .inl (fun _ => 0))), (qt, .inl (cB, 0, .inl (fun _ => 0))), (qk, .inl (cB, 11, .inl (fun _ => 0))), (im, .inr (1, [.ref iq, .int 0])), (iq, .inl (cB, 0, .inl (fun _ => 0))), (mkr, .inr (4, [.ref tr, .ref im, .ref x, .ref y, .ref z, .ref i, .ref ct, .int 0, .int 0, .int 0])), (x, .inr (3, [.int 0, .int 16, .int 19, .ref xo, .ref xp, .ref xt, .ref xb, .ref xe, .int 0, .int 0])), (xo, .inl (cI, 40, .inl (fun _ => 0))), (xp, .inl (cI, 12, .inl (fun _ => 0))), (xt, .inl (cI, 40, .inl (fun _ => 0))), (xb, .inl (cI, 40, .inl (fun _ => 0))), (xe, .inl (cI, 40, .inl (fun _ => 0))), (y, .inr (3, [.int 1, .int 17, .int 21, .ref yo, .ref yp, .ref yt, .ref yb, .ref ye, .int 0, .int 0])), (yo, .inl (cI, 40, .inl (fun _ => 0))), (yp, .inl (cI, 12, .inl (fun _ => 0))), (yt, .inl (cI, 40, .inl (fun _ => 0))), (yb, .inl (cI, 40, .inl (fun _ => 0))), (ye, .inl (cI, 40, .inl (fun _ => 0))), (z, .inr (8, [.ref zb, .ref ze, .int 0, .int 0])), (zb, .inr (1, [.ref zr, .int 0])), (zr, .inl (cB, 400, .inl (fun _ => 0))), (ze, .inl (cI, 4, .inl (fun _ => 0))), (i, .inr (1, [.ref ir, .int 0])), (ir, .inl (cB, 60, .inl (fun _ => 0))), (ct, .inl (cI, 40, .inl (fun _ => 0))), (rd, .inr (7, [.ref im, .ref rp, .ref rr, .int 0, .int 0, .int 0])), (rp, .inr (6, [.ref im, .null, .int 0, .int 0, .int 0, .int 0])), (rr, .inl (cF, 99, .inr (.inr (.inr (.inr (fun _ => none))))))] := hD
  have hP9 := hP.sub (ws' := [(h0, .inr (0, [.ref tx, .ref tr, .ref im, .ref mkr, .ref rd])), (tx, .inr (9, [.ref tq, .int 0])), (tq, .inl (cB, 400, .inl (fun _ => 0))), (tr, .inr (10, [.ref qa, .int 1, .int 1])), (qa, .inl (cN, 40, .inr (.inr (.inr (.inr (va_up (fun _ => none) 0 (some qn))))))), (qn, .inr (5, [.int 0, .ref qm, .ref qk, .ref qt, .int 0, .int 0, .int 0, .int 16877, .int 0, .int 0, .int 0, .int 0])), (qm, .inl (cB, 0, .inl (fun _ => 0))), (qt, .inl (cB, 0, .inl (fun _ => 0))), (qk, .inl (cB, 11, .inl (fun _ => 0))), (im, .inr (1, [.ref iq, .int 0])), (iq, .inl (cB, 0, .inl (fun _ => 0))), (mkr, .inr (4, [.ref tr, .ref im, .ref x, .ref y, .ref z, .ref i, .ref ct, .int 0, .int 0, .int 0])), (x, .inr (3, [.int 0, .int 16, .int 19, .ref xo, .ref xp, .ref xt, .ref xb, .ref xe, .int 0, .int 0])), (xo, .inl (cI, 40, .inl (fun _ => 0))), (xp, .inl (cI, 12, .inl (fun _ => 0))), (xt, .inl (cI, 40, .inl (fun _ => 0))), (xb, .inl (cI, 40, .inl (fun _ => 0))), (xe, .inl (cI, 40, .inl (fun _ => 0))), (y, .inr (3, [.int 1, .int 17, .int 21, .ref yo, .ref yp, .ref yt, .ref yb, .ref ye, .int 0, .int 0])), (yo, .inl (cI, 40, .inl (fun _ => 0))), (yp, .inl (cI, 12, .inl (fun _ => 0))), (yt, .inl (cI, 40, .inl (fun _ => 0))), (yb, .inl (cI, 40, .inl (fun _ => 0))), (ye, .inl (cI, 40, .inl (fun _ => 0))), (z, .inr (8, [.ref zb, .ref ze, .int 0, .int 0])), (zb, .inr (1, [.ref zr, .int 0])), (zr, .inl (cB, 400, .inl (fun _ => 0))), (ze, .inl (cI, 4, .inl (fun _ => 0))), (i, .inr (1, [.ref ir, .int 0])), (ir, .inl (cB, 60, .inl (fun _ => 0))), (ct, .inl (cI, 40, .inl (fun _ => 0))), (rd, .inr (7, [.ref im, .ref rp, .ref rr, .int 0, .int 0, .int 0])), (rp, .inr (6, [.ref im, .null, .int 0, .int 0, .int 0, .int 0])), (rr, .inl (cF, 99, .inr (.inr (.inr (.inr (fun _ => none))))))]) [0, 1, 2, 3, 4, 5, 6, 7, 8, 9, 10, 11, 12, 13, 14, 15, 16, 17, 18, 19, 20, 21, 22, 23, 24, 25, 26, 27, 28, 29, 30, 31, 32, 33] rfl
  have hD9 := hD.sub (ws' := [(h0, .inr (0, [.ref tx, .ref tr, .ref im, .ref mkr, .ref rd])), (tx, .inr (9, [.ref tq, .int 0])), (tq, .inl (cB, 400, .inl (fun _ => 0))), (tr, .inr (10, [.ref qa, .int 1, .int 1])), (qa, .inl (cN, 40, .inr (.inr (.inr (.inr (va_up (fun _ => none) 0 (some qn))))))), (qn, .inr (5, [.int 0, .ref qm, .ref qk, .ref qt, .int 0, .int 0, .int 0, .int 16877, .int 0, .int 0, .int 0, .int 0])), (qm, .inl (cB, 0, .inl (fun _ => 0))), (qt, .inl (cB, 0, .inl (fun _ => 0))), (qk, .inl (cB, 11, .inl (fun _ => 0))), (im, .inr (1, [.ref iq, .int 0])), (iq, .inl (cB, 0, .inl (fun _ => 0))), (mkr, .inr (4, [.ref tr, .ref im, .ref x, .ref y, .ref z, .ref i, .ref ct, .int 0, .int 0, .int 0])), (x, .inr (3, [.int 0, .int 16, .int 19, .ref xo, .ref xp, .ref xt, .ref xb, .ref xe, .int 0, .int 0])), (xo, .inl (cI, 40, .inl (fun _ => 0))), (xp, .inl (cI, 12, .inl (fun _ => 0))), (xt, .inl (cI, 40, .inl (fun _ => 0))), (xb, .inl (cI, 40, .inl (fun _ => 0))), (xe, .inl (cI, 40, .inl (fun _ => 0))), (y, .inr (3, [.int 1, .int 17, .int 21, .ref yo, .ref yp, .ref yt, .ref yb, .ref ye, .int 0, .int 0])), (yo, .inl (cI, 40, .inl (fun _ => 0))), (yp, .inl (cI, 12, .inl (fun _ => 0))), (yt, .inl (cI, 40, .inl (fun _ => 0))), (yb, .inl (cI, 40, .inl (fun _ => 0))), (ye, .inl (cI, 40, .inl (fun _ => 0))), (z, .inr (8, [.ref zb, .ref ze, .int 0, .int 0])), (zb, .inr (1, [.ref zr, .int 0])), (zr, .inl (cB, 400, .inl (fun _ => 0))), (ze, .inl (cI, 4, .inl (fun _ => 0))), (i, .inr (1, [.ref ir, .int 0])), (ir, .inl (cB, 60, .inl (fun _ => 0))), (ct, .inl (cI, 40, .inl (fun _ => 0))), (rd, .inr (7, [.ref im, .ref rp, .ref rr, .int 0, .int 0, .int 0])), (rp, .inr (6, [.ref im, .null, .int 0, .int 0, .int 0, .int 0])), (rr, .inl (cF, 99, .inr (.inr (.inr (.inr (fun _ => none))))))]) [0, 1, 2, 3, 4, 5, 6, 7, 8, 9, 10, 11, 12, 13, 14, 15, 16, 17, 18, 19, 20, 21, 22, 23, 24, 25, 26, 27, 28, 29, 30, 31, 32, 33] (by decide) rfl
  exact W.vret hx hb hr (fun t ht hW => ⟨⟨(tx, tq, tr, qa, qn, qm, qt, qk, im, iq, mkr, x, xo, xp, xt, xb, xe, y, yo, yp, yt, yb, ye, z, zb, zr, ze, i, ir, ct, rd, rr, rp), rfl, trivial, by rw [ht]; exact hP9, hD9⟩, hS.F ht⟩) hS.2.2 d_DiscMaker_init_72
