theorem d_Text_init_0 : decode b_Text_init 0 = .ok (.aload_n 0, 1) := by decide +kernel
theorem d_Text_init_1 : decode b_Text_init 1 = .ok (.invokespecial 3, 3) := by decide +kernel
theorem d_Text_init_4 : decode b_Text_init 4 = .ok (.aload_n 0, 1) := by decide +kernel
theorem d_Text_init_5 : decode b_Text_init 5 = .ok (.sipush 400, 3) := by decide +kernel
theorem d_Text_init_8 : decode b_Text_init 8 = .ok (.newarray .byte, 2) := by decide +kernel
theorem d_Text_init_10 : decode b_Text_init 10 = .ok (.putfield 9, 3) := by decide +kernel
theorem d_Text_init_13 : decode b_Text_init 13 = .ok (.return_, 1) := by decide +kernel
set_option maxHeartbeats 4000000 in
set_option maxRecDepth 100000 in
theorem c_Text_init (l : Launch) (D : va_G) (cB cI cJ cZ cN cF : ClassId) (sz : Nat) (h0 : Nat) : Met l y_Text_init w_Text_init ({ frames := 1, cells := 1, slots := 400, locals := 24 }) (va_Pc [.ref h0] (fun U => U.heap.size = sz ∧ va_P D CL [(h0, .inr (9, [.null, .int 0]))] U.heap ∧ va_K D CL (TY cB cI cJ cZ cN cF) U ∧ NN U ∧ va_D (fun _ => True) [(h0, .inr (9, [.null, .int 0]))])) (va_Qv (fun (u : Nat) => True) (fun (u : Nat) (t : State) => match u with | q => va_P D CL [(h0, .inr (9, [.ref q, .int 0])), (q, .inl (cB, 400, .inl (fun _ => 0)))] t.heap ∧ va_D (va_A [(h0, .inr (9, [.null, .int 0]))] sz) [(h0, .inr (9, [.ref q, .int 0])), (q, .inl (cB, 400, .inl (fun _ => 0)))]) (va_A [(h0, .inr (9, [.null, .int 0]))] sz)) 1 400 (va_A [(h0, .inr (9, [.null, .int 0]))] sz) := by
  refine Met.ofW (cc := b_Text_init) (maxL := 1) (ret := none) (by decide) rfl ?_
  intro p e s m args below meth c s₁ B hml hv
  obtain ⟨rfl, hsz, hP, hK, hN, hD0⟩ := hv
  have hx := B.exec
  have hb := B.bytes
  have hr := B.returns
  have hts := atoms_spec (ws := w_Text_init) B.pre
  have ht9 := fun (w : Cond) (h : w ∈ lw_g) => hts w (List.mem_cons_of_mem _ h)
  have hown : s.vm.findClass "DiscMaker$Text" = some m.cls := findClass_of_methodNamed B.named
  have hlocks := B.notSynchronized
  have hin : meth.name = "<init>" := (name_of_methodNamed B.named B.method).1
  subst hsz
  have hD := hD0.self (sz := s.heap.size)
  generalize hAe : va_A [(h0, .inr (9, [.null, .int 0]))] s.heap.size = A at hD ⊢
  have hA : ∀ q : Nat, s.heap.size ≤ q → A q := fun q h => by rw [← hAe]; exact Or.inr h
  have hS : va_S A s.heap s.heap [] := va_S.rf
  have hP : va_P D CL [(h0, .inr (9, [.null, .int 0]))] s.heap := hP
  have hl := lv_entry [.ref h0] (n := 1) (Nat.le_of_ble_eq_true rfl)
  rw [lg_entry_eq]
  generalize (lg_sl [.ref h0] ++ List.replicate (1 - (lg_sl [.ref h0]).length) Slot.unset).toArray = ls at hl ⊢
  have hl : lv_has ls 1 [(0, .ref h0)] := hl
  refine lv_aload_n hx hb d_Text_init_0 rfl (lv_at hl 0 rfl) ?_
  refine W.objInit hx hb hown (ht9 _ k156) (ht9 _ k149) (ht9 _ kObj) rfl (by rw [hml]; exact hl.1) rfl d_Text_init_1 (Nat.le_of_ble_eq_true rfl) (Nat.le_of_ble_eq_true rfl) ?_
  refine W.eq (g2 := F0 m 4 ls []) rfl ?_
  refine lv_aload_n hx hb d_Text_init_4 rfl (lv_at hl 0 rfl) ?_
  refine lv_sipush (v := 400) hx hb d_Text_init_5 (by decide) ?_
  have hc_8 : 1 ≤ 1 := by decide
  have hs_8 : 400 ≤ 400 := by decide
  refine zz_newa (atype := .byte) (cK := cB) (ty := .byte) (N' := 400) (a0 := (400, .inl (fun _ => 0))) 0 (fun _ _ _ h1 h2 => Option.some.inj (h1.symm.trans h2)) rfl hx hb (ht9 _ k164) rfl hK hP hD hS hA (fun _ => rfl) (by decide) (by decide) (by decide) hc_8 hs_8 d_Text_init_8 (fun q H hP hD hS => ?_)
  have hP : va_P D CL [(h0, .inr (9, [.null, .int 0])), (q, .inl (cB, 400, .inl (fun _ => 0)))] H := hP
  have hD : va_D A [(h0, .inr (9, [.null, .int 0])), (q, .inl (cB, 400, .inl (fun _ => 0)))] := hD
  refine W.widen (k := 1) (n := 400) (by decide) (by decide) ?_
  refine va_putF (D := D) (ci := 9) (v := .ref q) (ty := .array .byte) (C := "DiscMaker$Text") (T := F_Text) (N := 2) hx hb ht9 in_Text t_Text t_Text_ok n_Text hown hK hP hD hS 0 rfl rfl 0 (by decide) (ht9 _ k157) (fun _ h9 => h9) rfl hin rfl (by decide +kernel) rfl rfl (Nat.le_of_ble_eq_true rfl) d_Text_init_10 (fun H locs hP hD hS => ?_)
  have hP : va_P D CL [(h0, .inr (9, [.ref q, .int 0])), (q, .inl (cB, 400, .inl (fun _ => 0)))] H := hP
  have hD : va_D A [(h0, .inr (9, [.ref q, .int 0])), (q, .inl (cB, 400, .inl (fun _ => 0)))] := hD
  have hP9 := hP.sub (ws' := [(h0, .inr (9, [.ref q, .int 0])), (q, .inl (cB, 400, .inl (fun _ => 0)))]) [0, 1] rfl
  have hD9 := hD.sub (ws' := [(h0, .inr (9, [.ref q, .int 0])), (q, .inl (cB, 400, .inl (fun _ => 0)))]) [0, 1] (by decide) rfl
  exact W.vret hx hb hr (fun t ht hW => ⟨⟨q, rfl, trivial, by rw [ht]; exact hP9, hD9⟩, hS.F ht⟩) hS.2.2 d_Text_init_13

theorem d_Bytes_init_0 : decode b_Bytes_init 0 = .ok (.aload_n 0, 1) := by decide +kernel
theorem d_Bytes_init_1 : decode b_Bytes_init 1 = .ok (.invokespecial 1, 3) := by decide +kernel
theorem d_Bytes_init_4 : decode b_Bytes_init 4 = .ok (.aload_n 0, 1) := by decide +kernel
theorem d_Bytes_init_5 : decode b_Bytes_init 5 = .ok (.iload_n 1, 1) := by decide +kernel
theorem d_Bytes_init_6 : decode b_Bytes_init 6 = .ok (.newarray .byte, 2) := by decide +kernel
theorem d_Bytes_init_8 : decode b_Bytes_init 8 = .ok (.putfield 7, 3) := by decide +kernel
theorem d_Bytes_init_11 : decode b_Bytes_init 11 = .ok (.return_, 1) := by decide +kernel
set_option maxHeartbeats 4000000 in
set_option maxRecDepth 100000 in
theorem c_Bytes_init_0 (l : Launch) (D : va_G) (cB cI cJ cZ cN cF : ClassId) (sz : Nat) (h0 : Nat) : Met l y_Bytes_init w_Bytes_init ({ frames := 1, cells := 1, slots := 0, locals := 24 }) (va_Pc [.ref h0, .int 0] (fun U => U.heap.size = sz ∧ va_P D CL [(h0, .inr (1, [.null, .int 0]))] U.heap ∧ va_K D CL (TY cB cI cJ cZ cN cF) U ∧ NN U ∧ va_D (fun _ => True) [(h0, .inr (1, [.null, .int 0]))])) (va_Qv (fun (u : Nat) => True) (fun (u : Nat) (t : State) => match u with | q => va_P D CL [(h0, .inr (1, [.ref q, .int 0])), (q, .inl (cB, 0, .inl (fun _ => 0)))] t.heap ∧ va_D (va_A [(h0, .inr (1, [.null, .int 0]))] sz) [(h0, .inr (1, [.ref q, .int 0])), (q, .inl (cB, 0, .inl (fun _ => 0)))]) (va_A [(h0, .inr (1, [.null, .int 0]))] sz)) 1 0 (va_A [(h0, .inr (1, [.null, .int 0]))] sz) := by
  refine Met.ofW (cc := b_Bytes_init) (maxL := 2) (ret := none) (by decide) rfl ?_
  intro p e s m args below meth c s₁ B hml hv
  obtain ⟨rfl, hsz, hP, hK, hN, hD0⟩ := hv
  have hx := B.exec
  have hb := B.bytes
  have hr := B.returns
  have hts := atoms_spec (ws := w_Bytes_init) B.pre
  have ht9 := fun (w : Cond) (h : w ∈ lw_g) => hts w (List.mem_cons_of_mem _ h)
  have hown : s.vm.findClass "DiscMaker$Bytes" = some m.cls := findClass_of_methodNamed B.named
  have hlocks := B.notSynchronized
  have hin : meth.name = "<init>" := (name_of_methodNamed B.named B.method).1
  subst hsz
  have hD := hD0.self (sz := s.heap.size)
  generalize hAe : va_A [(h0, .inr (1, [.null, .int 0]))] s.heap.size = A at hD ⊢
  have hA : ∀ q : Nat, s.heap.size ≤ q → A q := fun q h => by rw [← hAe]; exact Or.inr h
  have hS : va_S A s.heap s.heap [] := va_S.rf
  have hP : va_P D CL [(h0, .inr (1, [.null, .int 0]))] s.heap := hP
  have hl := lv_entry [.ref h0, .int 0] (n := 2) (Nat.le_of_ble_eq_true rfl)
  rw [lg_entry_eq]
  generalize (lg_sl [.ref h0, .int 0] ++ List.replicate (2 - (lg_sl [.ref h0, .int 0]).length) Slot.unset).toArray = ls at hl ⊢
  have hl : lv_has ls 2 [(0, .ref h0), (1, .int 0)] := hl
  refine lv_aload_n hx hb d_Bytes_init_0 rfl (lv_at hl 0 rfl) ?_
  refine W.objInit hx hb hown (ht9 _ k255) (ht9 _ k149) (ht9 _ kObj) rfl (by rw [hml]; exact hl.1) rfl d_Bytes_init_1 (Nat.le_of_ble_eq_true rfl) (Nat.le_of_ble_eq_true rfl) ?_
  refine W.eq (g2 := F0 m 4 ls []) rfl ?_
  refine lv_aload_n hx hb d_Bytes_init_4 rfl (lv_at hl 0 rfl) ?_
  refine lv_iload_n hx hb d_Bytes_init_5 rfl (lv_at hl 1 rfl) ?_
  have hc_6 : 1 ≤ 1 := by decide
  have hs_6 : 0 ≤ 0 := by decide
  refine zz_newa (atype := .byte) (cK := cB) (ty := .byte) (N' := 0) (a0 := (0, .inl (fun _ => 0))) 0 (fun _ _ _ h1 h2 => Option.some.inj (h1.symm.trans h2)) rfl hx hb (ht9 _ k164) rfl hK hP hD hS hA (fun _ => rfl) (by decide) (by decide) (by decide) hc_6 hs_6 d_Bytes_init_6 (fun q H hP hD hS => ?_)
  have hP : va_P D CL [(h0, .inr (1, [.null, .int 0])), (q, .inl (cB, 0, .inl (fun _ => 0)))] H := hP
  have hD : va_D A [(h0, .inr (1, [.null, .int 0])), (q, .inl (cB, 0, .inl (fun _ => 0)))] := hD
  refine W.widen (k := 1) (n := 0) (by decide) (by decide) ?_
  refine va_put (D := D) (ci := 1) (v := .ref q) (ty := .array .byte) (C := "DiscMaker$Bytes") (T := F_Bytes) (N := 2) hx hb ht9 in_Bytes t_Bytes t_Bytes_ok n_Bytes hown hK hP hD hS 0 rfl rfl 0 (by decide) (ht9 _ k256) (fun _ h9 => h9) rfl (by decide +kernel) rfl rfl (Nat.le_of_ble_eq_true rfl) d_Bytes_init_8 (fun H locs hP hD hS => ?_)
  have hP : va_P D CL [(h0, .inr (1, [.ref q, .int 0])), (q, .inl (cB, 0, .inl (fun _ => 0)))] H := hP
  have hD : va_D A [(h0, .inr (1, [.ref q, .int 0])), (q, .inl (cB, 0, .inl (fun _ => 0)))] := hD
  have hP9 := hP.sub (ws' := [(h0, .inr (1, [.ref q, .int 0])), (q, .inl (cB, 0, .inl (fun _ => 0)))]) [0, 1] rfl
  have hD9 := hD.sub (ws' := [(h0, .inr (1, [.ref q, .int 0])), (q, .inl (cB, 0, .inl (fun _ => 0)))]) [0, 1] (by decide) rfl
  exact W.vret hx hb hr (fun t ht hW => ⟨⟨q, rfl, trivial, by rw [ht]; exact hP9, hD9⟩, hS.F ht⟩) hS.2.2 d_Bytes_init_11

set_option maxHeartbeats 4000000 in
set_option maxRecDepth 100000 in
theorem c_Bytes_init_60 (l : Launch) (D : va_G) (cB cI cJ cZ cN cF : ClassId) (sz : Nat) (h0 : Nat) : Met l y_Bytes_init w_Bytes_init ({ frames := 1, cells := 1, slots := 60, locals := 24 }) (va_Pc [.ref h0, .int 60] (fun U => U.heap.size = sz ∧ va_P D CL [(h0, .inr (1, [.null, .int 0]))] U.heap ∧ va_K D CL (TY cB cI cJ cZ cN cF) U ∧ NN U ∧ va_D (fun _ => True) [(h0, .inr (1, [.null, .int 0]))])) (va_Qv (fun (u : Nat) => True) (fun (u : Nat) (t : State) => match u with | q => va_P D CL [(h0, .inr (1, [.ref q, .int 0])), (q, .inl (cB, 60, .inl (fun _ => 0)))] t.heap ∧ va_D (va_A [(h0, .inr (1, [.null, .int 0]))] sz) [(h0, .inr (1, [.ref q, .int 0])), (q, .inl (cB, 60, .inl (fun _ => 0)))]) (va_A [(h0, .inr (1, [.null, .int 0]))] sz)) 1 60 (va_A [(h0, .inr (1, [.null, .int 0]))] sz) := by
  refine Met.ofW (cc := b_Bytes_init) (maxL := 2) (ret := none) (by decide) rfl ?_
  intro p e s m args below meth c s₁ B hml hv
  obtain ⟨rfl, hsz, hP, hK, hN, hD0⟩ := hv
  have hx := B.exec
  have hb := B.bytes
  have hr := B.returns
  have hts := atoms_spec (ws := w_Bytes_init) B.pre
  have ht9 := fun (w : Cond) (h : w ∈ lw_g) => hts w (List.mem_cons_of_mem _ h)
  have hown : s.vm.findClass "DiscMaker$Bytes" = some m.cls := findClass_of_methodNamed B.named
  have hlocks := B.notSynchronized
  have hin : meth.name = "<init>" := (name_of_methodNamed B.named B.method).1
  subst hsz
  have hD := hD0.self (sz := s.heap.size)
  generalize hAe : va_A [(h0, .inr (1, [.null, .int 0]))] s.heap.size = A at hD ⊢
  have hA : ∀ q : Nat, s.heap.size ≤ q → A q := fun q h => by rw [← hAe]; exact Or.inr h
  have hS : va_S A s.heap s.heap [] := va_S.rf
  have hP : va_P D CL [(h0, .inr (1, [.null, .int 0]))] s.heap := hP
  have hl := lv_entry [.ref h0, .int 60] (n := 2) (Nat.le_of_ble_eq_true rfl)
  rw [lg_entry_eq]
  generalize (lg_sl [.ref h0, .int 60] ++ List.replicate (2 - (lg_sl [.ref h0, .int 60]).length) Slot.unset).toArray = ls at hl ⊢
  have hl : lv_has ls 2 [(0, .ref h0), (1, .int 60)] := hl
  refine lv_aload_n hx hb d_Bytes_init_0 rfl (lv_at hl 0 rfl) ?_
  refine W.objInit hx hb hown (ht9 _ k255) (ht9 _ k149) (ht9 _ kObj) rfl (by rw [hml]; exact hl.1) rfl d_Bytes_init_1 (Nat.le_of_ble_eq_true rfl) (Nat.le_of_ble_eq_true rfl) ?_
  refine W.eq (g2 := F0 m 4 ls []) rfl ?_
  refine lv_aload_n hx hb d_Bytes_init_4 rfl (lv_at hl 0 rfl) ?_
  refine lv_iload_n hx hb d_Bytes_init_5 rfl (lv_at hl 1 rfl) ?_
  have hc_6 : 1 ≤ 1 := by decide
  have hs_6 : 60 ≤ 60 := by decide
  refine zz_newa (atype := .byte) (cK := cB) (ty := .byte) (N' := 60) (a0 := (60, .inl (fun _ => 0))) 0 (fun _ _ _ h1 h2 => Option.some.inj (h1.symm.trans h2)) rfl hx hb (ht9 _ k164) rfl hK hP hD hS hA (fun _ => rfl) (by decide) (by decide) (by decide) hc_6 hs_6 d_Bytes_init_6 (fun q H hP hD hS => ?_)
  have hP : va_P D CL [(h0, .inr (1, [.null, .int 0])), (q, .inl (cB, 60, .inl (fun _ => 0)))] H := hP
  have hD : va_D A [(h0, .inr (1, [.null, .int 0])), (q, .inl (cB, 60, .inl (fun _ => 0)))] := hD
  refine W.widen (k := 1) (n := 60) (by decide) (by decide) ?_
  refine va_put (D := D) (ci := 1) (v := .ref q) (ty := .array .byte) (C := "DiscMaker$Bytes") (T := F_Bytes) (N := 2) hx hb ht9 in_Bytes t_Bytes t_Bytes_ok n_Bytes hown hK hP hD hS 0 rfl rfl 0 (by decide) (ht9 _ k256) (fun _ h9 => h9) rfl (by decide +kernel) rfl rfl (Nat.le_of_ble_eq_true rfl) d_Bytes_init_8 (fun H locs hP hD hS => ?_)
  have hP : va_P D CL [(h0, .inr (1, [.ref q, .int 0])), (q, .inl (cB, 60, .inl (fun _ => 0)))] H := hP
  have hD : va_D A [(h0, .inr (1, [.ref q, .int 0])), (q, .inl (cB, 60, .inl (fun _ => 0)))] := hD
  have hP9 := hP.sub (ws' := [(h0, .inr (1, [.ref q, .int 0])), (q, .inl (cB, 60, .inl (fun _ => 0)))]) [0, 1] rfl
  have hD9 := hD.sub (ws' := [(h0, .inr (1, [.ref q, .int 0])), (q, .inl (cB, 60, .inl (fun _ => 0)))]) [0, 1] (by decide) rfl
  exact W.vret hx hb hr (fun t ht hW => ⟨⟨q, rfl, trivial, by rw [ht]; exact hP9, hD9⟩, hS.F ht⟩) hS.2.2 d_Bytes_init_11

set_option maxHeartbeats 4000000 in
set_option maxRecDepth 100000 in
theorem c_Bytes_init_400 (l : Launch) (D : va_G) (cB cI cJ cZ cN cF : ClassId) (sz : Nat) (h0 : Nat) : Met l y_Bytes_init w_Bytes_init ({ frames := 1, cells := 1, slots := 400, locals := 24 }) (va_Pc [.ref h0, .int 400] (fun U => U.heap.size = sz ∧ va_P D CL [(h0, .inr (1, [.null, .int 0]))] U.heap ∧ va_K D CL (TY cB cI cJ cZ cN cF) U ∧ NN U ∧ va_D (fun _ => True) [(h0, .inr (1, [.null, .int 0]))])) (va_Qv (fun (u : Nat) => True) (fun (u : Nat) (t : State) => match u with | q => va_P D CL [(h0, .inr (1, [.ref q, .int 0])), (q, .inl (cB, 400, .inl (fun _ => 0)))] t.heap ∧ va_D (va_A [(h0, .inr (1, [.null, .int 0]))] sz) [(h0, .inr (1, [.ref q, .int 0])), (q, .inl (cB, 400, .inl (fun _ => 0)))]) (va_A [(h0, .inr (1, [.null, .int 0]))] sz)) 1 400 (va_A [(h0, .inr (1, [.null, .int 0]))] sz) := by
  refine Met.ofW (cc := b_Bytes_init) (maxL := 2) (ret := none) (by decide) rfl ?_
  intro p e s m args below meth c s₁ B hml hv
  obtain ⟨rfl, hsz, hP, hK, hN, hD0⟩ := hv
  have hx := B.exec
  have hb := B.bytes
  have hr := B.returns
  have hts := atoms_spec (ws := w_Bytes_init) B.pre
  have ht9 := fun (w : Cond) (h : w ∈ lw_g) => hts w (List.mem_cons_of_mem _ h)
  have hown : s.vm.findClass "DiscMaker$Bytes" = some m.cls := findClass_of_methodNamed B.named
  have hlocks := B.notSynchronized
  have hin : meth.name = "<init>" := (name_of_methodNamed B.named B.method).1
  subst hsz
  have hD := hD0.self (sz := s.heap.size)
  generalize hAe : va_A [(h0, .inr (1, [.null, .int 0]))] s.heap.size = A at hD ⊢
  have hA : ∀ q : Nat, s.heap.size ≤ q → A q := fun q h => by rw [← hAe]; exact Or.inr h
  have hS : va_S A s.heap s.heap [] := va_S.rf
  have hP : va_P D CL [(h0, .inr (1, [.null, .int 0]))] s.heap := hP
  have hl := lv_entry [.ref h0, .int 400] (n := 2) (Nat.le_of_ble_eq_true rfl)
  rw [lg_entry_eq]
  generalize (lg_sl [.ref h0, .int 400] ++ List.replicate (2 - (lg_sl [.ref h0, .int 400]).length) Slot.unset).toArray = ls at hl ⊢
  have hl : lv_has ls 2 [(0, .ref h0), (1, .int 400)] := hl
  refine lv_aload_n hx hb d_Bytes_init_0 rfl (lv_at hl 0 rfl) ?_
  refine W.objInit hx hb hown (ht9 _ k255) (ht9 _ k149) (ht9 _ kObj) rfl (by rw [hml]; exact hl.1) rfl d_Bytes_init_1 (Nat.le_of_ble_eq_true rfl) (Nat.le_of_ble_eq_true rfl) ?_
  refine W.eq (g2 := F0 m 4 ls []) rfl ?_
  refine lv_aload_n hx hb d_Bytes_init_4 rfl (lv_at hl 0 rfl) ?_
  refine lv_iload_n hx hb d_Bytes_init_5 rfl (lv_at hl 1 rfl) ?_
  have hc_6 : 1 ≤ 1 := by decide
  have hs_6 : 400 ≤ 400 := by decide
  refine zz_newa (atype := .byte) (cK := cB) (ty := .byte) (N' := 400) (a0 := (400, .inl (fun _ => 0))) 0 (fun _ _ _ h1 h2 => Option.some.inj (h1.symm.trans h2)) rfl hx hb (ht9 _ k164) rfl hK hP hD hS hA (fun _ => rfl) (by decide) (by decide) (by decide) hc_6 hs_6 d_Bytes_init_6 (fun q H hP hD hS => ?_)
  have hP : va_P D CL [(h0, .inr (1, [.null, .int 0])), (q, .inl (cB, 400, .inl (fun _ => 0)))] H := hP
  have hD : va_D A [(h0, .inr (1, [.null, .int 0])), (q, .inl (cB, 400, .inl (fun _ => 0)))] := hD
  refine W.widen (k := 1) (n := 400) (by decide) (by decide) ?_
  refine va_put (D := D) (ci := 1) (v := .ref q) (ty := .array .byte) (C := "DiscMaker$Bytes") (T := F_Bytes) (N := 2) hx hb ht9 in_Bytes t_Bytes t_Bytes_ok n_Bytes hown hK hP hD hS 0 rfl rfl 0 (by decide) (ht9 _ k256) (fun _ h9 => h9) rfl (by decide +kernel) rfl rfl (Nat.le_of_ble_eq_true rfl) d_Bytes_init_8 (fun H locs hP hD hS => ?_)
  have hP : va_P D CL [(h0, .inr (1, [.ref q, .int 0])), (q, .inl (cB, 400, .inl (fun _ => 0)))] H := hP
  have hD : va_D A [(h0, .inr (1, [.ref q, .int 0])), (q, .inl (cB, 400, .inl (fun _ => 0)))] := hD
  have hP9 := hP.sub (ws' := [(h0, .inr (1, [.ref q, .int 0])), (q, .inl (cB, 400, .inl (fun _ => 0)))]) [0, 1] rfl
  have hD9 := hD.sub (ws' := [(h0, .inr (1, [.ref q, .int 0])), (q, .inl (cB, 400, .inl (fun _ => 0)))]) [0, 1] (by decide) rfl
  exact W.vret hx hb hr (fun t ht hW => ⟨⟨q, rfl, trivial, by rw [ht]; exact hP9, hD9⟩, hS.F ht⟩) hS.2.2 d_Bytes_init_11

theorem d_Layout_init_0 : decode b_Layout_init 0 = .ok (.aload_n 0, 1) := by decide +kernel
theorem d_Layout_init_1 : decode b_Layout_init 1 = .ok (.invokespecial 3, 3) := by decide +kernel
theorem d_Layout_init_4 : decode b_Layout_init 4 = .ok (.aload_n 0, 1) := by decide +kernel
theorem d_Layout_init_5 : decode b_Layout_init 5 = .ok (.bipush 40, 2) := by decide +kernel
theorem d_Layout_init_7 : decode b_Layout_init 7 = .ok (.newarray .int, 2) := by decide +kernel
theorem d_Layout_init_9 : decode b_Layout_init 9 = .ok (.putfield 9, 3) := by decide +kernel
theorem d_Layout_init_12 : decode b_Layout_init 12 = .ok (.aload_n 0, 1) := by decide +kernel
theorem d_Layout_init_13 : decode b_Layout_init 13 = .ok (.bipush 12, 2) := by decide +kernel
theorem d_Layout_init_15 : decode b_Layout_init 15 = .ok (.newarray .int, 2) := by decide +kernel
theorem d_Layout_init_17 : decode b_Layout_init 17 = .ok (.putfield 15, 3) := by decide +kernel
theorem d_Layout_init_20 : decode b_Layout_init 20 = .ok (.aload_n 0, 1) := by decide +kernel
theorem d_Layout_init_21 : decode b_Layout_init 21 = .ok (.bipush 40, 2) := by decide +kernel
theorem d_Layout_init_23 : decode b_Layout_init 23 = .ok (.newarray .int, 2) := by decide +kernel
theorem d_Layout_init_25 : decode b_Layout_init 25 = .ok (.putfield 18, 3) := by decide +kernel
theorem d_Layout_init_28 : decode b_Layout_init 28 = .ok (.aload_n 0, 1) := by decide +kernel
theorem d_Layout_init_29 : decode b_Layout_init 29 = .ok (.bipush 40, 2) := by decide +kernel
theorem d_Layout_init_31 : decode b_Layout_init 31 = .ok (.newarray .int, 2) := by decide +kernel
theorem d_Layout_init_33 : decode b_Layout_init 33 = .ok (.putfield 21, 3) := by decide +kernel
theorem d_Layout_init_36 : decode b_Layout_init 36 = .ok (.aload_n 0, 1) := by decide +kernel
theorem d_Layout_init_37 : decode b_Layout_init 37 = .ok (.bipush 40, 2) := by decide +kernel
theorem d_Layout_init_39 : decode b_Layout_init 39 = .ok (.newarray .int, 2) := by decide +kernel
theorem d_Layout_init_41 : decode b_Layout_init 41 = .ok (.putfield 24, 3) := by decide +kernel
theorem d_Layout_init_44 : decode b_Layout_init 44 = .ok (.aload_n 0, 1) := by decide +kernel
theorem d_Layout_init_45 : decode b_Layout_init 45 = .ok (.iload_n 1, 1) := by decide +kernel
theorem d_Layout_init_46 : decode b_Layout_init 46 = .ok (.putfield 27, 3) := by decide +kernel
theorem d_Layout_init_49 : decode b_Layout_init 49 = .ok (.aload_n 0, 1) := by decide +kernel
theorem d_Layout_init_50 : decode b_Layout_init 50 = .ok (.iload_n 2, 1) := by decide +kernel
theorem d_Layout_init_51 : decode b_Layout_init 51 = .ok (.putfield 31, 3) := by decide +kernel
theorem d_Layout_init_54 : decode b_Layout_init 54 = .ok (.aload_n 0, 1) := by decide +kernel
theorem d_Layout_init_55 : decode b_Layout_init 55 = .ok (.iload_n 3, 1) := by decide +kernel
theorem d_Layout_init_56 : decode b_Layout_init 56 = .ok (.putfield 35, 3) := by decide +kernel
theorem d_Layout_init_59 : decode b_Layout_init 59 = .ok (.return_, 1) := by decide +kernel
set_option maxHeartbeats 4000000 in
set_option maxRecDepth 100000 in
theorem c_Layout_init_1 (l : Launch) (D : va_G) (cB cI cJ cZ cN cF : ClassId) (sz : Nat) (h0 : Nat) : Met l y_Layout_init w_Layout_init ({ frames := 1, cells := 5, slots := 172, locals := 24 }) (va_Pc [.ref h0, .int 0, .int 16, .int 19] (fun U => U.heap.size = sz ∧ va_P D CL [(h0, .inr (3, [.int 0, .int 0, .int 0, .null, .null, .null, .null, .null, .int 0, .int 0]))] U.heap ∧ va_K D CL (TY cB cI cJ cZ cN cF) U ∧ NN U ∧ va_D (fun _ => True) [(h0, .inr (3, [.int 0, .int 0, .int 0, .null, .null, .null, .null, .null, .int 0, .int 0]))])) (va_Qv (fun (u : Nat × Nat × Nat × Nat × Nat) => True) (fun (u : Nat × Nat × Nat × Nat × Nat) (t : State) => match u with | (qo, qp, qt, qb, qe) => va_P D CL [(h0, .inr (3, [.int 0, .int 16, .int 19, .ref qo, .ref qp, .ref qt, .ref qb, .ref qe, .int 0, .int 0])), (qo, .inl (cI, 40, .inl (fun _ => 0))), (qp, .inl (cI, 12, .inl (fun _ => 0))), (qt, .inl (cI, 40, .inl (fun _ => 0))), (qb, .inl (cI, 40, .inl (fun _ => 0))), (qe, .inl (cI, 40, .inl (fun _ => 0)))] t.heap ∧ va_D (va_A [(h0, .inr (3, [.int 0, .int 0, .int 0, .null, .null, .null, .null, .null, .int 0, .int 0]))] sz) [(h0, .inr (3, [.int 0, .int 16, .int 19, .ref qo, .ref qp, .ref qt, .ref qb, .ref qe, .int 0, .int 0])), (qo, .inl (cI, 40, .inl (fun _ => 0))), (qp, .inl (cI, 12, .inl (fun _ => 0))), (qt, .inl (cI, 40, .inl (fun _ => 0))), (qb, .inl (cI, 40, .inl (fun _ => 0))), (qe, .inl (cI, 40, .inl (fun _ => 0)))]) (va_A [(h0, .inr (3, [.int 0, .int 0, .int 0, .null, .null, .null, .null, .null, .int 0, .int 0]))] sz)) 5 172 (va_A [(h0, .inr (3, [.int 0, .int 0, .int 0, .null, .null, .null, .null, .null, .int 0, .int 0]))] sz) := by
  refine Met.ofW (cc := b_Layout_init) (maxL := 4) (ret := none) (by decide) rfl ?_
  intro p e s m args below meth c s₁ B hml hv
  obtain ⟨rfl, hsz, hP, hK, hN, hD0⟩ := hv
  have hx := B.exec
  have hb := B.bytes
  have hr := B.returns
  have hts := atoms_spec (ws := w_Layout_init) B.pre
  have ht9 := fun (w : Cond) (h : w ∈ lw_g) => hts w (List.mem_cons_of_mem _ h)
  have hown : s.vm.findClass "DiscMaker$Layout" = some m.cls := findClass_of_methodNamed B.named
  have hlocks := B.notSynchronized
  have hin : meth.name = "<init>" := (name_of_methodNamed B.named B.method).1
  subst hsz
  have hD := hD0.self (sz := s.heap.size)
  generalize hAe : va_A [(h0, .inr (3, [.int 0, .int 0, .int 0, .null, .null, .null, .null, .null, .int 0, .int 0]))] s.heap.size = A at hD ⊢
  have hA : ∀ q : Nat, s.heap.size ≤ q → A q := fun q h => by rw [← hAe]; exact Or.inr h
  have hS : va_S A s.heap s.heap [] := va_S.rf
  have hP : va_P D CL [(h0, .inr (3, [.int 0, .int 0, .int 0, .null, .null, .null, .null, .null, .int 0, .int 0]))] s.heap := hP
  have hl := lv_entry [.ref h0, .int 0, .int 16, .int 19] (n := 4) (Nat.le_of_ble_eq_true rfl)
  rw [lg_entry_eq]
  generalize (lg_sl [.ref h0, .int 0, .int 16, .int 19] ++ List.replicate (4 - (lg_sl [.ref h0, .int 0, .int 16, .int 19]).length) Slot.unset).toArray = ls at hl ⊢
  have hl : lv_has ls 4 [(0, .ref h0), (1, .int 0), (2, .int 16), (3, .int 19)] := hl
  refine lv_aload_n hx hb d_Layout_init_0 rfl (lv_at hl 0 rfl) ?_
  refine W.objInit hx hb hown (ht9 _ k279) (ht9 _ k149) (ht9 _ kObj) rfl (by rw [hml]; exact hl.1) rfl d_Layout_init_1 (Nat.le_of_ble_eq_true rfl) (Nat.le_of_ble_eq_true rfl) ?_
  refine W.eq (g2 := F0 m 4 ls []) rfl ?_
  refine lv_aload_n hx hb d_Layout_init_4 rfl (lv_at hl 0 rfl) ?_
  refine lv_bipush (v := 40) hx hb d_Layout_init_5 (by decide) ?_
  have hc_7 : 1 ≤ 5 := by decide
  have hs_7 : 40 ≤ 172 := by decide
  refine zz_newa (atype := .int) (cK := cI) (ty := .int) (N' := 40) (a0 := (40, .inl (fun _ => 0))) 1 (fun _ _ _ h1 h2 => Option.some.inj (h1.symm.trans h2)) rfl hx hb (ht9 _ k321) rfl hK hP hD hS hA (fun _ => rfl) (by decide) (by decide) (by decide) hc_7 hs_7 d_Layout_init_7 (fun qo H hP hD hS => ?_)
  have hP : va_P D CL [(h0, .inr (3, [.int 0, .int 0, .int 0, .null, .null, .null, .null, .null, .int 0, .int 0])), (qo, .inl (cI, 40, .inl (fun _ => 0)))] H := hP
  have hD : va_D A [(h0, .inr (3, [.int 0, .int 0, .int 0, .null, .null, .null, .null, .null, .int 0, .int 0])), (qo, .inl (cI, 40, .inl (fun _ => 0)))] := hD
  refine W.widen (k := 1) (n := 40) (by decide) (by decide) ?_
  refine va_putF (D := D) (ci := 3) (v := .ref qo) (ty := .array .int) (C := "DiscMaker$Layout") (T := F_Layout) (N := 10) hx hb ht9 in_Layout t_Layout t_Layout_ok n_Layout hown hK hP hD hS 0 rfl rfl 3 (by decide) (ht9 _ k286) (fun _ h9 => h9) rfl hin rfl (by decide +kernel) rfl rfl (Nat.le_of_ble_eq_true rfl) d_Layout_init_9 (fun H locs hP hD hS => ?_)
  have hP : va_P D CL [(h0, .inr (3, [.int 0, .int 0, .int 0, .ref qo, .null, .null, .null, .null, .int 0, .int 0])), (qo, .inl (cI, 40, .inl (fun _ => 0)))] H := hP
  have hD : va_D A [(h0, .inr (3, [.int 0, .int 0, .int 0, .ref qo, .null, .null, .null, .null, .int 0, .int 0])), (qo, .inl (cI, 40, .inl (fun _ => 0)))] := hD
  refine lv_aload_n hx hb d_Layout_init_12 rfl (lv_at hl 0 rfl) ?_
  refine lv_bipush (v := 12) hx hb d_Layout_init_13 (by decide) ?_
  have hc_15 : 2 ≤ 5 := by decide
  have hs_15 : 52 ≤ 172 := by decide
  refine zz_newa (atype := .int) (cK := cI) (ty := .int) (N' := 12) (a0 := (12, .inl (fun _ => 0))) 1 (fun _ _ _ h1 h2 => Option.some.inj (h1.symm.trans h2)) rfl hx hb (ht9 _ k321) rfl hK hP hD hS hA (fun _ => rfl) (by decide) (by decide) (by decide) hc_15 hs_15 d_Layout_init_15 (fun qp H hP hD hS => ?_)
  have hP : va_P D CL [(h0, .inr (3, [.int 0, .int 0, .int 0, .ref qo, .null, .null, .null, .null, .int 0, .int 0])), (qo, .inl (cI, 40, .inl (fun _ => 0))), (qp, .inl (cI, 12, .inl (fun _ => 0)))] H := hP
  have hD : va_D A [(h0, .inr (3, [.int 0, .int 0, .int 0, .ref qo, .null, .null, .null, .null, .int 0, .int 0])), (qo, .inl (cI, 40, .inl (fun _ => 0))), (qp, .inl (cI, 12, .inl (fun _ => 0)))] := hD
  refine W.widen (k := 2) (n := 52) (by decide) (by decide) ?_
  refine va_putF (D := D) (ci := 3) (v := .ref qp) (ty := .array .int) (C := "DiscMaker$Layout") (T := F_Layout) (N := 10) hx hb ht9 in_Layout t_Layout t_Layout_ok n_Layout hown hK hP hD hS 0 rfl rfl 4 (by decide) (ht9 _ k288) (fun _ h9 => h9) rfl hin rfl (by decide +kernel) rfl rfl (Nat.le_of_ble_eq_true rfl) d_Layout_init_17 (fun H locs hP hD hS => ?_)
  have hP : va_P D CL [(h0, .inr (3, [.int 0, .int 0, .int 0, .ref qo, .ref qp, .null, .null, .null, .int 0, .int 0])), (qo, .inl (cI, 40, .inl (fun _ => 0))), (qp, .inl (cI, 12, .inl (fun _ => 0)))] H := hP
  have hD : va_D A [(h0, .inr (3, [.int 0, .int 0, .int 0, .ref qo, .ref qp, .null, .null, .null, .int 0, .int 0])), (qo, .inl (cI, 40, .inl (fun _ => 0))), (qp, .inl (cI, 12, .inl (fun _ => 0)))] := hD
  refine lv_aload_n hx hb d_Layout_init_20 rfl (lv_at hl 0 rfl) ?_
  refine lv_bipush (v := 40) hx hb d_Layout_init_21 (by decide) ?_
  have hc_23 : 3 ≤ 5 := by decide
  have hs_23 : 92 ≤ 172 := by decide
  refine zz_newa (atype := .int) (cK := cI) (ty := .int) (N' := 40) (a0 := (40, .inl (fun _ => 0))) 1 (fun _ _ _ h1 h2 => Option.some.inj (h1.symm.trans h2)) rfl hx hb (ht9 _ k321) rfl hK hP hD hS hA (fun _ => rfl) (by decide) (by decide) (by decide) hc_23 hs_23 d_Layout_init_23 (fun qt H hP hD hS => ?_)
  have hP : va_P D CL [(h0, .inr (3, [.int 0, .int 0, .int 0, .ref qo, .ref qp, .null, .null, .null, .int 0, .int 0])), (qo, .inl (cI, 40, .inl (fun _ => 0))), (qp, .inl (cI, 12, .inl (fun _ => 0))), (qt, .inl (cI, 40, .inl (fun _ => 0)))] H := hP
  have hD : va_D A [(h0, .inr (3, [.int 0, .int 0, .int 0, .ref qo, .ref qp, .null, .null, .null, .int 0, .int 0])), (qo, .inl (cI, 40, .inl (fun _ => 0))), (qp, .inl (cI, 12, .inl (fun _ => 0))), (qt, .inl (cI, 40, .inl (fun _ => 0)))] := hD
  refine W.widen (k := 3) (n := 92) (by decide) (by decide) ?_
  refine va_putF (D := D) (ci := 3) (v := .ref qt) (ty := .array .int) (C := "DiscMaker$Layout") (T := F_Layout) (N := 10) hx hb ht9 in_Layout t_Layout t_Layout_ok n_Layout hown hK hP hD hS 0 rfl rfl 5 (by decide) (ht9 _ k290) (fun _ h9 => h9) rfl hin rfl (by decide +kernel) rfl rfl (Nat.le_of_ble_eq_true rfl) d_Layout_init_25 (fun H locs hP hD hS => ?_)
  have hP : va_P D CL [(h0, .inr (3, [.int 0, .int 0, .int 0, .ref qo, .ref qp, .ref qt, .null, .null, .int 0, .int 0])), (qo, .inl (cI, 40, .inl (fun _ => 0))), (qp, .inl (cI, 12, .inl (fun _ => 0))), (qt, .inl (cI, 40, .inl (fun _ => 0)))] H := hP
  have hD : va_D A [(h0, .inr (3, [.int 0, .int 0, .int 0, .ref qo, .ref qp, .ref qt, .null, .null, .int 0, .int 0])), (qo, .inl (cI, 40, .inl (fun _ => 0))), (qp, .inl (cI, 12, .inl (fun _ => 0))), (qt, .inl (cI, 40, .inl (fun _ => 0)))] := hD
  refine lv_aload_n hx hb d_Layout_init_28 rfl (lv_at hl 0 rfl) ?_
  refine lv_bipush (v := 40) hx hb d_Layout_init_29 (by decide) ?_
  have hc_31 : 4 ≤ 5 := by decide
  have hs_31 : 132 ≤ 172 := by decide
  refine zz_newa (atype := .int) (cK := cI) (ty := .int) (N' := 40) (a0 := (40, .inl (fun _ => 0))) 1 (fun _ _ _ h1 h2 => Option.some.inj (h1.symm.trans h2)) rfl hx hb (ht9 _ k321) rfl hK hP hD hS hA (fun _ => rfl) (by decide) (by decide) (by decide) hc_31 hs_31 d_Layout_init_31 (fun qb H hP hD hS => ?_)
  have hP : va_P D CL [(h0, .inr (3, [.int 0, .int 0, .int 0, .ref qo, .ref qp, .ref qt, .null, .null, .int 0, .int 0])), (qo, .inl (cI, 40, .inl (fun _ => 0))), (qp, .inl (cI, 12, .inl (fun _ => 0))), (qt, .inl (cI, 40, .inl (fun _ => 0))), (qb, .inl (cI, 40, .inl (fun _ => 0)))] H := hP
  have hD : va_D A [(h0, .inr (3, [.int 0, .int 0, .int 0, .ref qo, .ref qp, .ref qt, .null, .null, .int 0, .int 0])), (qo, .inl (cI, 40, .inl (fun _ => 0))), (qp, .inl (cI, 12, .inl (fun _ => 0))), (qt, .inl (cI, 40, .inl (fun _ => 0))), (qb, .inl (cI, 40, .inl (fun _ => 0)))] := hD
  refine W.widen (k := 4) (n := 132) (by decide) (by decide) ?_
  refine va_putF (D := D) (ci := 3) (v := .ref qb) (ty := .array .int) (C := "DiscMaker$Layout") (T := F_Layout) (N := 10) hx hb ht9 in_Layout t_Layout t_Layout_ok n_Layout hown hK hP hD hS 0 rfl rfl 6 (by decide) (ht9 _ k292) (fun _ h9 => h9) rfl hin rfl (by decide +kernel) rfl rfl (Nat.le_of_ble_eq_true rfl) d_Layout_init_33 (fun H locs hP hD hS => ?_)
  have hP : va_P D CL [(h0, .inr (3, [.int 0, .int 0, .int 0, .ref qo, .ref qp, .ref qt, .ref qb, .null, .int 0, .int 0])), (qo, .inl (cI, 40, .inl (fun _ => 0))), (qp, .inl (cI, 12, .inl (fun _ => 0))), (qt, .inl (cI, 40, .inl (fun _ => 0))), (qb, .inl (cI, 40, .inl (fun _ => 0)))] H := hP
  have hD : va_D A [(h0, .inr (3, [.int 0, .int 0, .int 0, .ref qo, .ref qp, .ref qt, .ref qb, .null, .int 0, .int 0])), (qo, .inl (cI, 40, .inl (fun _ => 0))), (qp, .inl (cI, 12, .inl (fun _ => 0))), (qt, .inl (cI, 40, .inl (fun _ => 0))), (qb, .inl (cI, 40, .inl (fun _ => 0)))] := hD
  refine lv_aload_n hx hb d_Layout_init_36 rfl (lv_at hl 0 rfl) ?_
  refine lv_bipush (v := 40) hx hb d_Layout_init_37 (by decide) ?_
  have hc_39 : 5 ≤ 5 := by decide
  have hs_39 : 172 ≤ 172 := by decide
  refine zz_newa (atype := .int) (cK := cI) (ty := .int) (N' := 40) (a0 := (40, .inl (fun _ => 0))) 1 (fun _ _ _ h1 h2 => Option.some.inj (h1.symm.trans h2)) rfl hx hb (ht9 _ k321) rfl hK hP hD hS hA (fun _ => rfl) (by decide) (by decide) (by decide) hc_39 hs_39 d_Layout_init_39 (fun qe H hP hD hS => ?_)
  have hP : va_P D CL [(h0, .inr (3, [.int 0, .int 0, .int 0, .ref qo, .ref qp, .ref qt, .ref qb, .null, .int 0, .int 0])), (qo, .inl (cI, 40, .inl (fun _ => 0))), (qp, .inl (cI, 12, .inl (fun _ => 0))), (qt, .inl (cI, 40, .inl (fun _ => 0))), (qb, .inl (cI, 40, .inl (fun _ => 0))), (qe, .inl (cI, 40, .inl (fun _ => 0)))] H := hP
  have hD : va_D A [(h0, .inr (3, [.int 0, .int 0, .int 0, .ref qo, .ref qp, .ref qt, .ref qb, .null, .int 0, .int 0])), (qo, .inl (cI, 40, .inl (fun _ => 0))), (qp, .inl (cI, 12, .inl (fun _ => 0))), (qt, .inl (cI, 40, .inl (fun _ => 0))), (qb, .inl (cI, 40, .inl (fun _ => 0))), (qe, .inl (cI, 40, .inl (fun _ => 0)))] := hD
  refine W.widen (k := 5) (n := 172) (by decide) (by decide) ?_
  refine va_putF (D := D) (ci := 3) (v := .ref qe) (ty := .array .int) (C := "DiscMaker$Layout") (T := F_Layout) (N := 10) hx hb ht9 in_Layout t_Layout t_Layout_ok n_Layout hown hK hP hD hS 0 rfl rfl 7 (by decide) (ht9 _ k294) (fun _ h9 => h9) rfl hin rfl (by decide +kernel) rfl rfl (Nat.le_of_ble_eq_true rfl) d_Layout_init_41 (fun H locs hP hD hS => ?_)
  have hP : va_P D CL [(h0, .inr (3, [.int 0, .int 0, .int 0, .ref qo, .ref qp, .ref qt, .ref qb, .ref qe, .int 0, .int 0])), (qo, .inl (cI, 40, .inl (fun _ => 0))), (qp, .inl (cI, 12, .inl (fun _ => 0))), (qt, .inl (cI, 40, .inl (fun _ => 0))), (qb, .inl (cI, 40, .inl (fun _ => 0))), (qe, .inl (cI, 40, .inl (fun _ => 0)))] H := hP
  have hD : va_D A [(h0, .inr (3, [.int 0, .int 0, .int 0, .ref qo, .ref qp, .ref qt, .ref qb, .ref qe, .int 0, .int 0])), (qo, .inl (cI, 40, .inl (fun _ => 0))), (qp, .inl (cI, 12, .inl (fun _ => 0))), (qt, .inl (cI, 40, .inl (fun _ => 0))), (qb, .inl (cI, 40, .inl (fun _ => 0))), (qe, .inl (cI, 40, .inl (fun _ => 0)))] := hD
  refine lv_aload_n hx hb d_Layout_init_44 rfl (lv_at hl 0 rfl) ?_
  refine lv_iload_n hx hb d_Layout_init_45 rfl (lv_at hl 1 rfl) ?_
  refine va_putF (D := D) (ci := 3) (v := .int 0) (ty := .boolean) (C := "DiscMaker$Layout") (T := F_Layout) (N := 10) hx hb ht9 in_Layout t_Layout t_Layout_ok n_Layout hown hK hP hD hS 0 rfl rfl 0 (by decide) (ht9 _ k280) (fun _ h9 => h9) rfl hin rfl (by decide +kernel) rfl rfl (Nat.le_of_ble_eq_true rfl) d_Layout_init_46 (fun H locs hP hD hS => ?_)
  have hP : va_P D CL [(h0, .inr (3, [.int 0, .int 0, .int 0, .ref qo, .ref qp, .ref qt, .ref qb, .ref qe, .int 0, .int 0])), (qo, .inl (cI, 40, .inl (fun _ => 0))), (qp, .inl (cI, 12, .inl (fun _ => 0))), (qt, .inl (cI, 40, .inl (fun _ => 0))), (qb, .inl (cI, 40, .inl (fun _ => 0))), (qe, .inl (cI, 40, .inl (fun _ => 0)))] H := hP
  have hD : va_D A [(h0, .inr (3, [.int 0, .int 0, .int 0, .ref qo, .ref qp, .ref qt, .ref qb, .ref qe, .int 0, .int 0])), (qo, .inl (cI, 40, .inl (fun _ => 0))), (qp, .inl (cI, 12, .inl (fun _ => 0))), (qt, .inl (cI, 40, .inl (fun _ => 0))), (qb, .inl (cI, 40, .inl (fun _ => 0))), (qe, .inl (cI, 40, .inl (fun _ => 0)))] := hD
  refine lv_aload_n hx hb d_Layout_init_49 rfl (lv_at hl 0 rfl) ?_
  refine lv_iload_n hx hb d_Layout_init_50 rfl (lv_at hl 2 rfl) ?_
  refine va_putF (D := D) (ci := 3) (v := .int 16) (ty := .int) (C := "DiscMaker$Layout") (T := F_Layout) (N := 10) hx hb ht9 in_Layout t_Layout t_Layout_ok n_Layout hown hK hP hD hS 0 rfl rfl 1 (by decide) (ht9 _ k282) (fun _ h9 => h9) rfl hin rfl (by decide +kernel) rfl rfl (Nat.le_of_ble_eq_true rfl) d_Layout_init_51 (fun H locs hP hD hS => ?_)
  have hP : va_P D CL [(h0, .inr (3, [.int 0, .int 16, .int 0, .ref qo, .ref qp, .ref qt, .ref qb, .ref qe, .int 0, .int 0])), (qo, .inl (cI, 40, .inl (fun _ => 0))), (qp, .inl (cI, 12, .inl (fun _ => 0))), (qt, .inl (cI, 40, .inl (fun _ => 0))), (qb, .inl (cI, 40, .inl (fun _ => 0))), (qe, .inl (cI, 40, .inl (fun _ => 0)))] H := hP
  have hD : va_D A [(h0, .inr (3, [.int 0, .int 16, .int 0, .ref qo, .ref qp, .ref qt, .ref qb, .ref qe, .int 0, .int 0])), (qo, .inl (cI, 40, .inl (fun _ => 0))), (qp, .inl (cI, 12, .inl (fun _ => 0))), (qt, .inl (cI, 40, .inl (fun _ => 0))), (qb, .inl (cI, 40, .inl (fun _ => 0))), (qe, .inl (cI, 40, .inl (fun _ => 0)))] := hD
  refine lv_aload_n hx hb d_Layout_init_54 rfl (lv_at hl 0 rfl) ?_
  refine lv_iload_n hx hb d_Layout_init_55 rfl (lv_at hl 3 rfl) ?_
  refine va_putF (D := D) (ci := 3) (v := .int 19) (ty := .int) (C := "DiscMaker$Layout") (T := F_Layout) (N := 10) hx hb ht9 in_Layout t_Layout t_Layout_ok n_Layout hown hK hP hD hS 0 rfl rfl 2 (by decide) (ht9 _ k284) (fun _ h9 => h9) rfl hin rfl (by decide +kernel) rfl rfl (Nat.le_of_ble_eq_true rfl) d_Layout_init_56 (fun H locs hP hD hS => ?_)
  have hP : va_P D CL [(h0, .inr (3, [.int 0, .int 16, .int 19, .ref qo, .ref qp, .ref qt, .ref qb, .ref qe, .int 0, .int 0])), (qo, .inl (cI, 40, .inl (fun _ => 0))), (qp, .inl (cI, 12, .inl (fun _ => 0))), (qt, .inl (cI, 40, .inl (fun _ => 0))), (qb, .inl (cI, 40, .inl (fun _ => 0))), (qe, .inl (cI, 40, .inl (fun _ => 0)))] H := hP
  have hD : va_D A [(h0, .inr (3, [.int 0, .int 16, .int 19, .ref qo, .ref qp, .ref qt, .ref qb, .ref qe, .int 0, .int 0])), (qo, .inl (cI, 40, .inl (fun _ => 0))), (qp, .inl (cI, 12, .inl (fun _ => 0))), (qt, .inl (cI, 40, .inl (fun _ => 0))), (qb, .inl (cI, 40, .inl (fun _ => 0))), (qe, .inl (cI, 40, .inl (fun _ => 0)))] := hD
  have hP9 := hP.sub (ws' := [(h0, .inr (3, [.int 0, .int 16, .int 19, .ref qo, .ref qp, .ref qt, .ref qb, .ref qe, .int 0, .int 0])), (qo, .inl (cI, 40, .inl (fun _ => 0))), (qp, .inl (cI, 12, .inl (fun _ => 0))), (qt, .inl (cI, 40, .inl (fun _ => 0))), (qb, .inl (cI, 40, .inl (fun _ => 0))), (qe, .inl (cI, 40, .inl (fun _ => 0)))]) [0, 1, 2, 3, 4, 5] rfl
  have hD9 := hD.sub (ws' := [(h0, .inr (3, [.int 0, .int 16, .int 19, .ref qo, .ref qp, .ref qt, .ref qb, .ref qe, .int 0, .int 0])), (qo, .inl (cI, 40, .inl (fun _ => 0))), (qp, .inl (cI, 12, .inl (fun _ => 0))), (qt, .inl (cI, 40, .inl (fun _ => 0))), (qb, .inl (cI, 40, .inl (fun _ => 0))), (qe, .inl (cI, 40, .inl (fun _ => 0)))]) [0, 1, 2, 3, 4, 5] (by decide) rfl
  exact W.vret hx hb hr (fun t ht hW => ⟨⟨(qo, qp, qt, qb, qe), rfl, trivial, by rw [ht]; exact hP9, hD9⟩, hS.F ht⟩) hS.2.2 d_Layout_init_59

set_option maxHeartbeats 4000000 in
set_option maxRecDepth 100000 in
theorem c_Layout_init_2 (l : Launch) (D : va_G) (cB cI cJ cZ cN cF : ClassId) (sz : Nat) (h0 : Nat) : Met l y_Layout_init w_Layout_init ({ frames := 1, cells := 5, slots := 172, locals := 24 }) (va_Pc [.ref h0, .int 1, .int 17, .int 21] (fun U => U.heap.size = sz ∧ va_P D CL [(h0, .inr (3, [.int 0, .int 0, .int 0, .null, .null, .null, .null, .null, .int 0, .int 0]))] U.heap ∧ va_K D CL (TY cB cI cJ cZ cN cF) U ∧ NN U ∧ va_D (fun _ => True) [(h0, .inr (3, [.int 0, .int 0, .int 0, .null, .null, .null, .null, .null, .int 0, .int 0]))])) (va_Qv (fun (u : Nat × Nat × Nat × Nat × Nat) => True) (fun (u : Nat × Nat × Nat × Nat × Nat) (t : State) => match u with | (qo, qp, qt, qb, qe) => va_P D CL [(h0, .inr (3, [.int 1, .int 17, .int 21, .ref qo, .ref qp, .ref qt, .ref qb, .ref qe, .int 0, .int 0])), (qo, .inl (cI, 40, .inl (fun _ => 0))), (qp, .inl (cI, 12, .inl (fun _ => 0))), (qt, .inl (cI, 40, .inl (fun _ => 0))), (qb, .inl (cI, 40, .inl (fun _ => 0))), (qe, .inl (cI, 40, .inl (fun _ => 0)))] t.heap ∧ va_D (va_A [(h0, .inr (3, [.int 0, .int 0, .int 0, .null, .null, .null, .null, .null, .int 0, .int 0]))] sz) [(h0, .inr (3, [.int 1, .int 17, .int 21, .ref qo, .ref qp, .ref qt, .ref qb, .ref qe, .int 0, .int 0])), (qo, .inl (cI, 40, .inl (fun _ => 0))), (qp, .inl (cI, 12, .inl (fun _ => 0))), (qt, .inl (cI, 40, .inl (fun _ => 0))), (qb, .inl (cI, 40, .inl (fun _ => 0))), (qe, .inl (cI, 40, .inl (fun _ => 0)))]) (va_A [(h0, .inr (3, [.int 0, .int 0, .int 0, .null, .null, .null, .null, .null, .int 0, .int 0]))] sz)) 5 172 (va_A [(h0, .inr (3, [.int 0, .int 0, .int 0, .null, .null, .null, .null, .null, .int 0, .int 0]))] sz) := by
  refine Met.ofW (cc := b_Layout_init) (maxL := 4) (ret := none) (by decide) rfl ?_
  intro p e s m args below meth c s₁ B hml hv
  obtain ⟨rfl, hsz, hP, hK, hN, hD0⟩ := hv
  have hx := B.exec
  have hb := B.bytes
  have hr := B.returns
  have hts := atoms_spec (ws := w_Layout_init) B.pre
  have ht9 := fun (w : Cond) (h : w ∈ lw_g) => hts w (List.mem_cons_of_mem _ h)
  have hown : s.vm.findClass "DiscMaker$Layout" = some m.cls := findClass_of_methodNamed B.named
  have hlocks := B.notSynchronized
  have hin : meth.name = "<init>" := (name_of_methodNamed B.named B.method).1
  subst hsz
  have hD := hD0.self (sz := s.heap.size)
  generalize hAe : va_A [(h0, .inr (3, [.int 0, .int 0, .int 0, .null, .null, .null, .null, .null, .int 0, .int 0]))] s.heap.size = A at hD ⊢
  have hA : ∀ q : Nat, s.heap.size ≤ q → A q := fun q h => by rw [← hAe]; exact Or.inr h
  have hS : va_S A s.heap s.heap [] := va_S.rf
  have hP : va_P D CL [(h0, .inr (3, [.int 0, .int 0, .int 0, .null, .null, .null, .null, .null, .int 0, .int 0]))] s.heap := hP
  have hl := lv_entry [.ref h0, .int 1, .int 17, .int 21] (n := 4) (Nat.le_of_ble_eq_true rfl)
  rw [lg_entry_eq]
  generalize (lg_sl [.ref h0, .int 1, .int 17, .int 21] ++ List.replicate (4 - (lg_sl [.ref h0, .int 1, .int 17, .int 21]).length) Slot.unset).toArray = ls at hl ⊢
  have hl : lv_has ls 4 [(0, .ref h0), (1, .int 1), (2, .int 17), (3, .int 21)] := hl
  refine lv_aload_n hx hb d_Layout_init_0 rfl (lv_at hl 0 rfl) ?_
  refine W.objInit hx hb hown (ht9 _ k279) (ht9 _ k149) (ht9 _ kObj) rfl (by rw [hml]; exact hl.1) rfl d_Layout_init_1 (Nat.le_of_ble_eq_true rfl) (Nat.le_of_ble_eq_true rfl) ?_
  refine W.eq (g2 := F0 m 4 ls []) rfl ?_
  refine lv_aload_n hx hb d_Layout_init_4 rfl (lv_at hl 0 rfl) ?_
  refine lv_bipush (v := 40) hx hb d_Layout_init_5 (by decide) ?_
  have hc_7 : 1 ≤ 5 := by decide
  have hs_7 : 40 ≤ 172 := by decide
  refine zz_newa (atype := .int) (cK := cI) (ty := .int) (N' := 40) (a0 := (40, .inl (fun _ => 0))) 1 (fun _ _ _ h1 h2 => Option.some.inj (h1.symm.trans h2)) rfl hx hb (ht9 _ k321) rfl hK hP hD hS hA (fun _ => rfl) (by decide) (by decide) (by decide) hc_7 hs_7 d_Layout_init_7 (fun qo H hP hD hS => ?_)
  have hP : va_P D CL [(h0, .inr (3, [.int 0, .int 0, .int 0, .null, .null, .null, .null, .null, .int 0, .int 0])), (qo, .inl (cI, 40, .inl (fun _ => 0)))] H := hP
  have hD : va_D A [(h0, .inr (3, [.int 0, .int 0, .int 0, .null, .null, .null, .null, .null, .int 0, .int 0])), (qo, .inl (cI, 40, .inl (fun _ => 0)))] := hD
  refine W.widen (k := 1) (n := 40) (by decide) (by decide) ?_
  refine va_putF (D := D) (ci := 3) (v := .ref qo) (ty := .array .int) (C := "DiscMaker$Layout") (T := F_Layout) (N := 10) hx hb ht9 in_Layout t_Layout t_Layout_ok n_Layout hown hK hP hD hS 0 rfl rfl 3 (by decide) (ht9 _ k286) (fun _ h9 => h9) rfl hin rfl (by decide +kernel) rfl rfl (Nat.le_of_ble_eq_true rfl) d_Layout_init_9 (fun H locs hP hD hS => ?_)
  have hP : va_P D CL [(h0, .inr (3, [.int 0, .int 0, .int 0, .ref qo, .null, .null, .null, .null, .int 0, .int 0])), (qo, .inl (cI, 40, .inl (fun _ => 0)))] H := hP
  have hD : va_D A [(h0, .inr (3, [.int 0, .int 0, .int 0, .ref qo, .null, .null, .null, .null, .int 0, .int 0])), (qo, .inl (cI, 40, .inl (fun _ => 0)))] := hD
  refine lv_aload_n hx hb d_Layout_init_12 rfl (lv_at hl 0 rfl) ?_
  refine lv_bipush (v := 12) hx hb d_Layout_init_13 (by decide) ?_
  have hc_15 : 2 ≤ 5 := by decide
  have hs_15 : 52 ≤ 172 := by decide
  refine zz_newa (atype := .int) (cK := cI) (ty := .int) (N' := 12) (a0 := (12, .inl (fun _ => 0))) 1 (fun _ _ _ h1 h2 => Option.some.inj (h1.symm.trans h2)) rfl hx hb (ht9 _ k321) rfl hK hP hD hS hA (fun _ => rfl) (by decide) (by decide) (by decide) hc_15 hs_15 d_Layout_init_15 (fun qp H hP hD hS => ?_)
  have hP : va_P D CL [(h0, .inr (3, [.int 0, .int 0, .int 0, .ref qo, .null, .null, .null, .null, .int 0, .int 0])), (qo, .inl (cI, 40, .inl (fun _ => 0))), (qp, .inl (cI, 12, .inl (fun _ => 0)))] H := hP
  have hD : va_D A [(h0, .inr (3, [.int 0, .int 0, .int 0, .ref qo, .null, .null, .null, .null, .int 0, .int 0])), (qo, .inl (cI, 40, .inl (fun _ => 0))), (qp, .inl (cI, 12, .inl (fun _ => 0)))] := hD
  refine W.widen (k := 2) (n := 52) (by decide) (by decide) ?_
  refine va_putF (D := D) (ci := 3) (v := .ref qp) (ty := .array .int) (C := "DiscMaker$Layout") (T := F_Layout) (N := 10) hx hb ht9 in_Layout t_Layout t_Layout_ok n_Layout hown hK hP hD hS 0 rfl rfl 4 (by decide) (ht9 _ k288) (fun _ h9 => h9) rfl hin rfl (by decide +kernel) rfl rfl (Nat.le_of_ble_eq_true rfl) d_Layout_init_17 (fun H locs hP hD hS => ?_)
  have hP : va_P D CL [(h0, .inr (3, [.int 0, .int 0, .int 0, .ref qo, .ref qp, .null, .null, .null, .int 0, .int 0])), (qo, .inl (cI, 40, .inl (fun _ => 0))), (qp, .inl (cI, 12, .inl (fun _ => 0)))] H := hP
  have hD : va_D A [(h0, .inr (3, [.int 0, .int 0, .int 0, .ref qo, .ref qp, .null, .null, .null, .int 0, .int 0])), (qo, .inl (cI, 40, .inl (fun _ => 0))), (qp, .inl (cI, 12, .inl (fun _ => 0)))] := hD
  refine lv_aload_n hx hb d_Layout_init_20 rfl (lv_at hl 0 rfl) ?_
  refine lv_bipush (v := 40) hx hb d_Layout_init_21 (by decide) ?_
  have hc_23 : 3 ≤ 5 := by decide
  have hs_23 : 92 ≤ 172 := by decide
  refine zz_newa (atype := .int) (cK := cI) (ty := .int) (N' := 40) (a0 := (40, .inl (fun _ => 0))) 1 (fun _ _ _ h1 h2 => Option.some.inj (h1.symm.trans h2)) rfl hx hb (ht9 _ k321) rfl hK hP hD hS hA (fun _ => rfl) (by decide) (by decide) (by decide) hc_23 hs_23 d_Layout_init_23 (fun qt H hP hD hS => ?_)
  have hP : va_P D CL [(h0, .inr (3, [.int 0, .int 0, .int 0, .ref qo, .ref qp, .null, .null, .null, .int 0, .int 0])), (qo, .inl (cI, 40, .inl (fun _ => 0))), (qp, .inl (cI, 12, .inl (fun _ => 0))), (qt, .inl (cI, 40, .inl (fun _ => 0)))] H := hP
  have hD : va_D A [(h0, .inr (3, [.int 0, .int 0, .int 0, .ref qo, .ref qp, .null, .null, .null, .int 0, .int 0])), (qo, .inl (cI, 40, .inl (fun _ => 0))), (qp, .inl (cI, 12, .inl (fun _ => 0))), (qt, .inl (cI, 40, .inl (fun _ => 0)))] := hD
  refine W.widen (k := 3) (n := 92) (by decide) (by decide) ?_
  refine va_putF (D := D) (ci := 3) (v := .ref qt) (ty := .array .int) (C := "DiscMaker$Layout") (T := F_Layout) (N := 10) hx hb ht9 in_Layout t_Layout t_Layout_ok n_Layout hown hK hP hD hS 0 rfl rfl 5 (by decide) (ht9 _ k290) (fun _ h9 => h9) rfl hin rfl (by decide +kernel) rfl rfl (Nat.le_of_ble_eq_true rfl) d_Layout_init_25 (fun H locs hP hD hS => ?_)
  have hP : va_P D CL [(h0, .inr (3, [.int 0, .int 0, .int 0, .ref qo, .ref qp, .ref qt, .null, .null, .int 0, .int 0])), (qo, .inl (cI, 40, .inl (fun _ => 0))), (qp, .inl (cI, 12, .inl (fun _ => 0))), (qt, .inl (cI, 40, .inl (fun _ => 0)))] H := hP
  have hD : va_D A [(h0, .inr (3, [.int 0, .int 0, .int 0, .ref qo, .ref qp, .ref qt, .null, .null, .int 0, .int 0])), (qo, .inl (cI, 40, .inl (fun _ => 0))), (qp, .inl (cI, 12, .inl (fun _ => 0))), (qt, .inl (cI, 40, .inl (fun _ => 0)))] := hD
  refine lv_aload_n hx hb d_Layout_init_28 rfl (lv_at hl 0 rfl) ?_
  refine lv_bipush (v := 40) hx hb d_Layout_init_29 (by decide) ?_
  have hc_31 : 4 ≤ 5 := by decide
  have hs_31 : 132 ≤ 172 := by decide
  refine zz_newa (atype := .int) (cK := cI) (ty := .int) (N' := 40) (a0 := (40, .inl (fun _ => 0))) 1 (fun _ _ _ h1 h2 => Option.some.inj (h1.symm.trans h2)) rfl hx hb (ht9 _ k321) rfl hK hP hD hS hA (fun _ => rfl) (by decide) (by decide) (by decide) hc_31 hs_31 d_Layout_init_31 (fun qb H hP hD hS => ?_)
  have hP : va_P D CL [(h0, .inr (3, [.int 0, .int 0, .int 0, .ref qo, .ref qp, .ref qt, .null, .null, .int 0, .int 0])), (qo, .inl (cI, 40, .inl (fun _ => 0))), (qp, .inl (cI, 12, .inl (fun _ => 0))), (qt, .inl (cI, 40, .inl (fun _ => 0))), (qb, .inl (cI, 40, .inl (fun _ => 0)))] H := hP
  have hD : va_D A [(h0, .inr (3, [.int 0, .int 0, .int 0, .ref qo, .ref qp, .ref qt, .null, .null, .int 0, .int 0])), (qo, .inl (cI, 40, .inl (fun _ => 0))), (qp, .inl (cI, 12, .inl (fun _ => 0))), (qt, .inl (cI, 40, .inl (fun _ => 0))), (qb, .inl (cI, 40, .inl (fun _ => 0)))] := hD
  refine W.widen (k := 4) (n := 132) (by decide) (by decide) ?_
  refine va_putF (D := D) (ci := 3) (v := .ref qb) (ty := .array .int) (C := "DiscMaker$Layout") (T := F_Layout) (N := 10) hx hb ht9 in_Layout t_Layout t_Layout_ok n_Layout hown hK hP hD hS 0 rfl rfl 6 (by decide) (ht9 _ k292) (fun _ h9 => h9) rfl hin rfl (by decide +kernel) rfl rfl (Nat.le_of_ble_eq_true rfl) d_Layout_init_33 (fun H locs hP hD hS => ?_)
  have hP : va_P D CL [(h0, .inr (3, [.int 0, .int 0, .int 0, .ref qo, .ref qp, .ref qt, .ref qb, .null, .int 0, .int 0])), (qo, .inl (cI, 40, .inl (fun _ => 0))), (qp, .inl (cI, 12, .inl (fun _ => 0))), (qt, .inl (cI, 40, .inl (fun _ => 0))), (qb, .inl (cI, 40, .inl (fun _ => 0)))] H := hP
  have hD : va_D A [(h0, .inr (3, [.int 0, .int 0, .int 0, .ref qo, .ref qp, .ref qt, .ref qb, .null, .int 0, .int 0])), (qo, .inl (cI, 40, .inl (fun _ => 0))), (qp, .inl (cI, 12, .inl (fun _ => 0))), (qt, .inl (cI, 40, .inl (fun _ => 0))), (qb, .inl (cI, 40, .inl (fun _ => 0)))] := hD
  refine lv_aload_n hx hb d_Layout_init_36 rfl (lv_at hl 0 rfl) ?_
  refine lv_bipush (v := 40) hx hb d_Layout_init_37 (by decide) ?_
  have hc_39 : 5 ≤ 5 := by decide
  have hs_39 : 172 ≤ 172 := by decide
  refine zz_newa (atype := .int) (cK := cI) (ty := .int) (N' := 40) (a0 := (40, .inl (fun _ => 0))) 1 (fun _ _ _ h1 h2 => Option.some.inj (h1.symm.trans h2)) rfl hx hb (ht9 _ k321) rfl hK hP hD hS hA (fun _ => rfl) (by decide) (by decide) (by decide) hc_39 hs_39 d_Layout_init_39 (fun qe H hP hD hS => ?_)
  have hP : va_P D CL [(h0, .inr (3, [.int 0, .int 0, .int 0, .ref qo, .ref qp, .ref qt, .ref qb, .null, .int 0, .int 0])), (qo, .inl (cI, 40, .inl (fun _ => 0))), (qp, .inl (cI, 12, .inl (fun _ => 0))), (qt, .inl (cI, 40, .inl (fun _ => 0))), (qb, .inl (cI, 40, .inl (fun _ => 0))), (qe, .inl (cI, 40, .inl (fun _ => 0)))] H := hP
  have hD : va_D A [(h0, .inr (3, [.int 0, .int 0, .int 0, .ref qo, .ref qp, .ref qt, .ref qb, .null, .int 0, .int 0])), (qo, .inl (cI, 40, .inl (fun _ => 0))), (qp, .inl (cI, 12, .inl (fun _ => 0))), (qt, .inl (cI, 40, .inl (fun _ => 0))), (qb, .inl (cI, 40, .inl (fun _ => 0))), (qe, .inl (cI, 40, .inl (fun _ => 0)))] := hD
  refine W.widen (k := 5) (n := 172) (by decide) (by decide) ?_
  refine va_putF (D := D) (ci := 3) (v := .ref qe) (ty := .array .int) (C := "DiscMaker$Layout") (T := F_Layout) (N := 10) hx hb ht9 in_Layout t_Layout t_Layout_ok n_Layout hown hK hP hD hS 0 rfl rfl 7 (by decide) (ht9 _ k294) (fun _ h9 => h9) rfl hin rfl (by decide +kernel) rfl rfl (Nat.le_of_ble_eq_true rfl) d_Layout_init_41 (fun H locs hP hD hS => ?_)
  have hP : va_P D CL [(h0, .inr (3, [.int 0, .int 0, .int 0, .ref qo, .ref qp, .ref qt, .ref qb, .ref qe, .int 0, .int 0])), (qo, .inl (cI, 40, .inl (fun _ => 0))), (qp, .inl (cI, 12, .inl (fun _ => 0))), (qt, .inl (cI, 40, .inl (fun _ => 0))), (qb, .inl (cI, 40, .inl (fun _ => 0))), (qe, .inl (cI, 40, .inl (fun _ => 0)))] H := hP
  have hD : va_D A [(h0, .inr (3, [.int 0, .int 0, .int 0, .ref qo, .ref qp, .ref qt, .ref qb, .ref qe, .int 0, .int 0])), (qo, .inl (cI, 40, .inl (fun _ => 0))), (qp, .inl (cI, 12, .inl (fun _ => 0))), (qt, .inl (cI, 40, .inl (fun _ => 0))), (qb, .inl (cI, 40, .inl (fun _ => 0))), (qe, .inl (cI, 40, .inl (fun _ => 0)))] := hD
  refine lv_aload_n hx hb d_Layout_init_44 rfl (lv_at hl 0 rfl) ?_
  refine lv_iload_n hx hb d_Layout_init_45 rfl (lv_at hl 1 rfl) ?_
  refine va_putF (D := D) (ci := 3) (v := .int 1) (ty := .boolean) (C := "DiscMaker$Layout") (T := F_Layout) (N := 10) hx hb ht9 in_Layout t_Layout t_Layout_ok n_Layout hown hK hP hD hS 0 rfl rfl 0 (by decide) (ht9 _ k280) (fun _ h9 => h9) rfl hin rfl (by decide +kernel) rfl rfl (Nat.le_of_ble_eq_true rfl) d_Layout_init_46 (fun H locs hP hD hS => ?_)
  have hP : va_P D CL [(h0, .inr (3, [.int 1, .int 0, .int 0, .ref qo, .ref qp, .ref qt, .ref qb, .ref qe, .int 0, .int 0])), (qo, .inl (cI, 40, .inl (fun _ => 0))), (qp, .inl (cI, 12, .inl (fun _ => 0))), (qt, .inl (cI, 40, .inl (fun _ => 0))), (qb, .inl (cI, 40, .inl (fun _ => 0))), (qe, .inl (cI, 40, .inl (fun _ => 0)))] H := hP
  have hD : va_D A [(h0, .inr (3, [.int 1, .int 0, .int 0, .ref qo, .ref qp, .ref qt, .ref qb, .ref qe, .int 0, .int 0])), (qo, .inl (cI, 40, .inl (fun _ => 0))), (qp, .inl (cI, 12, .inl (fun _ => 0))), (qt, .inl (cI, 40, .inl (fun _ => 0))), (qb, .inl (cI, 40, .inl (fun _ => 0))), (qe, .inl (cI, 40, .inl (fun _ => 0)))] := hD
  refine lv_aload_n hx hb d_Layout_init_49 rfl (lv_at hl 0 rfl) ?_
  refine lv_iload_n hx hb d_Layout_init_50 rfl (lv_at hl 2 rfl) ?_
  refine va_putF (D := D) (ci := 3) (v := .int 17) (ty := .int) (C := "DiscMaker$Layout") (T := F_Layout) (N := 10) hx hb ht9 in_Layout t_Layout t_Layout_ok n_Layout hown hK hP hD hS 0 rfl rfl 1 (by decide) (ht9 _ k282) (fun _ h9 => h9) rfl hin rfl (by decide +kernel) rfl rfl (Nat.le_of_ble_eq_true rfl) d_Layout_init_51 (fun H locs hP hD hS => ?_)
  have hP : va_P D CL [(h0, .inr (3, [.int 1, .int 17, .int 0, .ref qo, .ref qp, .ref qt, .ref qb, .ref qe, .int 0, .int 0])), (qo, .inl (cI, 40, .inl (fun _ => 0))), (qp, .inl (cI, 12, .inl (fun _ => 0))), (qt, .inl (cI, 40, .inl (fun _ => 0))), (qb, .inl (cI, 40, .inl (fun _ => 0))), (qe, .inl (cI, 40, .inl (fun _ => 0)))] H := hP
  have hD : va_D A [(h0, .inr (3, [.int 1, .int 17, .int 0, .ref qo, .ref qp, .ref qt, .ref qb, .ref qe, .int 0, .int 0])), (qo, .inl (cI, 40, .inl (fun _ => 0))), (qp, .inl (cI, 12, .inl (fun _ => 0))), (qt, .inl (cI, 40, .inl (fun _ => 0))), (qb, .inl (cI, 40, .inl (fun _ => 0))), (qe, .inl (cI, 40, .inl (fun _ => 0)))] := hD
  refine lv_aload_n hx hb d_Layout_init_54 rfl (lv_at hl 0 rfl) ?_
  refine lv_iload_n hx hb d_Layout_init_55 rfl (lv_at hl 3 rfl) ?_
  refine va_putF (D := D) (ci := 3) (v := .int 21) (ty := .int) (C := "DiscMaker$Layout") (T := F_Layout) (N := 10) hx hb ht9 in_Layout t_Layout t_Layout_ok n_Layout hown hK hP hD hS 0 rfl rfl 2 (by decide) (ht9 _ k284) (fun _ h9 => h9) rfl hin rfl (by decide +kernel) rfl rfl (Nat.le_of_ble_eq_true rfl) d_Layout_init_56 (fun H locs hP hD hS => ?_)
  have hP : va_P D CL [(h0, .inr (3, [.int 1, .int 17, .int 21, .ref qo, .ref qp, .ref qt, .ref qb, .ref qe, .int 0, .int 0])), (qo, .inl (cI, 40, .inl (fun _ => 0))), (qp, .inl (cI, 12, .inl (fun _ => 0))), (qt, .inl (cI, 40, .inl (fun _ => 0))), (qb, .inl (cI, 40, .inl (fun _ => 0))), (qe, .inl (cI, 40, .inl (fun _ => 0)))] H := hP
  have hD : va_D A [(h0, .inr (3, [.int 1, .int 17, .int 21, .ref qo, .ref qp, .ref qt, .ref qb, .ref qe, .int 0, .int 0])), (qo, .inl (cI, 40, .inl (fun _ => 0))), (qp, .inl (cI, 12, .inl (fun _ => 0))), (qt, .inl (cI, 40, .inl (fun _ => 0))), (qb, .inl (cI, 40, .inl (fun _ => 0))), (qe, .inl (cI, 40, .inl (fun _ => 0)))] := hD
  have hP9 := hP.sub (ws' := [(h0, .inr (3, [.int 1, .int 17, .int 21, .ref qo, .ref qp, .ref qt, .ref qb, .ref qe, .int 0, .int 0])), (qo, .inl (cI, 40, .inl (fun _ => 0))), (qp, .inl (cI, 12, .inl (fun _ => 0))), (qt, .inl (cI, 40, .inl (fun _ => 0))), (qb, .inl (cI, 40, .inl (fun _ => 0))), (qe, .inl (cI, 40, .inl (fun _ => 0)))]) [0, 1, 2, 3, 4, 5] rfl
  have hD9 := hD.sub (ws' := [(h0, .inr (3, [.int 1, .int 17, .int 21, .ref qo, .ref qp, .ref qt, .ref qb, .ref qe, .int 0, .int 0])), (qo, .inl (cI, 40, .inl (fun _ => 0))), (qp, .inl (cI, 12, .inl (fun _ => 0))), (qt, .inl (cI, 40, .inl (fun _ => 0))), (qb, .inl (cI, 40, .inl (fun _ => 0))), (qe, .inl (cI, 40, .inl (fun _ => 0)))]) [0, 1, 2, 3, 4, 5] (by decide) rfl
  exact W.vret hx hb hr (fun t ht hW => ⟨⟨(qo, qp, qt, qb, qe), rfl, trivial, by rw [ht]; exact hP9, hD9⟩, hS.F ht⟩) hS.2.2 d_Layout_init_59

theorem d_Node_init_0 : decode b_Node_init 0 = .ok (.aload_n 0, 1) := by decide +kernel
theorem d_Node_init_1 : decode b_Node_init 1 = .ok (.invokespecial 3, 3) := by decide +kernel
theorem d_Node_init_4 : decode b_Node_init 4 = .ok (.aload_n 0, 1) := by decide +kernel
theorem d_Node_init_5 : decode b_Node_init 5 = .ok (.iload_n 1, 1) := by decide +kernel
theorem d_Node_init_6 : decode b_Node_init 6 = .ok (.putfield 9, 3) := by decide +kernel
theorem d_Node_init_9 : decode b_Node_init 9 = .ok (.aload_n 0, 1) := by decide +kernel
theorem d_Node_init_10 : decode b_Node_init 10 = .ok (.aload_n 2, 1) := by decide +kernel
theorem d_Node_init_11 : decode b_Node_init 11 = .ok (.putfield 15, 3) := by decide +kernel
theorem d_Node_init_14 : decode b_Node_init 14 = .ok (.aload_n 0, 1) := by decide +kernel
theorem d_Node_init_15 : decode b_Node_init 15 = .ok (.iload_n 3, 1) := by decide +kernel
theorem d_Node_init_16 : decode b_Node_init 16 = .ok (.putfield 19, 3) := by decide +kernel
theorem d_Node_init_19 : decode b_Node_init 19 = .ok (.aload_n 0, 1) := by decide +kernel
theorem d_Node_init_20 : decode b_Node_init 20 = .ok (.iload 4, 2) := by decide +kernel
theorem d_Node_init_22 : decode b_Node_init 22 = .ok (.putfield 22, 3) := by decide +kernel
theorem d_Node_init_25 : decode b_Node_init 25 = .ok (.aload_n 0, 1) := by decide +kernel
theorem d_Node_init_26 : decode b_Node_init 26 = .ok (.iload 5, 2) := by decide +kernel
theorem d_Node_init_28 : decode b_Node_init 28 = .ok (.putfield 25, 3) := by decide +kernel
theorem d_Node_init_31 : decode b_Node_init 31 = .ok (.aload_n 0, 1) := by decide +kernel
theorem d_Node_init_32 : decode b_Node_init 32 = .ok (.iconst 0, 1) := by decide +kernel
theorem d_Node_init_33 : decode b_Node_init 33 = .ok (.newarray .byte, 2) := by decide +kernel
theorem d_Node_init_35 : decode b_Node_init 35 = .ok (.putfield 28, 3) := by decide +kernel
theorem d_Node_init_38 : decode b_Node_init 38 = .ok (.aload_n 0, 1) := by decide +kernel
theorem d_Node_init_39 : decode b_Node_init 39 = .ok (.bipush 11, 2) := by decide +kernel
theorem d_Node_init_41 : decode b_Node_init 41 = .ok (.newarray .byte, 2) := by decide +kernel
theorem d_Node_init_43 : decode b_Node_init 43 = .ok (.putfield 31, 3) := by decide +kernel
theorem d_Node_init_46 : decode b_Node_init 46 = .ok (.return_, 1) := by decide +kernel
set_option maxHeartbeats 4000000 in
set_option maxRecDepth 100000 in
theorem c_Node_init (l : Launch) (D : va_G) (cB cI cJ cZ cN cF : ClassId) (sz : Nat) (h0 nm : Nat) (so mo ow gr : Int32) : Met l y_Node_init w_Node_init ({ frames := 1, cells := 2, slots := 11, locals := 24 }) (va_Pc [.ref h0, .int so, .ref nm, .int mo, .int ow, .int gr] (fun U => U.heap.size = sz ∧ va_P D CL [(h0, .inr (5, [.int 0, .null, .null, .null, .int 0, .int 0, .int 0, .int 0, .int 0, .int 0, .int 0, .int 0]))] U.heap ∧ va_K D CL (TY cB cI cJ cZ cN cF) U ∧ NN U ∧ va_D (fun _ => True) [(h0, .inr (5, [.int 0, .null, .null, .null, .int 0, .int 0, .int 0, .int 0, .int 0, .int 0, .int 0, .int 0]))])) (va_Qv (fun (u : Nat × Nat) => True) (fun (u : Nat × Nat) (t : State) => match u with | (qt, qk) => va_P D CL [(h0, .inr (5, [.int so, .ref nm, .ref qk, .ref qt, .int 0, .int 0, .int 0, .int mo, .int ow, .int gr, .int 0, .int 0])), (qt, .inl (cB, 0, .inl (fun _ => 0))), (qk, .inl (cB, 11, .inl (fun _ => 0)))] t.heap ∧ va_D (va_A [(h0, .inr (5, [.int 0, .null, .null, .null, .int 0, .int 0, .int 0, .int 0, .int 0, .int 0, .int 0, .int 0]))] sz) [(h0, .inr (5, [.int so, .ref nm, .ref qk, .ref qt, .int 0, .int 0, .int 0, .int mo, .int ow, .int gr, .int 0, .int 0])), (qt, .inl (cB, 0, .inl (fun _ => 0))), (qk, .inl (cB, 11, .inl (fun _ => 0)))]) (va_A [(h0, .inr (5, [.int 0, .null, .null, .null, .int 0, .int 0, .int 0, .int 0, .int 0, .int 0, .int 0, .int 0]))] sz)) 2 11 (va_A [(h0, .inr (5, [.int 0, .null, .null, .null, .int 0, .int 0, .int 0, .int 0, .int 0, .int 0, .int 0, .int 0]))] sz) := by
  refine Met.ofW (cc := b_Node_init) (maxL := 6) (ret := none) (by decide) rfl ?_
  intro p e s m args below meth c s₁ B hml hv
  obtain ⟨rfl, hsz, hP, hK, hN, hD0⟩ := hv
  have hx := B.exec
  have hb := B.bytes
  have hr := B.returns
  have hts := atoms_spec (ws := w_Node_init) B.pre
  have ht9 := fun (w : Cond) (h : w ∈ lw_g) => hts w (List.mem_cons_of_mem _ h)
  have hown : s.vm.findClass "DiscMaker$Node" = some m.cls := findClass_of_methodNamed B.named
  have hlocks := B.notSynchronized
  have hin : meth.name = "<init>" := (name_of_methodNamed B.named B.method).1
  subst hsz
  have hD := hD0.self (sz := s.heap.size)
  generalize hAe : va_A [(h0, .inr (5, [.int 0, .null, .null, .null, .int 0, .int 0, .int 0, .int 0, .int 0, .int 0, .int 0, .int 0]))] s.heap.size = A at hD ⊢
  have hA : ∀ q : Nat, s.heap.size ≤ q → A q := fun q h => by rw [← hAe]; exact Or.inr h
  have hS : va_S A s.heap s.heap [] := va_S.rf
  have hP : va_P D CL [(h0, .inr (5, [.int 0, .null, .null, .null, .int 0, .int 0, .int 0, .int 0, .int 0, .int 0, .int 0, .int 0]))] s.heap := hP
  have hl := lv_entry [.ref h0, .int so, .ref nm, .int mo, .int ow, .int gr] (n := 6) (Nat.le_of_ble_eq_true rfl)
  rw [lg_entry_eq]
  generalize (lg_sl [.ref h0, .int so, .ref nm, .int mo, .int ow, .int gr] ++ List.replicate (6 - (lg_sl [.ref h0, .int so, .ref nm, .int mo, .int ow, .int gr]).length) Slot.unset).toArray = ls at hl ⊢
  have hl : lv_has ls 6 [(0, .ref h0), (1, .int so), (2, .ref nm), (3, .int mo), (4, .int ow), (5, .int gr)] := hl
  refine lv_aload_n hx hb d_Node_init_0 rfl (lv_at hl 0 rfl) ?_
  refine W.objInit hx hb hown (ht9 _ k177) (ht9 _ k149) (ht9 _ kObj) rfl (by rw [hml]; exact hl.1) rfl d_Node_init_1 (Nat.le_of_ble_eq_true rfl) (Nat.le_of_ble_eq_true rfl) ?_
  refine W.eq (g2 := F0 m 4 ls []) rfl ?_
  refine lv_aload_n hx hb d_Node_init_4 rfl (lv_at hl 0 rfl) ?_
  refine lv_iload_n hx hb d_Node_init_5 rfl (lv_at hl 1 rfl) ?_
  refine va_putF (D := D) (ci := 5) (v := .int so) (ty := .int) (C := "DiscMaker$Node") (T := F_Node) (N := 12) hx hb ht9 in_Node t_Node t_Node_ok n_Node hown hK hP hD hS 0 rfl rfl 0 (by decide) (ht9 _ k178) (fun _ h9 => h9) rfl hin rfl (by decide +kernel) rfl rfl (Nat.le_of_ble_eq_true rfl) d_Node_init_6 (fun H locs hP hD hS => ?_)
  have hP : va_P D CL [(h0, .inr (5, [.int so, .null, .null, .null, .int 0, .int 0, .int 0, .int 0, .int 0, .int 0, .int 0, .int 0]))] H := hP
  have hD : va_D A [(h0, .inr (5, [.int so, .null, .null, .null, .int 0, .int 0, .int 0, .int 0, .int 0, .int 0, .int 0, .int 0]))] := hD
  refine lv_aload_n hx hb d_Node_init_9 rfl (lv_at hl 0 rfl) ?_
  refine lv_aload_n hx hb d_Node_init_10 rfl (lv_at hl 2 rfl) ?_
  refine va_putF (D := D) (ci := 5) (v := .ref nm) (ty := .array .byte) (C := "DiscMaker$Node") (T := F_Node) (N := 12) hx hb ht9 in_Node t_Node t_Node_ok n_Node hown hK hP hD hS 0 rfl rfl 1 (by decide) (ht9 _ k183) (fun _ h9 => h9) rfl hin rfl (by decide +kernel) rfl rfl (Nat.le_of_ble_eq_true rfl) d_Node_init_11 (fun H locs hP hD hS => ?_)
  have hP : va_P D CL [(h0, .inr (5, [.int so, .ref nm, .null, .null, .int 0, .int 0, .int 0, .int 0, .int 0, .int 0, .int 0, .int 0]))] H := hP
  have hD : va_D A [(h0, .inr (5, [.int so, .ref nm, .null, .null, .int 0, .int 0, .int 0, .int 0, .int 0, .int 0, .int 0, .int 0]))] := hD
  refine lv_aload_n hx hb d_Node_init_14 rfl (lv_at hl 0 rfl) ?_
  refine lv_iload_n hx hb d_Node_init_15 rfl (lv_at hl 3 rfl) ?_
  refine va_put (D := D) (ci := 5) (v := .int mo) (ty := .int) (C := "DiscMaker$Node") (T := F_Node) (N := 12) hx hb ht9 in_Node t_Node t_Node_ok n_Node hown hK hP hD hS 0 rfl rfl 7 (by decide) (ht9 _ k200) (fun _ h9 => h9) rfl (by decide +kernel) rfl rfl (Nat.le_of_ble_eq_true rfl) d_Node_init_16 (fun H locs hP hD hS => ?_)
  have hP : va_P D CL [(h0, .inr (5, [.int so, .ref nm, .null, .null, .int 0, .int 0, .int 0, .int mo, .int 0, .int 0, .int 0, .int 0]))] H := hP
  have hD : va_D A [(h0, .inr (5, [.int so, .ref nm, .null, .null, .int 0, .int 0, .int 0, .int mo, .int 0, .int 0, .int 0, .int 0]))] := hD
  refine lv_aload_n hx hb d_Node_init_19 rfl (lv_at hl 0 rfl) ?_
  refine lv_iload hx hb d_Node_init_20 (lv_at hl 4 rfl) ?_
  refine va_put (D := D) (ci := 5) (v := .int ow) (ty := .int) (C := "DiscMaker$Node") (T := F_Node) (N := 12) hx hb ht9 in_Node t_Node t_Node_ok n_Node hown hK hP hD hS 0 rfl rfl 8 (by decide) (ht9 _ k202) (fun _ h9 => h9) rfl (by decide +kernel) rfl rfl (Nat.le_of_ble_eq_true rfl) d_Node_init_22 (fun H locs hP hD hS => ?_)
  have hP : va_P D CL [(h0, .inr (5, [.int so, .ref nm, .null, .null, .int 0, .int 0, .int 0, .int mo, .int ow, .int 0, .int 0, .int 0]))] H := hP
  have hD : va_D A [(h0, .inr (5, [.int so, .ref nm, .null, .null, .int 0, .int 0, .int 0, .int mo, .int ow, .int 0, .int 0, .int 0]))] := hD
  refine lv_aload_n hx hb d_Node_init_25 rfl (lv_at hl 0 rfl) ?_
  refine lv_iload hx hb d_Node_init_26 (lv_at hl 5 rfl) ?_
  refine va_put (D := D) (ci := 5) (v := .int gr) (ty := .int) (C := "DiscMaker$Node") (T := F_Node) (N := 12) hx hb ht9 in_Node t_Node t_Node_ok n_Node hown hK hP hD hS 0 rfl rfl 9 (by decide) (ht9 _ k204) (fun _ h9 => h9) rfl (by decide +kernel) rfl rfl (Nat.le_of_ble_eq_true rfl) d_Node_init_28 (fun H locs hP hD hS => ?_)
  have hP : va_P D CL [(h0, .inr (5, [.int so, .ref nm, .null, .null, .int 0, .int 0, .int 0, .int mo, .int ow, .int gr, .int 0, .int 0]))] H := hP
  have hD : va_D A [(h0, .inr (5, [.int so, .ref nm, .null, .null, .int 0, .int 0, .int 0, .int mo, .int ow, .int gr, .int 0, .int 0]))] := hD
  refine lv_aload_n hx hb d_Node_init_31 rfl (lv_at hl 0 rfl) ?_
  refine lv_iconst (v := 0) hx hb d_Node_init_32 (by decide) ?_
  have hc_33 : 1 ≤ 2 := by decide
  have hs_33 : 0 ≤ 11 := by decide
  refine zz_newa (atype := .byte) (cK := cB) (ty := .byte) (N' := 0) (a0 := (0, .inl (fun _ => 0))) 0 (fun _ _ _ h1 h2 => Option.some.inj (h1.symm.trans h2)) rfl hx hb (ht9 _ k164) rfl hK hP hD hS hA (fun _ => rfl) (by decide) (by decide) (by decide) hc_33 hs_33 d_Node_init_33 (fun qt H hP hD hS => ?_)
  have hP : va_P D CL [(h0, .inr (5, [.int so, .ref nm, .null, .null, .int 0, .int 0, .int 0, .int mo, .int ow, .int gr, .int 0, .int 0])), (qt, .inl (cB, 0, .inl (fun _ => 0)))] H := hP
  have hD : va_D A [(h0, .inr (5, [.int so, .ref nm, .null, .null, .int 0, .int 0, .int 0, .int mo, .int ow, .int gr, .int 0, .int 0])), (qt, .inl (cB, 0, .inl (fun _ => 0)))] := hD
  refine W.widen (k := 1) (n := 0) (by decide) (by decide) ?_
  refine va_put (D := D) (ci := 5) (v := .ref qt) (ty := .array .byte) (C := "DiscMaker$Node") (T := F_Node) (N := 12) hx hb ht9 in_Node t_Node t_Node_ok n_Node hown hK hP hD hS 0 rfl rfl 3 (by decide) (ht9 _ k190) (fun _ h9 => h9) rfl (by decide +kernel) rfl rfl (Nat.le_of_ble_eq_true rfl) d_Node_init_35 (fun H locs hP hD hS => ?_)
  have hP : va_P D CL [(h0, .inr (5, [.int so, .ref nm, .null, .ref qt, .int 0, .int 0, .int 0, .int mo, .int ow, .int gr, .int 0, .int 0])), (qt, .inl (cB, 0, .inl (fun _ => 0)))] H := hP
  have hD : va_D A [(h0, .inr (5, [.int so, .ref nm, .null, .ref qt, .int 0, .int 0, .int 0, .int mo, .int ow, .int gr, .int 0, .int 0])), (qt, .inl (cB, 0, .inl (fun _ => 0)))] := hD
  refine lv_aload_n hx hb d_Node_init_38 rfl (lv_at hl 0 rfl) ?_
  refine lv_bipush (v := 11) hx hb d_Node_init_39 (by decide) ?_
  have hc_41 : 2 ≤ 2 := by decide
  have hs_41 : 11 ≤ 11 := by decide
  refine zz_newa (atype := .byte) (cK := cB) (ty := .byte) (N' := 11) (a0 := (11, .inl (fun _ => 0))) 0 (fun _ _ _ h1 h2 => Option.some.inj (h1.symm.trans h2)) rfl hx hb (ht9 _ k164) rfl hK hP hD hS hA (fun _ => rfl) (by decide) (by decide) (by decide) hc_41 hs_41 d_Node_init_41 (fun qk H hP hD hS => ?_)
  have hP : va_P D CL [(h0, .inr (5, [.int so, .ref nm, .null, .ref qt, .int 0, .int 0, .int 0, .int mo, .int ow, .int gr, .int 0, .int 0])), (qt, .inl (cB, 0, .inl (fun _ => 0))), (qk, .inl (cB, 11, .inl (fun _ => 0)))] H := hP
  have hD : va_D A [(h0, .inr (5, [.int so, .ref nm, .null, .ref qt, .int 0, .int 0, .int 0, .int mo, .int ow, .int gr, .int 0, .int 0])), (qt, .inl (cB, 0, .inl (fun _ => 0))), (qk, .inl (cB, 11, .inl (fun _ => 0)))] := hD
  refine W.widen (k := 2) (n := 11) (by decide) (by decide) ?_
  refine va_putF (D := D) (ci := 5) (v := .ref qk) (ty := .array .byte) (C := "DiscMaker$Node") (T := F_Node) (N := 12) hx hb ht9 in_Node t_Node t_Node_ok n_Node hown hK hP hD hS 0 rfl rfl 2 (by decide) (ht9 _ k188) (fun _ h9 => h9) rfl hin rfl (by decide +kernel) rfl rfl (Nat.le_of_ble_eq_true rfl) d_Node_init_43 (fun H locs hP hD hS => ?_)
  have hP : va_P D CL [(h0, .inr (5, [.int so, .ref nm, .ref qk, .ref qt, .int 0, .int 0, .int 0, .int mo, .int ow, .int gr, .int 0, .int 0])), (qt, .inl (cB, 0, .inl (fun _ => 0))), (qk, .inl (cB, 11, .inl (fun _ => 0)))] H := hP
  have hD : va_D A [(h0, .inr (5, [.int so, .ref nm, .ref qk, .ref qt, .int 0, .int 0, .int 0, .int mo, .int ow, .int gr, .int 0, .int 0])), (qt, .inl (cB, 0, .inl (fun _ => 0))), (qk, .inl (cB, 11, .inl (fun _ => 0)))] := hD
  have hP9 := hP.sub (ws' := [(h0, .inr (5, [.int so, .ref nm, .ref qk, .ref qt, .int 0, .int 0, .int 0, .int mo, .int ow, .int gr, .int 0, .int 0])), (qt, .inl (cB, 0, .inl (fun _ => 0))), (qk, .inl (cB, 11, .inl (fun _ => 0)))]) [0, 1, 2] rfl
  have hD9 := hD.sub (ws' := [(h0, .inr (5, [.int so, .ref nm, .ref qk, .ref qt, .int 0, .int 0, .int 0, .int mo, .int ow, .int gr, .int 0, .int 0])), (qt, .inl (cB, 0, .inl (fun _ => 0))), (qk, .inl (cB, 11, .inl (fun _ => 0)))]) [0, 1, 2] (by decide) rfl
  exact W.vret hx hb hr (fun t ht hW => ⟨⟨(qt, qk), rfl, trivial, by rw [ht]; exact hP9, hD9⟩, hS.F ht⟩) hS.2.2 d_Node_init_46

theorem d_Tree_init_0 : decode b_Tree_init 0 = .ok (.aload_n 0, 1) := by decide +kernel
theorem d_Tree_init_1 : decode b_Tree_init 1 = .ok (.invokespecial 3, 3) := by decide +kernel
theorem d_Tree_init_4 : decode b_Tree_init 4 = .ok (.aload_n 0, 1) := by decide +kernel
theorem d_Tree_init_5 : decode b_Tree_init 5 = .ok (.bipush 40, 2) := by decide +kernel
theorem d_Tree_init_7 : decode b_Tree_init 7 = .ok (.anewarray 9, 3) := by decide +kernel
theorem d_Tree_init_10 : decode b_Tree_init 10 = .ok (.putfield 11, 3) := by decide +kernel
theorem d_Tree_init_13 : decode b_Tree_init 13 = .ok (.aload_n 0, 1) := by decide +kernel
theorem d_Tree_init_14 : decode b_Tree_init 14 = .ok (.getfield 11, 3) := by decide +kernel
theorem d_Tree_init_17 : decode b_Tree_init 17 = .ok (.iconst 0, 1) := by decide +kernel
theorem d_Tree_init_18 : decode b_Tree_init 18 = .ok (.new 9, 3) := by decide +kernel
theorem d_Tree_init_21 : decode b_Tree_init 21 = .ok (.dup, 1) := by decide +kernel
theorem d_Tree_init_22 : decode b_Tree_init 22 = .ok (.iconst 0, 1) := by decide +kernel
theorem d_Tree_init_23 : decode b_Tree_init 23 = .ok (.iconst 0, 1) := by decide +kernel
theorem d_Tree_init_24 : decode b_Tree_init 24 = .ok (.newarray .byte, 2) := by decide +kernel
theorem d_Tree_init_26 : decode b_Tree_init 26 = .ok (.sipush 16877, 3) := by decide +kernel
theorem d_Tree_init_29 : decode b_Tree_init 29 = .ok (.iconst 0, 1) := by decide +kernel
theorem d_Tree_init_30 : decode b_Tree_init 30 = .ok (.iconst 0, 1) := by decide +kernel
theorem d_Tree_init_31 : decode b_Tree_init 31 = .ok (.invokespecial 17, 3) := by decide +kernel
theorem d_Tree_init_34 : decode b_Tree_init 34 = .ok (.aastore, 1) := by decide +kernel
theorem d_Tree_init_35 : decode b_Tree_init 35 = .ok (.aload_n 0, 1) := by decide +kernel
theorem d_Tree_init_36 : decode b_Tree_init 36 = .ok (.iconst 1, 1) := by decide +kernel
theorem d_Tree_init_37 : decode b_Tree_init 37 = .ok (.putfield 20, 3) := by decide +kernel
theorem d_Tree_init_40 : decode b_Tree_init 40 = .ok (.aload_n 0, 1) := by decide +kernel
theorem d_Tree_init_41 : decode b_Tree_init 41 = .ok (.iconst 1, 1) := by decide +kernel
theorem d_Tree_init_42 : decode b_Tree_init 42 = .ok (.putfield 24, 3) := by decide +kernel
theorem d_Tree_init_45 : decode b_Tree_init 45 = .ok (.return_, 1) := by decide +kernel
set_option maxHeartbeats 4000000 in
set_option maxRecDepth 100000 in
theorem c_Tree_init (l : Launch) (D : va_G) (cB cI cJ cZ cN cF : ClassId) (sz : Nat) (h0 : Nat) : Met l y_Tree_init w_Tree_init ({ frames := 2, cells := 5, slots := 63, locals := 49 }) (va_Pc [.ref h0] (fun U => U.heap.size = sz ∧ va_P D CL [(h0, .inr (10, [.null, .int 0, .int 0]))] U.heap ∧ va_K D CL (TY cB cI cJ cZ cN cF) U ∧ NN U ∧ va_D (fun _ => True) [(h0, .inr (10, [.null, .int 0, .int 0]))])) (va_Qv (fun (u : Nat × Nat × Nat × Nat × Nat) => True) (fun (u : Nat × Nat × Nat × Nat × Nat) (t : State) => match u with | (qa, qn, qm, qt, qk) => va_P D CL [(h0, .inr (10, [.ref qa, .int 1, .int 1])), (qa, .inl (cN, 40, .inr (.inr (.inr (.inr (va_up (fun _ => none) 0 (some qn))))))), (qn, .inr (5, [.int 0, .ref qm, .ref qk, .ref qt, .int 0, .int 0, .int 0, .int 16877, .int 0, .int 0, .int 0, .int 0])), (qm, .inl (cB, 0, .inl (fun _ => 0))), (qt, .inl (cB, 0, .inl (fun _ => 0))), (qk, .inl (cB, 11, .inl (fun _ => 0)))] t.heap ∧ va_D (va_A [(h0, .inr (10, [.null, .int 0, .int 0]))] sz) [(h0, .inr (10, [.ref qa, .int 1, .int 1])), (qa, .inl (cN, 40, .inr (.inr (.inr (.inr (va_up (fun _ => none) 0 (some qn))))))), (qn, .inr (5, [.int 0, .ref qm, .ref qk, .ref qt, .int 0, .int 0, .int 0, .int 16877, .int 0, .int 0, .int 0, .int 0])), (qm, .inl (cB, 0, .inl (fun _ => 0))), (qt, .inl (cB, 0, .inl (fun _ => 0))), (qk, .inl (cB, 11, .inl (fun _ => 0)))]) (va_A [(h0, .inr (10, [.null, .int 0, .int 0]))] sz)) 5 63 (va_A [(h0, .inr (10, [.null, .int 0, .int 0]))] sz) := by
  refine Met.ofW (cc := b_Tree_init) (maxL := 1) (ret := none) (by decide) rfl ?_
  intro p e s m args below meth c s₁ B hml hv
  obtain ⟨rfl, hsz, hP, hK, hN, hD0⟩ := hv
  have hx := B.exec
  have hb := B.bytes
  have hr := B.returns
  have hts := atoms_spec (ws := w_Tree_init) B.pre
  have ht9 := fun (w : Cond) (h : w ∈ lw_g) => hts w (List.mem_cons_of_mem _ h)
  have hown : s.vm.findClass "DiscMaker$Tree" = some m.cls := findClass_of_methodNamed B.named
  have hlocks := B.notSynchronized
  have hin : meth.name = "<init>" := (name_of_methodNamed B.named B.method).1
  subst hsz
  have hD := hD0.self (sz := s.heap.size)
  generalize hAe : va_A [(h0, .inr (10, [.null, .int 0, .int 0]))] s.heap.size = A at hD ⊢
  have hA : ∀ q : Nat, s.heap.size ≤ q → A q := fun q h => by rw [← hAe]; exact Or.inr h
  have hS : va_S A s.heap s.heap [] := va_S.rf
  have hP : va_P D CL [(h0, .inr (10, [.null, .int 0, .int 0]))] s.heap := hP
  have hl := lv_entry [.ref h0] (n := 1) (Nat.le_of_ble_eq_true rfl)
  rw [lg_entry_eq]
  generalize (lg_sl [.ref h0] ++ List.replicate (1 - (lg_sl [.ref h0]).length) Slot.unset).toArray = ls at hl ⊢
  have hl : lv_has ls 1 [(0, .ref h0)] := hl
  refine lv_aload_n hx hb d_Tree_init_0 rfl (lv_at hl 0 rfl) ?_
  refine W.objInit hx hb hown (ht9 _ k170) (ht9 _ k149) (ht9 _ kObj) rfl (by rw [hml]; exact hl.1) rfl d_Tree_init_1 (Nat.le_of_ble_eq_true rfl) (Nat.le_of_ble_eq_true rfl) ?_
  refine W.eq (g2 := F0 m 4 ls []) rfl ?_
  refine lv_aload_n hx hb d_Tree_init_4 rfl (lv_at hl 0 rfl) ?_
  refine lv_bipush (v := 40) hx hb d_Tree_init_5 (by decide) ?_
  have hc_7 : 1 ≤ 5 := by decide
  have hs_7 : 40 ≤ 63 := by decide
  refine zz_newq (cK := cN) (N' := 40) 4 rfl hx hb hown (ht9 _ k171) (hN _ k172) hK hP hD hS hA (by decide) (by decide) (by decide) hc_7 hs_7 d_Tree_init_7 (fun qa H hP hD hS => ?_)
  have hP : va_P D CL [(h0, .inr (10, [.null, .int 0, .int 0])), (qa, .inl (cN, 40, .inr (.inr (.inr (.inr (fun _ => none))))))] H := hP
  have hD : va_D A [(h0, .inr (10, [.null, .int 0, .int 0])), (qa, .inl (cN, 40, .inr (.inr (.inr (.inr (fun _ => none))))))] := hD
  refine W.widen (k := 1) (n := 40) (by decide) (by decide) ?_
  refine va_putF (D := D) (ci := 10) (v := .ref qa) (ty := .array (.object "DiscMaker$Node")) (C := "DiscMaker$Tree") (T := F_Tree) (N := 3) hx hb ht9 in_Tree t_Tree t_Tree_ok n_Tree hown hK hP hD hS 0 rfl rfl 0 (by decide) (ht9 _ k235) (fun _ h9 => h9) rfl hin rfl (by decide +kernel) rfl rfl (Nat.le_of_ble_eq_true rfl) d_Tree_init_10 (fun H locs hP hD hS => ?_)
  have hP : va_P D CL [(h0, .inr (10, [.ref qa, .int 0, .int 0])), (qa, .inl (cN, 40, .inr (.inr (.inr (.inr (fun _ => none))))))] H := hP
  have hD : va_D A [(h0, .inr (10, [.ref qa, .int 0, .int 0])), (qa, .inl (cN, 40, .inr (.inr (.inr (.inr (fun _ => none))))))] := hD
  refine lv_aload_n hx hb d_Tree_init_13 rfl (lv_at hl 0 rfl) ?_
  refine va_get (D := D) (ci := 10) (v := .ref qa) (C := "DiscMaker$Tree") (T := F_Tree) (N := 3) hx hb ht9 in_Tree hown hK hP 0 rfl rfl 0 (by decide) (ht9 _ k235) (fun _ h9 => h9) rfl d_Tree_init_14 ?_
  refine lv_iconst (v := 0) hx hb d_Tree_init_17 (by decide) ?_
  have hc_18 : 2 ≤ 5 := by decide
  have hs_18 : 52 ≤ 63 := by decide
  refine va_new (ci := 5) (fs := [.int 0, .null, .null, .null, .int 0, .int 0, .int 0, .int 0, .int 0, .int 0, .int 0, .int 0]) (C := "DiscMaker$Node") (T := F_Node) (N := 12) hx hb ht9 in_Node t_Node t_Node_ok hown (ht9 _ k171) (ht9 _ k173) (ht9 _ k118) hK hP hD hS hA rfl (by decide) hc_18 hs_18 d_Tree_init_18 (fun qn H hP hD hS => ?_)
  have hP : va_P D CL [(h0, .inr (10, [.ref qa, .int 0, .int 0])), (qa, .inl (cN, 40, .inr (.inr (.inr (.inr (fun _ => none)))))), (qn, .inr (5, [.int 0, .null, .null, .null, .int 0, .int 0, .int 0, .int 0, .int 0, .int 0, .int 0, .int 0]))] H := hP
  have hD : va_D A [(h0, .inr (10, [.ref qa, .int 0, .int 0])), (qa, .inl (cN, 40, .inr (.inr (.inr (.inr (fun _ => none)))))), (qn, .inr (5, [.int 0, .null, .null, .null, .int 0, .int 0, .int 0, .int 0, .int 0, .int 0, .int 0, .int 0]))] := hD
  refine W.widen (k := 2) (n := 52) (by decide) (by decide) ?_
  refine lv_dup hx hb d_Tree_init_21 rfl ?_
  refine lv_iconst (v := 0) hx hb d_Tree_init_22 (by decide) ?_
  refine lv_iconst (v := 0) hx hb d_Tree_init_23 (by decide) ?_
  have hc_24 : 3 ≤ 5 := by decide
  have hs_24 : 52 ≤ 63 := by decide
  refine zz_newa (atype := .byte) (cK := cB) (ty := .byte) (N' := 0) (a0 := (0, .inl (fun _ => 0))) 0 (fun _ _ _ h1 h2 => Option.some.inj (h1.symm.trans h2)) rfl hx hb (ht9 _ k164) rfl hK hP hD hS hA (fun _ => rfl) (by decide) (by decide) (by decide) hc_24 hs_24 d_Tree_init_24 (fun qm H hP hD hS => ?_)
  have hP : va_P D CL [(h0, .inr (10, [.ref qa, .int 0, .int 0])), (qa, .inl (cN, 40, .inr (.inr (.inr (.inr (fun _ => none)))))), (qn, .inr (5, [.int 0, .null, .null, .null, .int 0, .int 0, .int 0, .int 0, .int 0, .int 0, .int 0, .int 0])), (qm, .inl (cB, 0, .inl (fun _ => 0)))] H := hP
  have hD : va_D A [(h0, .inr (10, [.ref qa, .int 0, .int 0])), (qa, .inl (cN, 40, .inr (.inr (.inr (.inr (fun _ => none)))))), (qn, .inr (5, [.int 0, .null, .null, .null, .int 0, .int 0, .int 0, .int 0, .int 0, .int 0, .int 0, .int 0])), (qm, .inl (cB, 0, .inl (fun _ => 0)))] := hD
  refine W.widen (k := 3) (n := 52) (by decide) (by decide) ?_
  refine lv_sipush (v := 16877) hx hb d_Tree_init_26 (by decide) ?_
  refine lv_iconst (v := 0) hx hb d_Tree_init_29 (by decide) ?_
  refine lv_iconst (v := 0) hx hb d_Tree_init_30 (by decide) ?_
  have hPc := hP.sub (ws' := [(qn, .inr (5, [.int 0, .null, .null, .null, .int 0, .int 0, .int 0, .int 0, .int 0, .int 0, .int 0, .int 0]))]) [2] rfl
  have hDc := hD.sub (ws' := [(qn, .inr (5, [.int 0, .null, .null, .null, .int 0, .int 0, .int 0, .int 0, .int 0, .int 0, .int 0, .int 0]))]) [2] (by decide) rfl
  have hFc := va_free (wc := [(qn, .inr (5, [.int 0, .null, .null, .null, .int 0, .int 0, .int 0, .int 0, .int 0, .int 0, .int 0, .int 0]))]) hD hS hA [2] rfl
  have hkc : 5 ≤ 5 := by decide
  have hks : 63 ≤ 63 := by decide
  refine va_callv (va_runI (As := [.int 0, .ref qm, .int 16877, .int 0, .int 0]) (rest := [.ref qn, .int 0, .ref qa]) ⟨hx, hb, hml, hown, hts⟩ (c_Node_init l D cB cI cJ cZ cN cF H.size qn qm 0 16877 0 0) (cwI 5 hts (lg_good kc_Node_init) rfl rfl rfl (ht9 _ k118) (ht9 _ k174) (ht9 _ k175) rfl (by decide +kernel) ⟨Nat.le_of_ble_eq_true rfl, Nat.le_of_ble_eq_true rfl⟩) ⟨fun a U g mk q => by obtain ⟨q0, q1, qP, qK, qN, qD⟩ := q; exact ⟨q0, q1, qP, va_K.moved (u := U) (U := U.calling g mk a) (Vm.Alike.refl U.vm) qK, qN.calling, qD⟩, fun U hU hW => ⟨rfl, by rw [hU], by rw [hU]; exact hPc, va_K.moved hW.alike hK, NN.warm hW hN, hDc.weaken (fun _ _ _ _ => trivial)⟩⟩ rfl rfl hl.1 rfl (lv_room (Nat.le_of_ble_eq_true rfl)) d_Tree_init_31 ⟨hkc, hks⟩) hS (fun q _ h => hFc q h) hFc (fun u t H1 locs ht hvm hp_31 hB hz1 hk1 hS => ?_)
  obtain ⟨qt, qk⟩ := u
  obtain ⟨hP1, hD1⟩ := hB
  rw [ht] at hP1
  obtain ⟨hP, hD⟩ := va_join (wr := [(h0, .inr (10, [.ref qa, .int 0, .int 0])), (qa, .inl (cN, 40, .inr (.inr (.inr (.inr (fun _ => none)))))), (qm, .inl (cB, 0, .inl (fun _ => 0)))]) (w1 := [(qn, .inr (5, [.int 0, .ref qm, .ref qk, .ref qt, .int 0, .int 0, .int 0, .int 16877, .int 0, .int 0, .int 0, .int 0])), (qt, .inl (cB, 0, .inl (fun _ => 0))), (qk, .inl (cB, 11, .inl (fun _ => 0)))]) hP hD [2] [0, 1, 3] rfl rfl (by decide) (by decide) hk1 hFc hP1 hD1
  clear hPc hDc hFc hP1 hD1 hk1 hz1
  generalize H1 = H at hP hS ⊢
  have hP : va_P D CL [(h0, .inr (10, [.ref qa, .int 0, .int 0])), (qa, .inl (cN, 40, .inr (.inr (.inr (.inr (fun _ => none)))))), (qm, .inl (cB, 0, .inl (fun _ => 0))), (qn, .inr (5, [.int 0, .ref qm, .ref qk, .ref qt, .int 0, .int 0, .int 0, .int 16877, .int 0, .int 0, .int 0, .int 0])), (qt, .inl (cB, 0, .inl (fun _ => 0))), (qk, .inl (cB, 11, .inl (fun _ => 0)))] H := hP
  have hD : va_D A [(h0, .inr (10, [.ref qa, .int 0, .int 0])), (qa, .inl (cN, 40, .inr (.inr (.inr (.inr (fun _ => none)))))), (qm, .inl (cB, 0, .inl (fun _ => 0))), (qn, .inr (5, [.int 0, .ref qm, .ref qk, .ref qt, .int 0, .int 0, .int 0, .int 16877, .int 0, .int 0, .int 0, .int 0])), (qt, .inl (cB, 0, .inl (fun _ => 0))), (qk, .inl (cB, 11, .inl (fun _ => 0)))] := hD
  refine W.widen (k := 5) (n := 63) (by decide) (by decide) ?_
  refine va_astq hx hb hK hP hD hS 1 4 3 5 rfl rfl rfl rfl (by unfold vp_in; decide) d_Tree_init_34 (fun H locs hP hD hS => ?_)
  have hP : va_P D CL [(h0, .inr (10, [.ref qa, .int 0, .int 0])), (qa, .inl (cN, 40, .inr (.inr (.inr (.inr (va_up (fun _ => none) 0 (some qn))))))), (qm, .inl (cB, 0, .inl (fun _ => 0))), (qn, .inr (5, [.int 0, .ref qm, .ref qk, .ref qt, .int 0, .int 0, .int 0, .int 16877, .int 0, .int 0, .int 0, .int 0])), (qt, .inl (cB, 0, .inl (fun _ => 0))), (qk, .inl (cB, 11, .inl (fun _ => 0)))] H := hP
  have hD : va_D A [(h0, .inr (10, [.ref qa, .int 0, .int 0])), (qa, .inl (cN, 40, .inr (.inr (.inr (.inr (va_up (fun _ => none) 0 (some qn))))))), (qm, .inl (cB, 0, .inl (fun _ => 0))), (qn, .inr (5, [.int 0, .ref qm, .ref qk, .ref qt, .int 0, .int 0, .int 0, .int 16877, .int 0, .int 0, .int 0, .int 0])), (qt, .inl (cB, 0, .inl (fun _ => 0))), (qk, .inl (cB, 11, .inl (fun _ => 0)))] := hD
  refine lv_aload_n hx hb d_Tree_init_35 rfl (lv_at hl 0 rfl) ?_
  refine lv_iconst (v := 1) hx hb d_Tree_init_36 (by decide) ?_
  refine va_put (D := D) (ci := 10) (v := .int 1) (ty := .int) (C := "DiscMaker$Tree") (T := F_Tree) (N := 3) hx hb ht9 in_Tree t_Tree t_Tree_ok n_Tree hown hK hP hD hS 0 rfl rfl 1 (by decide) (ht9 _ k239) (fun _ h9 => h9) rfl (by decide +kernel) rfl rfl (Nat.le_of_ble_eq_true rfl) d_Tree_init_37 (fun H locs hP hD hS => ?_)
  have hP : va_P D CL [(h0, .inr (10, [.ref qa, .int 1, .int 0])), (qa, .inl (cN, 40, .inr (.inr (.inr (.inr (va_up (fun _ => none) 0 (some qn))))))), (qm, .inl (cB, 0, .inl (fun _ => 0))), (qn, .inr (5, [.int 0, .ref qm, .ref qk, .ref qt, .int 0, .int 0, .int 0, .int 16877, .int 0, .int 0, .int 0, .int 0])), (qt, .inl (cB, 0, .inl (fun _ => 0))), (qk, .inl (cB, 11, .inl (fun _ => 0)))] H := hP
  have hD : va_D A [(h0, .inr (10, [.ref qa, .int 1, .int 0])), (qa, .inl (cN, 40, .inr (.inr (.inr (.inr (va_up (fun _ => none) 0 (some qn))))))), (qm, .inl (cB, 0, .inl (fun _ => 0))), (qn, .inr (5, [.int 0, .ref qm, .ref qk, .ref qt, .int 0, .int 0, .int 0, .int 16877, .int 0, .int 0, .int 0, .int 0])), (qt, .inl (cB, 0, .inl (fun _ => 0))), (qk, .inl (cB, 11, .inl (fun _ => 0)))] := hD
  refine lv_aload_n hx hb d_Tree_init_40 rfl (lv_at hl 0 rfl) ?_
  refine lv_iconst (v := 1) hx hb d_Tree_init_41 (by decide) ?_
  refine va_put (D := D) (ci := 10) (v := .int 1) (ty := .int) (C := "DiscMaker$Tree") (T := F_Tree) (N := 3) hx hb ht9 in_Tree t_Tree t_Tree_ok n_Tree hown hK hP hD hS 0 rfl rfl 2 (by decide) (ht9 _ k242) (fun _ h9 => h9) rfl (by decide +kernel) rfl rfl (Nat.le_of_ble_eq_true rfl) d_Tree_init_42 (fun H locs hP hD hS => ?_)
  have hP : va_P D CL [(h0, .inr (10, [.ref qa, .int 1, .int 1])), (qa, .inl (cN, 40, .inr (.inr (.inr (.inr (va_up (fun _ => none) 0 (some qn))))))), (qm, .inl (cB, 0, .inl (fun _ => 0))), (qn, .inr (5, [.int 0, .ref qm, .ref qk, .ref qt, .int 0, .int 0, .int 0, .int 16877, .int 0, .int 0, .int 0, .int 0])), (qt, .inl (cB, 0, .inl (fun _ => 0))), (qk, .inl (cB, 11, .inl (fun _ => 0)))] H := hP
  have hD : va_D A [(h0, .inr (10, [.ref qa, .int 1, .int 1])), (qa, .inl (cN, 40, .inr (.inr (.inr (.inr (va_up (fun _ => none) 0 (some qn))))))), (qm, .inl (cB, 0, .inl (fun _ => 0))), (qn, .inr (5, [.int 0, .ref qm, .ref qk, .ref qt, .int 0, .int 0, .int 0, .int 16877, .int 0, .int 0, .int 0, .int 0])), (qt, .inl (cB, 0, .inl (fun _ => 0))), (qk, .inl (cB, 11, .inl (fun _ => 0)))] := hD
  have hP9 := hP.sub (ws' := [(h0, .inr (10, [.ref qa, .int 1, .int 1])), (qa, .inl (cN, 40, .inr (.inr (.inr (.inr (va_up (fun _ => none) 0 (some qn))))))), (qn, .inr (5, [.int 0, .ref qm, .ref qk, .ref qt, .int 0, .int 0, .int 0, .int 16877, .int 0, .int 0, .int 0, .int 0])), (qm, .inl (cB, 0, .inl (fun _ => 0))), (qt, .inl (cB, 0, .inl (fun _ => 0))), (qk, .inl (cB, 11, .inl (fun _ => 0)))]) [0, 1, 3, 2, 4, 5] rfl
  have hD9 := hD.sub (ws' := [(h0, .inr (10, [.ref qa, .int 1, .int 1])), (qa, .inl (cN, 40, .inr (.inr (.inr (.inr (va_up (fun _ => none) 0 (some qn))))))), (qn, .inr (5, [.int 0, .ref qm, .ref qk, .ref qt, .int 0, .int 0, .int 0, .int 16877, .int 0, .int 0, .int 0, .int 0])), (qm, .inl (cB, 0, .inl (fun _ => 0))), (qt, .inl (cB, 0, .inl (fun _ => 0))), (qk, .inl (cB, 11, .inl (fun _ => 0)))]) [0, 1, 3, 2, 4, 5] (by decide) rfl
  exact W.vret hx hb hr (fun t ht hW => ⟨⟨(qa, qn, qm, qt, qk), rfl, trivial, by rw [ht]; exact hP9, hD9⟩, hS.F ht⟩) hS.2.2 d_Tree_init_45

theorem d_SystemUse_init_0 : decode b_SystemUse_init 0 = .ok (.aload_n 0, 1) := by decide +kernel
theorem d_SystemUse_init_1 : decode b_SystemUse_init 1 = .ok (.invokespecial 3, 3) := by decide +kernel
theorem d_SystemUse_init_4 : decode b_SystemUse_init 4 = .ok (.aload_n 0, 1) := by decide +kernel
theorem d_SystemUse_init_5 : decode b_SystemUse_init 5 = .ok (.new 9, 3) := by decide +kernel
theorem d_SystemUse_init_8 : decode b_SystemUse_init 8 = .ok (.dup, 1) := by decide +kernel
theorem d_SystemUse_init_9 : decode b_SystemUse_init 9 = .ok (.sipush 400, 3) := by decide +kernel
theorem d_SystemUse_init_12 : decode b_SystemUse_init 12 = .ok (.invokespecial 13, 3) := by decide +kernel
theorem d_SystemUse_init_15 : decode b_SystemUse_init 15 = .ok (.putfield 16, 3) := by decide +kernel
theorem d_SystemUse_init_18 : decode b_SystemUse_init 18 = .ok (.aload_n 0, 1) := by decide +kernel
theorem d_SystemUse_init_19 : decode b_SystemUse_init 19 = .ok (.iconst 4, 1) := by decide +kernel
theorem d_SystemUse_init_20 : decode b_SystemUse_init 20 = .ok (.newarray .int, 2) := by decide +kernel
theorem d_SystemUse_init_22 : decode b_SystemUse_init 22 = .ok (.putfield 20, 3) := by decide +kernel
theorem d_SystemUse_init_25 : decode b_SystemUse_init 25 = .ok (.return_, 1) := by decide +kernel
set_option maxHeartbeats 4000000 in
set_option maxRecDepth 100000 in
theorem c_SystemUse_init (l : Launch) (D : va_G) (cB cI cJ cZ cN cF : ClassId) (sz : Nat) (h0 : Nat) : Met l y_SystemUse_init w_SystemUse_init ({ frames := 2, cells := 3, slots := 406, locals := 45 }) (va_Pc [.ref h0] (fun U => U.heap.size = sz ∧ va_P D CL [(h0, .inr (8, [.null, .null, .int 0, .int 0]))] U.heap ∧ va_K D CL (TY cB cI cJ cZ cN cF) U ∧ NN U ∧ va_D (fun _ => True) [(h0, .inr (8, [.null, .null, .int 0, .int 0]))])) (va_Qv (fun (u : Nat × Nat × Nat) => True) (fun (u : Nat × Nat × Nat) (t : State) => match u with | (qb, qr, qe) => va_P D CL [(h0, .inr (8, [.ref qb, .ref qe, .int 0, .int 0])), (qb, .inr (1, [.ref qr, .int 0])), (qr, .inl (cB, 400, .inl (fun _ => 0))), (qe, .inl (cI, 4, .inl (fun _ => 0)))] t.heap ∧ va_D (va_A [(h0, .inr (8, [.null, .null, .int 0, .int 0]))] sz) [(h0, .inr (8, [.ref qb, .ref qe, .int 0, .int 0])), (qb, .inr (1, [.ref qr, .int 0])), (qr, .inl (cB, 400, .inl (fun _ => 0))), (qe, .inl (cI, 4, .inl (fun _ => 0)))]) (va_A [(h0, .inr (8, [.null, .null, .int 0, .int 0]))] sz)) 3 406 (va_A [(h0, .inr (8, [.null, .null, .int 0, .int 0]))] sz) := by
  refine Met.ofW (cc := b_SystemUse_init) (maxL := 1) (ret := none) (by decide) rfl ?_
  intro p e s m args below meth c s₁ B hml hv
  obtain ⟨rfl, hsz, hP, hK, hN, hD0⟩ := hv
  have hx := B.exec
  have hb := B.bytes
  have hr := B.returns
  have hts := atoms_spec (ws := w_SystemUse_init) B.pre
  have ht9 := fun (w : Cond) (h : w ∈ lw_g) => hts w (List.mem_cons_of_mem _ h)
  have hown : s.vm.findClass "DiscMaker$SystemUse" = some m.cls := findClass_of_methodNamed B.named
  have hlocks := B.notSynchronized
  have hin : meth.name = "<init>" := (name_of_methodNamed B.named B.method).1
  subst hsz
  have hD := hD0.self (sz := s.heap.size)
  generalize hAe : va_A [(h0, .inr (8, [.null, .null, .int 0, .int 0]))] s.heap.size = A at hD ⊢
  have hA : ∀ q : Nat, s.heap.size ≤ q → A q := fun q h => by rw [← hAe]; exact Or.inr h
  have hS : va_S A s.heap s.heap [] := va_S.rf
  have hP : va_P D CL [(h0, .inr (8, [.null, .null, .int 0, .int 0]))] s.heap := hP
  have hl := lv_entry [.ref h0] (n := 1) (Nat.le_of_ble_eq_true rfl)
  rw [lg_entry_eq]
  generalize (lg_sl [.ref h0] ++ List.replicate (1 - (lg_sl [.ref h0]).length) Slot.unset).toArray = ls at hl ⊢
  have hl : lv_has ls 1 [(0, .ref h0)] := hl
  refine lv_aload_n hx hb d_SystemUse_init_0 rfl (lv_at hl 0 rfl) ?_
  refine W.objInit hx hb hown (ht9 _ k327) (ht9 _ k149) (ht9 _ kObj) rfl (by rw [hml]; exact hl.1) rfl d_SystemUse_init_1 (Nat.le_of_ble_eq_true rfl) (Nat.le_of_ble_eq_true rfl) ?_
  refine W.eq (g2 := F0 m 4 ls []) rfl ?_
  refine lv_aload_n hx hb d_SystemUse_init_4 rfl (lv_at hl 0 rfl) ?_
  have hc_5 : 1 ≤ 3 := by decide
  have hs_5 : 2 ≤ 406 := by decide
  refine va_new (ci := 1) (fs := [.null, .int 0]) (C := "DiscMaker$Bytes") (T := F_Bytes) (N := 2) hx hb ht9 in_Bytes t_Bytes t_Bytes_ok hown (ht9 _ k328) (ht9 _ k251) (ht9 _ k119) hK hP hD hS hA rfl (by decide) hc_5 hs_5 d_SystemUse_init_5 (fun qb H hP hD hS => ?_)
  have hP : va_P D CL [(h0, .inr (8, [.null, .null, .int 0, .int 0])), (qb, .inr (1, [.null, .int 0]))] H := hP
  have hD : va_D A [(h0, .inr (8, [.null, .null, .int 0, .int 0])), (qb, .inr (1, [.null, .int 0]))] := hD
  refine W.widen (k := 1) (n := 2) (by decide) (by decide) ?_
  refine lv_dup hx hb d_SystemUse_init_8 rfl ?_
  refine lv_sipush (v := 400) hx hb d_SystemUse_init_9 (by decide) ?_
  have hPc := hP.sub (ws' := [(qb, .inr (1, [.null, .int 0]))]) [1] rfl
  have hDc := hD.sub (ws' := [(qb, .inr (1, [.null, .int 0]))]) [1] (by decide) rfl
  have hFc := va_free (wc := [(qb, .inr (1, [.null, .int 0]))]) hD hS hA [1] rfl
  have hkc : 2 ≤ 3 := by decide
  have hks : 402 ≤ 406 := by decide
  refine va_callv (va_runI (As := [.int 400]) (rest := [.ref qb, .ref h0]) ⟨hx, hb, hml, hown, hts⟩ (c_Bytes_init_400 l D cB cI cJ cZ cN cF H.size qb) (cwI 1 hts (lg_good kc_Bytes_init) rfl rfl rfl (ht9 _ k119) (ht9 _ k329) (ht9 _ k253) rfl (by decide +kernel) ⟨Nat.le_of_ble_eq_true rfl, Nat.le_of_ble_eq_true rfl⟩) ⟨fun a U g mk q => by obtain ⟨q0, q1, qP, qK, qN, qD⟩ := q; exact ⟨q0, q1, qP, va_K.moved (u := U) (U := U.calling g mk a) (Vm.Alike.refl U.vm) qK, qN.calling, qD⟩, fun U hU hW => ⟨rfl, by rw [hU], by rw [hU]; exact hPc, va_K.moved hW.alike hK, NN.warm hW hN, hDc.weaken (fun _ _ _ _ => trivial)⟩⟩ rfl rfl hl.1 rfl (lv_room (Nat.le_of_ble_eq_true rfl)) d_SystemUse_init_12 ⟨hkc, hks⟩) hS (fun q _ h => hFc q h) hFc (fun u t H1 locs ht hvm hp_12 hB hz1 hk1 hS => ?_)
  obtain ⟨qr, rfl⟩ : ∃ z, z = u := ⟨_, rfl⟩
  obtain ⟨hP1, hD1⟩ := hB
  rw [ht] at hP1
  obtain ⟨hP, hD⟩ := va_join (wr := [(h0, .inr (8, [.null, .null, .int 0, .int 0]))]) (w1 := [(qb, .inr (1, [.ref qr, .int 0])), (qr, .inl (cB, 400, .inl (fun _ => 0)))]) hP hD [1] [0] rfl rfl (by decide) (by decide) hk1 hFc hP1 hD1
  clear hPc hDc hFc hP1 hD1 hk1 hz1
  generalize H1 = H at hP hS ⊢
  have hP : va_P D CL [(h0, .inr (8, [.null, .null, .int 0, .int 0])), (qb, .inr (1, [.ref qr, .int 0])), (qr, .inl (cB, 400, .inl (fun _ => 0)))] H := hP
  have hD : va_D A [(h0, .inr (8, [.null, .null, .int 0, .int 0])), (qb, .inr (1, [.ref qr, .int 0])), (qr, .inl (cB, 400, .inl (fun _ => 0)))] := hD
  refine W.widen (k := 2) (n := 402) (by decide) (by decide) ?_
  refine va_putF (D := D) (ci := 8) (v := .ref qb) (ty := .object "DiscMaker$Bytes") (C := "DiscMaker$SystemUse") (T := F_SystemUse) (N := 4) hx hb ht9 in_SystemUse t_SystemUse t_SystemUse_ok n_SystemUse hown hK hP hD hS 0 rfl rfl 0 (by decide) (ht9 _ k330) (fun _ h9 => h9) rfl hin rfl (by decide +kernel) rfl rfl (Nat.le_of_ble_eq_true rfl) d_SystemUse_init_15 (fun H locs hP hD hS => ?_)
  have hP : va_P D CL [(h0, .inr (8, [.ref qb, .null, .int 0, .int 0])), (qb, .inr (1, [.ref qr, .int 0])), (qr, .inl (cB, 400, .inl (fun _ => 0)))] H := hP
  have hD : va_D A [(h0, .inr (8, [.ref qb, .null, .int 0, .int 0])), (qb, .inr (1, [.ref qr, .int 0])), (qr, .inl (cB, 400, .inl (fun _ => 0)))] := hD
  refine lv_aload_n hx hb d_SystemUse_init_18 rfl (lv_at hl 0 rfl) ?_
  refine lv_iconst (v := 4) hx hb d_SystemUse_init_19 (by decide) ?_
  have hc_20 : 3 ≤ 3 := by decide
  have hs_20 : 406 ≤ 406 := by decide
  refine zz_newa (atype := .int) (cK := cI) (ty := .int) (N' := 4) (a0 := (4, .inl (fun _ => 0))) 1 (fun _ _ _ h1 h2 => Option.some.inj (h1.symm.trans h2)) rfl hx hb (ht9 _ k321) rfl hK hP hD hS hA (fun _ => rfl) (by decide) (by decide) (by decide) hc_20 hs_20 d_SystemUse_init_20 (fun qe H hP hD hS => ?_)
  have hP : va_P D CL [(h0, .inr (8, [.ref qb, .null, .int 0, .int 0])), (qb, .inr (1, [.ref qr, .int 0])), (qr, .inl (cB, 400, .inl (fun _ => 0))), (qe, .inl (cI, 4, .inl (fun _ => 0)))] H := hP
  have hD : va_D A [(h0, .inr (8, [.ref qb, .null, .int 0, .int 0])), (qb, .inr (1, [.ref qr, .int 0])), (qr, .inl (cB, 400, .inl (fun _ => 0))), (qe, .inl (cI, 4, .inl (fun _ => 0)))] := hD
  refine W.widen (k := 3) (n := 406) (by decide) (by decide) ?_
  refine va_putF (D := D) (ci := 8) (v := .ref qe) (ty := .array .int) (C := "DiscMaker$SystemUse") (T := F_SystemUse) (N := 4) hx hb ht9 in_SystemUse t_SystemUse t_SystemUse_ok n_SystemUse hown hK hP hD hS 0 rfl rfl 1 (by decide) (ht9 _ k332) (fun _ h9 => h9) rfl hin rfl (by decide +kernel) rfl rfl (Nat.le_of_ble_eq_true rfl) d_SystemUse_init_22 (fun H locs hP hD hS => ?_)
  have hP : va_P D CL [(h0, .inr (8, [.ref qb, .ref qe, .int 0, .int 0])), (qb, .inr (1, [.ref qr, .int 0])), (qr, .inl (cB, 400, .inl (fun _ => 0))), (qe, .inl (cI, 4, .inl (fun _ => 0)))] H := hP
  have hD : va_D A [(h0, .inr (8, [.ref qb, .ref qe, .int 0, .int 0])), (qb, .inr (1, [.ref qr, .int 0])), (qr, .inl (cB, 400, .inl (fun _ => 0))), (qe, .inl (cI, 4, .inl (fun _ => 0)))] := hD
  have hP9 := hP.sub (ws' := [(h0, .inr (8, [.ref qb, .ref qe, .int 0, .int 0])), (qb, .inr (1, [.ref qr, .int 0])), (qr, .inl (cB, 400, .inl (fun _ => 0))), (qe, .inl (cI, 4, .inl (fun _ => 0)))]) [0, 1, 2, 3] rfl
  have hD9 := hD.sub (ws' := [(h0, .inr (8, [.ref qb, .ref qe, .int 0, .int 0])), (qb, .inr (1, [.ref qr, .int 0])), (qr, .inl (cB, 400, .inl (fun _ => 0))), (qe, .inl (cI, 4, .inl (fun _ => 0)))]) [0, 1, 2, 3] (by decide) rfl
  exact W.vret hx hb hr (fun t ht hW => ⟨⟨(qb, qr, qe), rfl, trivial, by rw [ht]; exact hP9, hD9⟩, hS.F ht⟩) hS.2.2 d_SystemUse_init_25

theorem d_Maker_init_0 : decode b_Maker_init 0 = .ok (.aload_n 0, 1) := by decide +kernel
theorem d_Maker_init_1 : decode b_Maker_init 1 = .ok (.invokespecial 3, 3) := by decide +kernel
theorem d_Maker_init_4 : decode b_Maker_init 4 = .ok (.aload_n 0, 1) := by decide +kernel
theorem d_Maker_init_5 : decode b_Maker_init 5 = .ok (.new 9, 3) := by decide +kernel
theorem d_Maker_init_8 : decode b_Maker_init 8 = .ok (.dup, 1) := by decide +kernel
theorem d_Maker_init_9 : decode b_Maker_init 9 = .ok (.iconst 0, 1) := by decide +kernel
theorem d_Maker_init_10 : decode b_Maker_init 10 = .ok (.bipush 16, 2) := by decide +kernel
theorem d_Maker_init_12 : decode b_Maker_init 12 = .ok (.bipush 19, 2) := by decide +kernel
theorem d_Maker_init_14 : decode b_Maker_init 14 = .ok (.invokespecial 11, 3) := by decide +kernel
theorem d_Maker_init_17 : decode b_Maker_init 17 = .ok (.putfield 14, 3) := by decide +kernel
theorem d_Maker_init_20 : decode b_Maker_init 20 = .ok (.aload_n 0, 1) := by decide +kernel
theorem d_Maker_init_21 : decode b_Maker_init 21 = .ok (.new 9, 3) := by decide +kernel
theorem d_Maker_init_24 : decode b_Maker_init 24 = .ok (.dup, 1) := by decide +kernel
theorem d_Maker_init_25 : decode b_Maker_init 25 = .ok (.iconst 1, 1) := by decide +kernel
theorem d_Maker_init_26 : decode b_Maker_init 26 = .ok (.bipush 17, 2) := by decide +kernel
theorem d_Maker_init_28 : decode b_Maker_init 28 = .ok (.bipush 21, 2) := by decide +kernel
theorem d_Maker_init_30 : decode b_Maker_init 30 = .ok (.invokespecial 11, 3) := by decide +kernel
theorem d_Maker_init_33 : decode b_Maker_init 33 = .ok (.putfield 20, 3) := by decide +kernel
theorem d_Maker_init_36 : decode b_Maker_init 36 = .ok (.aload_n 0, 1) := by decide +kernel
theorem d_Maker_init_37 : decode b_Maker_init 37 = .ok (.new 23, 3) := by decide +kernel
theorem d_Maker_init_40 : decode b_Maker_init 40 = .ok (.dup, 1) := by decide +kernel
theorem d_Maker_init_41 : decode b_Maker_init 41 = .ok (.invokespecial 25, 3) := by decide +kernel
theorem d_Maker_init_44 : decode b_Maker_init 44 = .ok (.putfield 26, 3) := by decide +kernel
theorem d_Maker_init_47 : decode b_Maker_init 47 = .ok (.aload_n 0, 1) := by decide +kernel
theorem d_Maker_init_48 : decode b_Maker_init 48 = .ok (.new 30, 3) := by decide +kernel
theorem d_Maker_init_51 : decode b_Maker_init 51 = .ok (.dup, 1) := by decide +kernel
theorem d_Maker_init_52 : decode b_Maker_init 52 = .ok (.bipush 60, 2) := by decide +kernel
theorem d_Maker_init_54 : decode b_Maker_init 54 = .ok (.invokespecial 32, 3) := by decide +kernel
theorem d_Maker_init_57 : decode b_Maker_init 57 = .ok (.putfield 35, 3) := by decide +kernel
theorem d_Maker_init_60 : decode b_Maker_init 60 = .ok (.aload_n 0, 1) := by decide +kernel
theorem d_Maker_init_61 : decode b_Maker_init 61 = .ok (.bipush 40, 2) := by decide +kernel
theorem d_Maker_init_63 : decode b_Maker_init 63 = .ok (.newarray .int, 2) := by decide +kernel
theorem d_Maker_init_65 : decode b_Maker_init 65 = .ok (.putfield 39, 3) := by decide +kernel
theorem d_Maker_init_68 : decode b_Maker_init 68 = .ok (.aload_n 0, 1) := by decide +kernel
theorem d_Maker_init_69 : decode b_Maker_init 69 = .ok (.aload_n 1, 1) := by decide +kernel
theorem d_Maker_init_70 : decode b_Maker_init 70 = .ok (.putfield 43, 3) := by decide +kernel
theorem d_Maker_init_73 : decode b_Maker_init 73 = .ok (.aload_n 0, 1) := by decide +kernel
theorem d_Maker_init_74 : decode b_Maker_init 74 = .ok (.aload_n 2, 1) := by decide +kernel
theorem d_Maker_init_75 : decode b_Maker_init 75 = .ok (.putfield 47, 3) := by decide +kernel
theorem d_Maker_init_78 : decode b_Maker_init 78 = .ok (.return_, 1) := by decide +kernel
set_option maxHeartbeats 4000000 in
set_option maxRecDepth 100000 in
theorem c_Maker_init (l : Launch) (D : va_G) (cB cI cJ cZ cN cF : ClassId) (sz : Nat) (h0 tr im : Nat) : Met l y_Maker_init w_Maker_init ({ frames := 3, cells := 19, slots := 876, locals := 65 }) (va_Pc [.ref h0, .ref tr, .ref im] (fun U => U.heap.size = sz ∧ va_P D CL [(h0, .inr (4, [.null, .null, .null, .null, .null, .null, .null, .int 0, .int 0, .int 0]))] U.heap ∧ va_K D CL (TY cB cI cJ cZ cN cF) U ∧ NN U ∧ va_D (fun _ => True) [(h0, .inr (4, [.null, .null, .null, .null, .null, .null, .null, .int 0, .int 0, .int 0]))])) (va_Qv (fun (u : Nat × Nat × Nat × Nat × Nat × Nat × Nat × Nat × Nat × Nat × Nat × Nat × Nat × Nat × Nat × Nat × Nat × Nat × Nat) => True) (fun (u : Nat × Nat × Nat × Nat × Nat × Nat × Nat × Nat × Nat × Nat × Nat × Nat × Nat × Nat × Nat × Nat × Nat × Nat × Nat) (t : State) => match u with | (x, xo, xp, xt, xb, xe, y, yo, yp, yt, yb, ye, z, zb, zr, ze, i, ir, ct) => va_P D CL [(h0, .inr (4, [.ref tr, .ref im, .ref x, .ref y, .ref z, .ref i, .ref ct, .int 0, .int 0, .int 0])), (x, .inr (3, [.int 0, .int 16, .int 19, .ref xo, .ref xp, .ref xt, .ref xb, .ref xe, .int 0, .int 0])), (xo, .inl (cI, 40, .inl (fun _ => 0))), (xp, .inl (cI, 12, .inl (fun _ => 0))), (xt, .inl (cI, 40, .inl (fun _ => 0))), (xb, .inl (cI, 40, .inl (fun _ => 0))), (xe, .inl (cI, 40, .inl (fun _ => 0))), (y, .inr (3, [.int 1, .int 17, .int 21, .ref yo, .ref yp, .ref yt, .ref yb, .ref ye, .int 0, .int 0])), (yo, .inl (cI, 40, .inl (fun _ => 0))), (yp, .inl (cI, 12, .inl (fun _ => 0))), (yt, .inl (cI, 40, .inl (fun _ => 0))), (yb, .inl (cI, 40, .inl (fun _ => 0))), (ye, .inl (cI, 40, .inl (fun _ => 0))), (z, .inr (8, [.ref zb, .ref ze, .int 0, .int 0])), (zb, .inr (1, [.ref zr, .int 0])), (zr, .inl (cB, 400, .inl (fun _ => 0))), (ze, .inl (cI, 4, .inl (fun _ => 0))), (i, .inr (1, [.ref ir, .int 0])), (ir, .inl (cB, 60, .inl (fun _ => 0))), (ct, .inl (cI, 40, .inl (fun _ => 0)))] t.heap ∧ va_D (va_A [(h0, .inr (4, [.null, .null, .null, .null, .null, .null, .null, .int 0, .int 0, .int 0]))] sz) [(h0, .inr (4, [.ref tr, .ref im, .ref x, .ref y, .ref z, .ref i, .ref ct, .int 0, .int 0, .int 0])), (x, .inr (3, [.int 0, .int 16, .int 19, .ref xo, .ref xp, .ref xt, .ref xb, .ref xe, .int 0, .int 0])), (xo, .inl (cI, 40, .inl (fun _ => 0))), (xp, .inl (cI, 12, .inl (fun _ => 0))), (xt, .inl (cI, 40, .inl (fun _ => 0))), (xb, .inl (cI, 40, .inl (fun _ => 0))), (xe, .inl (cI, 40, .inl (fun _ => 0))), (y, .inr (3, [.int 1, .int 17, .int 21, .ref yo, .ref yp, .ref yt, .ref yb, .ref ye, .int 0, .int 0])), (yo, .inl (cI, 40, .inl (fun _ => 0))), (yp, .inl (cI, 12, .inl (fun _ => 0))), (yt, .inl (cI, 40, .inl (fun _ => 0))), (yb, .inl (cI, 40, .inl (fun _ => 0))), (ye, .inl (cI, 40, .inl (fun _ => 0))), (z, .inr (8, [.ref zb, .ref ze, .int 0, .int 0])), (zb, .inr (1, [.ref zr, .int 0])), (zr, .inl (cB, 400, .inl (fun _ => 0))), (ze, .inl (cI, 4, .inl (fun _ => 0))), (i, .inr (1, [.ref ir, .int 0])), (ir, .inl (cB, 60, .inl (fun _ => 0))), (ct, .inl (cI, 40, .inl (fun _ => 0)))]) (va_A [(h0, .inr (4, [.null, .null, .null, .null, .null, .null, .null, .int 0, .int 0, .int 0]))] sz)) 19 876 (va_A [(h0, .inr (4, [.null, .null, .null, .null, .null, .null, .null, .int 0, .int 0, .int 0]))] sz) := by
  refine Met.ofW (cc := b_Maker_init) (maxL := 3) (ret := none) (by decide) rfl ?_
  intro p e s m args below meth c s₁ B hml hv
  obtain ⟨rfl, hsz, hP, hK, hN, hD0⟩ := hv
  have hx := B.exec
  have hb := B.bytes
  have hr := B.returns
  have hts := atoms_spec (ws := w_Maker_init) B.pre
  have ht9 := fun (w : Cond) (h : w ∈ lw_g) => hts w (List.mem_cons_of_mem _ h)
  have hown : s.vm.findClass "DiscMaker$Maker" = some m.cls := findClass_of_methodNamed B.named
  have hlocks := B.notSynchronized
  have hin : meth.name = "<init>" := (name_of_methodNamed B.named B.method).1
  subst hsz
  have hD := hD0.self (sz := s.heap.size)
  generalize hAe : va_A [(h0, .inr (4, [.null, .null, .null, .null, .null, .null, .null, .int 0, .int 0, .int 0]))] s.heap.size = A at hD ⊢
  have hA : ∀ q : Nat, s.heap.size ≤ q → A q := fun q h => by rw [← hAe]; exact Or.inr h
  have hS : va_S A s.heap s.heap [] := va_S.rf
  have hP : va_P D CL [(h0, .inr (4, [.null, .null, .null, .null, .null, .null, .null, .int 0, .int 0, .int 0]))] s.heap := hP
  have hl := lv_entry [.ref h0, .ref tr, .ref im] (n := 3) (Nat.le_of_ble_eq_true rfl)
  rw [lg_entry_eq]
  generalize (lg_sl [.ref h0, .ref tr, .ref im] ++ List.replicate (3 - (lg_sl [.ref h0, .ref tr, .ref im]).length) Slot.unset).toArray = ls at hl ⊢
  have hl : lv_has ls 3 [(0, .ref h0), (1, .ref tr), (2, .ref im)] := hl
  refine lv_aload_n hx hb d_Maker_init_0 rfl (lv_at hl 0 rfl) ?_
  refine W.objInit hx hb hown (ht9 _ k273) (ht9 _ k149) (ht9 _ kObj) rfl (by rw [hml]; exact hl.1) rfl d_Maker_init_1 (Nat.le_of_ble_eq_true rfl) (Nat.le_of_ble_eq_true rfl) ?_
  refine W.eq (g2 := F0 m 4 ls []) rfl ?_
  refine lv_aload_n hx hb d_Maker_init_4 rfl (lv_at hl 0 rfl) ?_
  have hc_5 : 1 ≤ 19 := by decide
  have hs_5 : 10 ≤ 876 := by decide
  refine va_new (ci := 3) (fs := [.int 0, .int 0, .int 0, .null, .null, .null, .null, .null, .int 0, .int 0]) (C := "DiscMaker$Layout") (T := F_Layout) (N := 10) hx hb ht9 in_Layout t_Layout t_Layout_ok hown (ht9 _ k274) (ht9 _ k275) (ht9 _ k121) hK hP hD hS hA rfl (by decide) hc_5 hs_5 d_Maker_init_5 (fun x H hP hD hS => ?_)
  have hP : va_P D CL [(h0, .inr (4, [.null, .null, .null, .null, .null, .null, .null, .int 0, .int 0, .int 0])), (x, .inr (3, [.int 0, .int 0, .int 0, .null, .null, .null, .null, .null, .int 0, .int 0]))] H := hP
  have hD : va_D A [(h0, .inr (4, [.null, .null, .null, .null, .null, .null, .null, .int 0, .int 0, .int 0])), (x, .inr (3, [.int 0, .int 0, .int 0, .null, .null, .null, .null, .null, .int 0, .int 0]))] := hD
  refine W.widen (k := 1) (n := 10) (by decide) (by decide) ?_
  refine lv_dup hx hb d_Maker_init_8 rfl ?_
  refine lv_iconst (v := 0) hx hb d_Maker_init_9 (by decide) ?_
  refine lv_bipush (v := 16) hx hb d_Maker_init_10 (by decide) ?_
  refine lv_bipush (v := 19) hx hb d_Maker_init_12 (by decide) ?_
  have hPc := hP.sub (ws' := [(x, .inr (3, [.int 0, .int 0, .int 0, .null, .null, .null, .null, .null, .int 0, .int 0]))]) [1] rfl
  have hDc := hD.sub (ws' := [(x, .inr (3, [.int 0, .int 0, .int 0, .null, .null, .null, .null, .null, .int 0, .int 0]))]) [1] (by decide) rfl
  have hFc := va_free (wc := [(x, .inr (3, [.int 0, .int 0, .int 0, .null, .null, .null, .null, .null, .int 0, .int 0]))]) hD hS hA [1] rfl
  have hkc : 6 ≤ 19 := by decide
  have hks : 182 ≤ 876 := by decide
  refine va_callv (va_runI (As := [.int 0, .int 16, .int 19]) (rest := [.ref x, .ref h0]) ⟨hx, hb, hml, hown, hts⟩ (c_Layout_init_1 l D cB cI cJ cZ cN cF H.size x) (cwI 3 hts (lg_good kc_Layout_init) rfl rfl rfl (ht9 _ k121) (ht9 _ k276) (ht9 _ k277) rfl (by decide +kernel) ⟨Nat.le_of_ble_eq_true rfl, Nat.le_of_ble_eq_true rfl⟩) ⟨fun a U g mk q => by obtain ⟨q0, q1, qP, qK, qN, qD⟩ := q; exact ⟨q0, q1, qP, va_K.moved (u := U) (U := U.calling g mk a) (Vm.Alike.refl U.vm) qK, qN.calling, qD⟩, fun U hU hW => ⟨rfl, by rw [hU], by rw [hU]; exact hPc, va_K.moved hW.alike hK, NN.warm hW hN, hDc.weaken (fun _ _ _ _ => trivial)⟩⟩ rfl rfl hl.1 rfl (lv_room (Nat.le_of_ble_eq_true rfl)) d_Maker_init_14 ⟨hkc, hks⟩) hS (fun q _ h => hFc q h) hFc (fun u t H1 locs ht hvm hp_14 hB hz1 hk1 hS => ?_)
  obtain ⟨xo, xp, xt, xb, xe⟩ := u
  obtain ⟨hP1, hD1⟩ := hB
  rw [ht] at hP1
  obtain ⟨hP, hD⟩ := va_join (wr := [(h0, .inr (4, [.null, .null, .null, .null, .null, .null, .null, .int 0, .int 0, .int 0]))]) (w1 := [(x, .inr (3, [.int 0, .int 16, .int 19, .ref xo, .ref xp, .ref xt, .ref xb, .ref xe, .int 0, .int 0])), (xo, .inl (cI, 40, .inl (fun _ => 0))), (xp, .inl (cI, 12, .inl (fun _ => 0))), (xt, .inl (cI, 40, .inl (fun _ => 0))), (xb, .inl (cI, 40, .inl (fun _ => 0))), (xe, .inl (cI, 40, .inl (fun _ => 0)))]) hP hD [1] [0] rfl rfl (by decide) (by decide) hk1 hFc hP1 hD1
  clear hPc hDc hFc hP1 hD1 hk1 hz1
  generalize H1 = H at hP hS ⊢
  have hP : va_P D CL [(h0, .inr (4, [.null, .null, .null, .null, .null, .null, .null, .int 0, .int 0, .int 0])), (x, .inr (3, [.int 0, .int 16, .int 19, .ref xo, .ref xp, .ref xt, .ref xb, .ref xe, .int 0, .int 0])), (xo, .inl (cI, 40, .inl (fun _ => 0))), (xp, .inl (cI, 12, .inl (fun _ => 0))), (xt, .inl (cI, 40, .inl (fun _ => 0))), (xb, .inl (cI, 40, .inl (fun _ => 0))), (xe, .inl (cI, 40, .inl (fun _ => 0)))] H := hP
  have hD : va_D A [(h0, .inr (4, [.null, .null, .null, .null, .null, .null, .null, .int 0, .int 0, .int 0])), (x, .inr (3, [.int 0, .int 16, .int 19, .ref xo, .ref xp, .ref xt, .ref xb, .ref xe, .int 0, .int 0])), (xo, .inl (cI, 40, .inl (fun _ => 0))), (xp, .inl (cI, 12, .inl (fun _ => 0))), (xt, .inl (cI, 40, .inl (fun _ => 0))), (xb, .inl (cI, 40, .inl (fun _ => 0))), (xe, .inl (cI, 40, .inl (fun _ => 0)))] := hD
  refine W.widen (k := 6) (n := 182) (by decide) (by decide) ?_
  refine va_putF (D := D) (ci := 4) (v := .ref x) (ty := .object "DiscMaker$Layout") (C := "DiscMaker$Maker") (T := F_Maker) (N := 10) hx hb ht9 in_Maker t_Maker t_Maker_ok n_Maker hown hK hP hD hS 0 rfl rfl 2 (by decide) (ht9 _ k349) (fun _ h9 => h9) rfl hin rfl (by decide +kernel) rfl rfl (Nat.le_of_ble_eq_true rfl) d_Maker_init_17 (fun H locs hP hD hS => ?_)
  have hP : va_P D CL [(h0, .inr (4, [.null, .null, .ref x, .null, .null, .null, .null, .int 0, .int 0, .int 0])), (x, .inr (3, [.int 0, .int 16, .int 19, .ref xo, .ref xp, .ref xt, .ref xb, .ref xe, .int 0, .int 0])), (xo, .inl (cI, 40, .inl (fun _ => 0))), (xp, .inl (cI, 12, .inl (fun _ => 0))), (xt, .inl (cI, 40, .inl (fun _ => 0))), (xb, .inl (cI, 40, .inl (fun _ => 0))), (xe, .inl (cI, 40, .inl (fun _ => 0)))] H := hP
  have hD : va_D A [(h0, .inr (4, [.null, .null, .ref x, .null, .null, .null, .null, .int 0, .int 0, .int 0])), (x, .inr (3, [.int 0, .int 16, .int 19, .ref xo, .ref xp, .ref xt, .ref xb, .ref xe, .int 0, .int 0])), (xo, .inl (cI, 40, .inl (fun _ => 0))), (xp, .inl (cI, 12, .inl (fun _ => 0))), (xt, .inl (cI, 40, .inl (fun _ => 0))), (xb, .inl (cI, 40, .inl (fun _ => 0))), (xe, .inl (cI, 40, .inl (fun _ => 0)))] := hD
  refine lv_aload_n hx hb d_Maker_init_20 rfl (lv_at hl 0 rfl) ?_
  have hc_21 : 7 ≤ 19 := by decide
  have hs_21 : 192 ≤ 876 := by decide
  refine va_new (ci := 3) (fs := [.int 0, .int 0, .int 0, .null, .null, .null, .null, .null, .int 0, .int 0]) (C := "DiscMaker$Layout") (T := F_Layout) (N := 10) hx hb ht9 in_Layout t_Layout t_Layout_ok hown (ht9 _ k274) (ht9 _ k275) (ht9 _ k121) hK hP hD hS hA rfl (by decide) hc_21 hs_21 d_Maker_init_21 (fun y H hP hD hS => ?_)
  have hP : va_P D CL [(h0, .inr (4, [.null, .null, .ref x, .null, .null, .null, .null, .int 0, .int 0, .int 0])), (x, .inr (3, [.int 0, .int 16, .int 19, .ref xo, .ref xp, .ref xt, .ref xb, .ref xe, .int 0, .int 0])), (xo, .inl (cI, 40, .inl (fun _ => 0))), (xp, .inl (cI, 12, .inl (fun _ => 0))), (xt, .inl (cI, 40, .inl (fun _ => 0))), (xb, .inl (cI, 40, .inl (fun _ => 0))), (xe, .inl (cI, 40, .inl (fun _ => 0))), (y, .inr (3, [.int 0, .int 0, .int 0, .null, .null, .null, .null, .null, .int 0, .int 0]))] H := hP
  have hD : va_D A [(h0, .inr (4, [.null, .null, .ref x, .null, .null, .null, .null, .int 0, .int 0, .int 0])), (x, .inr (3, [.int 0, .int 16, .int 19, .ref xo, .ref xp, .ref xt, .ref xb, .ref xe, .int 0, .int 0])), (xo, .inl (cI, 40, .inl (fun _ => 0))), (xp, .inl (cI, 12, .inl (fun _ => 0))), (xt, .inl (cI, 40, .inl (fun _ => 0))), (xb, .inl (cI, 40, .inl (fun _ => 0))), (xe, .inl (cI, 40, .inl (fun _ => 0))), (y, .inr (3, [.int 0, .int 0, .int 0, .null, .null, .null, .null, .null, .int 0, .int 0]))] := hD
  refine W.widen (k := 7) (n := 192) (by decide) (by decide) ?_
  refine lv_dup hx hb d_Maker_init_24 rfl ?_
  refine lv_iconst (v := 1) hx hb d_Maker_init_25 (by decide) ?_
  refine lv_bipush (v := 17) hx hb d_Maker_init_26 (by decide) ?_
  refine lv_bipush (v := 21) hx hb d_Maker_init_28 (by decide) ?_
  have hPc := hP.sub (ws' := [(y, .inr (3, [.int 0, .int 0, .int 0, .null, .null, .null, .null, .null, .int 0, .int 0]))]) [7] rfl
  have hDc := hD.sub (ws' := [(y, .inr (3, [.int 0, .int 0, .int 0, .null, .null, .null, .null, .null, .int 0, .int 0]))]) [7] (by decide) rfl
  have hFc := va_free (wc := [(y, .inr (3, [.int 0, .int 0, .int 0, .null, .null, .null, .null, .null, .int 0, .int 0]))]) hD hS hA [7] rfl
  have hkc : 12 ≤ 19 := by decide
  have hks : 364 ≤ 876 := by decide
  refine va_callv (va_runI (As := [.int 1, .int 17, .int 21]) (rest := [.ref y, .ref h0]) ⟨hx, hb, hml, hown, hts⟩ (c_Layout_init_2 l D cB cI cJ cZ cN cF H.size y) (cwI 3 hts (lg_good kc_Layout_init) rfl rfl rfl (ht9 _ k121) (ht9 _ k276) (ht9 _ k277) rfl (by decide +kernel) ⟨Nat.le_of_ble_eq_true rfl, Nat.le_of_ble_eq_true rfl⟩) ⟨fun a U g mk q => by obtain ⟨q0, q1, qP, qK, qN, qD⟩ := q; exact ⟨q0, q1, qP, va_K.moved (u := U) (U := U.calling g mk a) (Vm.Alike.refl U.vm) qK, qN.calling, qD⟩, fun U hU hW => ⟨rfl, by rw [hU], by rw [hU]; exact hPc, va_K.moved hW.alike hK, NN.warm hW hN, hDc.weaken (fun _ _ _ _ => trivial)⟩⟩ rfl rfl hl.1 rfl (lv_room (Nat.le_of_ble_eq_true rfl)) d_Maker_init_30 ⟨hkc, hks⟩) hS (fun q _ h => hFc q h) hFc (fun u t H1 locs ht hvm hp_30 hB hz1 hk1 hS => ?_)
  obtain ⟨yo, yp, yt, yb, ye⟩ := u
  obtain ⟨hP1, hD1⟩ := hB
  rw [ht] at hP1
  obtain ⟨hP, hD⟩ := va_join (wr := [(h0, .inr (4, [.null, .null, .ref x, .null, .null, .null, .null, .int 0, .int 0, .int 0])), (x, .inr (3, [.int 0, .int 16, .int 19, .ref xo, .ref xp, .ref xt, .ref xb, .ref xe, .int 0, .int 0])), (xo, .inl (cI, 40, .inl (fun _ => 0))), (xp, .inl (cI, 12, .inl (fun _ => 0))), (xt, .inl (cI, 40, .inl (fun _ => 0))), (xb, .inl (cI, 40, .inl (fun _ => 0))), (xe, .inl (cI, 40, .inl (fun _ => 0)))]) (w1 := [(y, .inr (3, [.int 1, .int 17, .int 21, .ref yo, .ref yp, .ref yt, .ref yb, .ref ye, .int 0, .int 0])), (yo, .inl (cI, 40, .inl (fun _ => 0))), (yp, .inl (cI, 12, .inl (fun _ => 0))), (yt, .inl (cI, 40, .inl (fun _ => 0))), (yb, .inl (cI, 40, .inl (fun _ => 0))), (ye, .inl (cI, 40, .inl (fun _ => 0)))]) hP hD [7] [0, 1, 2, 3, 4, 5, 6] rfl rfl (by decide) (by decide) hk1 hFc hP1 hD1
  clear hPc hDc hFc hP1 hD1 hk1 hz1
  generalize H1 = H at hP hS ⊢
  have hP : va_P D CL [(h0, .inr (4, [.null, .null, .ref x, .null, .null, .null, .null, .int 0, .int 0, .int 0])), (x, .inr (3, [.int 0, .int 16, .int 19, .ref xo, .ref xp, .ref xt, .ref xb, .ref xe, .int 0, .int 0])), (xo, .inl (cI, 40, .inl (fun _ => 0))), (xp, .inl (cI, 12, .inl (fun _ => 0))), (xt, .inl (cI, 40, .inl (fun _ => 0))), (xb, .inl (cI, 40, .inl (fun _ => 0))), (xe, .inl (cI, 40, .inl (fun _ => 0))), (y, .inr (3, [.int 1, .int 17, .int 21, .ref yo, .ref yp, .ref yt, .ref yb, .ref ye, .int 0, .int 0])), (yo, .inl (cI, 40, .inl (fun _ => 0))), (yp, .inl (cI, 12, .inl (fun _ => 0))), (yt, .inl (cI, 40, .inl (fun _ => 0))), (yb, .inl (cI, 40, .inl (fun _ => 0))), (ye, .inl (cI, 40, .inl (fun _ => 0)))] H := hP
  have hD : va_D A [(h0, .inr (4, [.null, .null, .ref x, .null, .null, .null, .null, .int 0, .int 0, .int 0])), (x, .inr (3, [.int 0, .int 16, .int 19, .ref xo, .ref xp, .ref xt, .ref xb, .ref xe, .int 0, .int 0])), (xo, .inl (cI, 40, .inl (fun _ => 0))), (xp, .inl (cI, 12, .inl (fun _ => 0))), (xt, .inl (cI, 40, .inl (fun _ => 0))), (xb, .inl (cI, 40, .inl (fun _ => 0))), (xe, .inl (cI, 40, .inl (fun _ => 0))), (y, .inr (3, [.int 1, .int 17, .int 21, .ref yo, .ref yp, .ref yt, .ref yb, .ref ye, .int 0, .int 0])), (yo, .inl (cI, 40, .inl (fun _ => 0))), (yp, .inl (cI, 12, .inl (fun _ => 0))), (yt, .inl (cI, 40, .inl (fun _ => 0))), (yb, .inl (cI, 40, .inl (fun _ => 0))), (ye, .inl (cI, 40, .inl (fun _ => 0)))] := hD
  refine W.widen (k := 12) (n := 364) (by decide) (by decide) ?_
  refine va_putF (D := D) (ci := 4) (v := .ref y) (ty := .object "DiscMaker$Layout") (C := "DiscMaker$Maker") (T := F_Maker) (N := 10) hx hb ht9 in_Maker t_Maker t_Maker_ok n_Maker hown hK hP hD hS 0 rfl rfl 3 (by decide) (ht9 _ k350) (fun _ h9 => h9) rfl hin rfl (by decide +kernel) rfl rfl (Nat.le_of_ble_eq_true rfl) d_Maker_init_33 (fun H locs hP hD hS => ?_)
  have hP : va_P D CL [(h0, .inr (4, [.null, .null, .ref x, .ref y, .null, .null, .null, .int 0, .int 0, .int 0])), (x, .inr (3, [.int 0, .int 16, .int 19, .ref xo, .ref xp, .ref xt, .ref xb, .ref xe, .int 0, .int 0])), (xo, .inl (cI, 40, .inl (fun _ => 0))), (xp, .inl (cI, 12, .inl (fun _ => 0))), (xt, .inl (cI, 40, .inl (fun _ => 0))), (xb, .inl (cI, 40, .inl (fun _ => 0))), (xe, .inl (cI, 40, .inl (fun _ => 0))), (y, .inr (3, [.int 1, .int 17, .int 21, .ref yo, .ref yp, .ref yt, .ref yb, .ref ye, .int 0, .int 0])), (yo, .inl (cI, 40, .inl (fun _ => 0))), (yp, .inl (cI, 12, .inl (fun _ => 0))), (yt, .inl (cI, 40, .inl (fun _ => 0))), (yb, .inl (cI, 40, .inl (fun _ => 0))), (ye, .inl (cI, 40, .inl (fun _ => 0)))] H := hP
  have hD : va_D A [(h0, .inr (4, [.null, .null, .ref x, .ref y, .null, .null, .null, .int 0, .int 0, .int 0])), (x, .inr (3, [.int 0, .int 16, .int 19, .ref xo, .ref xp, .ref xt, .ref xb, .ref xe, .int 0, .int 0])), (xo, .inl (cI, 40, .inl (fun _ => 0))), (xp, .inl (cI, 12, .inl (fun _ => 0))), (xt, .inl (cI, 40, .inl (fun _ => 0))), (xb, .inl (cI, 40, .inl (fun _ => 0))), (xe, .inl (cI, 40, .inl (fun _ => 0))), (y, .inr (3, [.int 1, .int 17, .int 21, .ref yo, .ref yp, .ref yt, .ref yb, .ref ye, .int 0, .int 0])), (yo, .inl (cI, 40, .inl (fun _ => 0))), (yp, .inl (cI, 12, .inl (fun _ => 0))), (yt, .inl (cI, 40, .inl (fun _ => 0))), (yb, .inl (cI, 40, .inl (fun _ => 0))), (ye, .inl (cI, 40, .inl (fun _ => 0)))] := hD
  refine lv_aload_n hx hb d_Maker_init_36 rfl (lv_at hl 0 rfl) ?_
  have hc_37 : 13 ≤ 19 := by decide
  have hs_37 : 368 ≤ 876 := by decide
  refine va_new (ci := 8) (fs := [.null, .null, .int 0, .int 0]) (C := "DiscMaker$SystemUse") (T := F_SystemUse) (N := 4) hx hb ht9 in_SystemUse t_SystemUse t_SystemUse_ok hown (ht9 _ k322) (ht9 _ k323) (ht9 _ k122) hK hP hD hS hA rfl (by decide) hc_37 hs_37 d_Maker_init_37 (fun z H hP hD hS => ?_)
  have hP : va_P D CL [(h0, .inr (4, [.null, .null, .ref x, .ref y, .null, .null, .null, .int 0, .int 0, .int 0])), (x, .inr (3, [.int 0, .int 16, .int 19, .ref xo, .ref xp, .ref xt, .ref xb, .ref xe, .int 0, .int 0])), (xo, .inl (cI, 40, .inl (fun _ => 0))), (xp, .inl (cI, 12, .inl (fun _ => 0))), (xt, .inl (cI, 40, .inl (fun _ => 0))), (xb, .inl (cI, 40, .inl (fun _ => 0))), (xe, .inl (cI, 40, .inl (fun _ => 0))), (y, .inr (3, [.int 1, .int 17, .int 21, .ref yo, .ref yp, .ref yt, .ref yb, .ref ye, .int 0, .int 0])), (yo, .inl (cI, 40, .inl (fun _ => 0))), (yp, .inl (cI, 12, .inl (fun _ => 0))), (yt, .inl (cI, 40, .inl (fun _ => 0))), (yb, .inl (cI, 40, .inl (fun _ => 0))), (ye, .inl (cI, 40, .inl (fun _ => 0))), (z, .inr (8, [.null, .null, .int 0, .int 0]))] H := hP
  have hD : va_D A [(h0, .inr (4, [.null, .null, .ref x, .ref y, .null, .null, .null, .int 0, .int 0, .int 0])), (x, .inr (3, [.int 0, .int 16, .int 19, .ref xo, .ref xp, .ref xt, .ref xb, .ref xe, .int 0, .int 0])), (xo, .inl (cI, 40, .inl (fun _ => 0))), (xp, .inl (cI, 12, .inl (fun _ => 0))), (xt, .inl (cI, 40, .inl (fun _ => 0))), (xb, .inl (cI, 40, .inl (fun _ => 0))), (xe, .inl (cI, 40, .inl (fun _ => 0))), (y, .inr (3, [.int 1, .int 17, .int 21, .ref yo, .ref yp, .ref yt, .ref yb, .ref ye, .int 0, .int 0])), (yo, .inl (cI, 40, .inl (fun _ => 0))), (yp, .inl (cI, 12, .inl (fun _ => 0))), (yt, .inl (cI, 40, .inl (fun _ => 0))), (yb, .inl (cI, 40, .inl (fun _ => 0))), (ye, .inl (cI, 40, .inl (fun _ => 0))), (z, .inr (8, [.null, .null, .int 0, .int 0]))] := hD
  refine W.widen (k := 13) (n := 368) (by decide) (by decide) ?_
  refine lv_dup hx hb d_Maker_init_40 rfl ?_
  have hPc := hP.sub (ws' := [(z, .inr (8, [.null, .null, .int 0, .int 0]))]) [13] rfl
  have hDc := hD.sub (ws' := [(z, .inr (8, [.null, .null, .int 0, .int 0]))]) [13] (by decide) rfl
  have hFc := va_free (wc := [(z, .inr (8, [.null, .null, .int 0, .int 0]))]) hD hS hA [13] rfl
  have hkc : 16 ≤ 19 := by decide
  have hks : 774 ≤ 876 := by decide
  refine va_callv (va_runIN (As := []) (rest := [.ref z, .ref h0]) ⟨hx, hb, hml, hown, hts⟩ (c_SystemUse_init l D cB cI cJ cZ cN cF H.size z) ⟨va_cnB 0 hts (lg_good kc_SystemUse_init) rfl rfl rfl (hN _ k324) (ht9 _ k122) (by decide +kernel) ⟨Nat.le_of_ble_eq_true rfl, Nat.le_of_ble_eq_true rfl⟩, rfl, ht9 _ k325⟩ ⟨fun a U g mk q => by obtain ⟨q0, q1, qP, qK, qN, qD⟩ := q; exact ⟨q0, q1, qP, va_K.moved (u := U) (U := U.calling g mk a) (Vm.Alike.refl U.vm) qK, qN.calling, qD⟩, fun U hU hW => ⟨rfl, by rw [hU], by rw [hU]; exact hPc, va_K.moved hW.alike hK, NN.warm hW hN, hDc.weaken (fun _ _ _ _ => trivial)⟩⟩ rfl rfl hl.1 rfl (lv_room (Nat.le_of_ble_eq_true rfl)) d_Maker_init_41 ⟨hkc, hks⟩) hS (fun q _ h => hFc q h) hFc (fun u t H1 locs ht hvm hp_41 hB hz1 hk1 hS => ?_)
  obtain ⟨zb, zr, ze⟩ := u
  obtain ⟨hP1, hD1⟩ := hB
  rw [ht] at hP1
  obtain ⟨hP, hD⟩ := va_join (wr := [(h0, .inr (4, [.null, .null, .ref x, .ref y, .null, .null, .null, .int 0, .int 0, .int 0])), (x, .inr (3, [.int 0, .int 16, .int 19, .ref xo, .ref xp, .ref xt, .ref xb, .ref xe, .int 0, .int 0])), (xo, .inl (cI, 40, .inl (fun _ => 0))), (xp, .inl (cI, 12, .inl (fun _ => 0))), (xt, .inl (cI, 40, .inl (fun _ => 0))), (xb, .inl (cI, 40, .inl (fun _ => 0))), (xe, .inl (cI, 40, .inl (fun _ => 0))), (y, .inr (3, [.int 1, .int 17, .int 21, .ref yo, .ref yp, .ref yt, .ref yb, .ref ye, .int 0, .int 0])), (yo, .inl (cI, 40, .inl (fun _ => 0))), (yp, .inl (cI, 12, .inl (fun _ => 0))), (yt, .inl (cI, 40, .inl (fun _ => 0))), (yb, .inl (cI, 40, .inl (fun _ => 0))), (ye, .inl (cI, 40, .inl (fun _ => 0)))]) (w1 := [(z, .inr (8, [.ref zb, .ref ze, .int 0, .int 0])), (zb, .inr (1, [.ref zr, .int 0])), (zr, .inl (cB, 400, .inl (fun _ => 0))), (ze, .inl (cI, 4, .inl (fun _ => 0)))]) hP hD [13] [0, 1, 2, 3, 4, 5, 6, 7, 8, 9, 10, 11, 12] rfl rfl (by decide) (by decide) hk1 hFc hP1 hD1
  clear hPc hDc hFc hP1 hD1 hk1 hz1
  generalize H1 = H at hP hS ⊢
  have hP : va_P D CL [(h0, .inr (4, [.null, .null, .ref x, .ref y, .null, .null, .null, .int 0, .int 0, .int 0])), (x, .inr (3, [.int 0, .int 16, .int 19, .ref xo, .ref xp, .ref xt, .ref xb, .ref xe, .int 0, .int 0])), (xo, .inl (cI, 40, .inl (fun _ => 0))), (xp, .inl (cI, 12, .inl (fun _ => 0))), (xt, .inl (cI, 40, .inl (fun _ => 0))), (xb, .inl (cI, 40, .inl (fun _ => 0))), (xe, .inl (cI, 40, .inl (fun _ => 0))), (y, .inr (3, [.int 1, .int 17, .int 21, .ref yo, .ref yp, .ref yt, .ref yb, .ref ye, .int 0, .int 0])), (yo, .inl (cI, 40, .inl (fun _ => 0))), (yp, .inl (cI, 12, .inl (fun _ => 0))), (yt, .inl (cI, 40, .inl (fun _ => 0))), (yb, .inl (cI, 40, .inl (fun _ => 0))), (ye, .inl (cI, 40, .inl (fun _ => 0))), (z, .inr (8, [.ref zb, .ref ze, .int 0, .int 0])), (zb, .inr (1, [.ref zr, .int 0])), (zr, .inl (cB, 400, .inl (fun _ => 0))), (ze, .inl (cI, 4, .inl (fun _ => 0)))] H := hP
  have hD : va_D A [(h0, .inr (4, [.null, .null, .ref x, .ref y, .null, .null, .null, .int 0, .int 0, .int 0])), (x, .inr (3, [.int 0, .int 16, .int 19, .ref xo, .ref xp, .ref xt, .ref xb, .ref xe, .int 0, .int 0])), (xo, .inl (cI, 40, .inl (fun _ => 0))), (xp, .inl (cI, 12, .inl (fun _ => 0))), (xt, .inl (cI, 40, .inl (fun _ => 0))), (xb, .inl (cI, 40, .inl (fun _ => 0))), (xe, .inl (cI, 40, .inl (fun _ => 0))), (y, .inr (3, [.int 1, .int 17, .int 21, .ref yo, .ref yp, .ref yt, .ref yb, .ref ye, .int 0, .int 0])), (yo, .inl (cI, 40, .inl (fun _ => 0))), (yp, .inl (cI, 12, .inl (fun _ => 0))), (yt, .inl (cI, 40, .inl (fun _ => 0))), (yb, .inl (cI, 40, .inl (fun _ => 0))), (ye, .inl (cI, 40, .inl (fun _ => 0))), (z, .inr (8, [.ref zb, .ref ze, .int 0, .int 0])), (zb, .inr (1, [.ref zr, .int 0])), (zr, .inl (cB, 400, .inl (fun _ => 0))), (ze, .inl (cI, 4, .inl (fun _ => 0)))] := hD
  refine W.widen (k := 16) (n := 774) (by decide) (by decide) ?_
  refine va_putF (D := D) (ci := 4) (v := .ref z) (ty := .object "DiscMaker$SystemUse") (C := "DiscMaker$Maker") (T := F_Maker) (N := 10) hx hb ht9 in_Maker t_Maker t_Maker_ok n_Maker hown hK hP hD hS 0 rfl rfl 4 (by decide) (ht9 _ k351) (fun _ h9 => h9) rfl hin rfl (by decide +kernel) rfl rfl (Nat.le_of_ble_eq_true rfl) d_Maker_init_44 (fun H locs hP hD hS => ?_)
  have hP : va_P D CL [(h0, .inr (4, [.null, .null, .ref x, .ref y, .ref z, .null, .null, .int 0, .int 0, .int 0])), (x, .inr (3, [.int 0, .int 16, .int 19, .ref xo, .ref xp, .ref xt, .ref xb, .ref xe, .int 0, .int 0])), (xo, .inl (cI, 40, .inl (fun _ => 0))), (xp, .inl (cI, 12, .inl (fun _ => 0))), (xt, .inl (cI, 40, .inl (fun _ => 0))), (xb, .inl (cI, 40, .inl (fun _ => 0))), (xe, .inl (cI, 40, .inl (fun _ => 0))), (y, .inr (3, [.int 1, .int 17, .int 21, .ref yo, .ref yp, .ref yt, .ref yb, .ref ye, .int 0, .int 0])), (yo, .inl (cI, 40, .inl (fun _ => 0))), (yp, .inl (cI, 12, .inl (fun _ => 0))), (yt, .inl (cI, 40, .inl (fun _ => 0))), (yb, .inl (cI, 40, .inl (fun _ => 0))), (ye, .inl (cI, 40, .inl (fun _ => 0))), (z, .inr (8, [.ref zb, .ref ze, .int 0, .int 0])), (zb, .inr (1, [.ref zr, .int 0])), (zr, .inl (cB, 400, .inl (fun _ => 0))), (ze, .inl (cI, 4, .inl (fun _ => 0)))] H := hP
  have hD : va_D A [(h0, .inr (4, [.null, .null, .ref x, .ref y, .ref z, .null, .null, .int 0, .int 0, .int 0])), (x, .inr (3, [.int 0, .int 16, .int 19, .ref xo, .ref xp, .ref xt, .ref xb, .ref xe, .int 0, .int 0])), (xo, .inl (cI, 40, .inl (fun _ => 0))), (xp, .inl (cI, 12, .inl (fun _ => 0))), (xt, .inl (cI, 40, .inl (fun _ => 0))), (xb, .inl (cI, 40, .inl (fun _ => 0))), (xe, .inl (cI, 40, .inl (fun _ => 0))), (y, .inr (3, [.int 1, .int 17, .int 21, .ref yo, .ref yp, .ref yt, .ref yb, .ref ye, .int 0, .int 0])), (yo, .inl (cI, 40, .inl (fun _ => 0))), (yp, .inl (cI, 12, .inl (fun _ => 0))), (yt, .inl (cI, 40, .inl (fun _ => 0))), (yb, .inl (cI, 40, .inl (fun _ => 0))), (ye, .inl (cI, 40, .inl (fun _ => 0))), (z, .inr (8, [.ref zb, .ref ze, .int 0, .int 0])), (zb, .inr (1, [.ref zr, .int 0])), (zr, .inl (cB, 400, .inl (fun _ => 0))), (ze, .inl (cI, 4, .inl (fun _ => 0)))] := hD
  refine lv_aload_n hx hb d_Maker_init_47 rfl (lv_at hl 0 rfl) ?_
  have hc_48 : 17 ≤ 19 := by decide
  have hs_48 : 776 ≤ 876 := by decide
  refine va_new (ci := 1) (fs := [.null, .int 0]) (C := "DiscMaker$Bytes") (T := F_Bytes) (N := 2) hx hb ht9 in_Bytes t_Bytes t_Bytes_ok hown (ht9 _ k345) (ht9 _ k251) (ht9 _ k119) hK hP hD hS hA rfl (by decide) hc_48 hs_48 d_Maker_init_48 (fun i H hP hD hS => ?_)
  have hP : va_P D CL [(h0, .inr (4, [.null, .null, .ref x, .ref y, .ref z, .null, .null, .int 0, .int 0, .int 0])), (x, .inr (3, [.int 0, .int 16, .int 19, .ref xo, .ref xp, .ref xt, .ref xb, .ref xe, .int 0, .int 0])), (xo, .inl (cI, 40, .inl (fun _ => 0))), (xp, .inl (cI, 12, .inl (fun _ => 0))), (xt, .inl (cI, 40, .inl (fun _ => 0))), (xb, .inl (cI, 40, .inl (fun _ => 0))), (xe, .inl (cI, 40, .inl (fun _ => 0))), (y, .inr (3, [.int 1, .int 17, .int 21, .ref yo, .ref yp, .ref yt, .ref yb, .ref ye, .int 0, .int 0])), (yo, .inl (cI, 40, .inl (fun _ => 0))), (yp, .inl (cI, 12, .inl (fun _ => 0))), (yt, .inl (cI, 40, .inl (fun _ => 0))), (yb, .inl (cI, 40, .inl (fun _ => 0))), (ye, .inl (cI, 40, .inl (fun _ => 0))), (z, .inr (8, [.ref zb, .ref ze, .int 0, .int 0])), (zb, .inr (1, [.ref zr, .int 0])), (zr, .inl (cB, 400, .inl (fun _ => 0))), (ze, .inl (cI, 4, .inl (fun _ => 0))), (i, .inr (1, [.null, .int 0]))] H := hP
  have hD : va_D A [(h0, .inr (4, [.null, .null, .ref x, .ref y, .ref z, .null, .null, .int 0, .int 0, .int 0])), (x, .inr (3, [.int 0, .int 16, .int 19, .ref xo, .ref xp, .ref xt, .ref xb, .ref xe, .int 0, .int 0])), (xo, .inl (cI, 40, .inl (fun _ => 0))), (xp, .inl (cI, 12, .inl (fun _ => 0))), (xt, .inl (cI, 40, .inl (fun _ => 0))), (xb, .inl (cI, 40, .inl (fun _ => 0))), (xe, .inl (cI, 40, .inl (fun _ => 0))), (y, .inr (3, [.int 1, .int 17, .int 21, .ref yo, .ref yp, .ref yt, .ref yb, .ref ye, .int 0, .int 0])), (yo, .inl (cI, 40, .inl (fun _ => 0))), (yp, .inl (cI, 12, .inl (fun _ => 0))), (yt, .inl (cI, 40, .inl (fun _ => 0))), (yb, .inl (cI, 40, .inl (fun _ => 0))), (ye, .inl (cI, 40, .inl (fun _ => 0))), (z, .inr (8, [.ref zb, .ref ze, .int 0, .int 0])), (zb, .inr (1, [.ref zr, .int 0])), (zr, .inl (cB, 400, .inl (fun _ => 0))), (ze, .inl (cI, 4, .inl (fun _ => 0))), (i, .inr (1, [.null, .int 0]))] := hD
  refine W.widen (k := 17) (n := 776) (by decide) (by decide) ?_
  refine lv_dup hx hb d_Maker_init_51 rfl ?_
  refine lv_bipush (v := 60) hx hb d_Maker_init_52 (by decide) ?_
  have hPc := hP.sub (ws' := [(i, .inr (1, [.null, .int 0]))]) [17] rfl
  have hDc := hD.sub (ws' := [(i, .inr (1, [.null, .int 0]))]) [17] (by decide) rfl
  have hFc := va_free (wc := [(i, .inr (1, [.null, .int 0]))]) hD hS hA [17] rfl
  have hkc : 18 ≤ 19 := by decide
  have hks : 836 ≤ 876 := by decide
  refine va_callv (va_runI (As := [.int 60]) (rest := [.ref i, .ref h0]) ⟨hx, hb, hml, hown, hts⟩ (c_Bytes_init_60 l D cB cI cJ cZ cN cF H.size i) (cwI 1 hts (lg_good kc_Bytes_init) rfl rfl rfl (ht9 _ k119) (ht9 _ k346) (ht9 _ k253) rfl (by decide +kernel) ⟨Nat.le_of_ble_eq_true rfl, Nat.le_of_ble_eq_true rfl⟩) ⟨fun a U g mk q => by obtain ⟨q0, q1, qP, qK, qN, qD⟩ := q; exact ⟨q0, q1, qP, va_K.moved (u := U) (U := U.calling g mk a) (Vm.Alike.refl U.vm) qK, qN.calling, qD⟩, fun U hU hW => ⟨rfl, by rw [hU], by rw [hU]; exact hPc, va_K.moved hW.alike hK, NN.warm hW hN, hDc.weaken (fun _ _ _ _ => trivial)⟩⟩ rfl rfl hl.1 rfl (lv_room (Nat.le_of_ble_eq_true rfl)) d_Maker_init_54 ⟨hkc, hks⟩) hS (fun q _ h => hFc q h) hFc (fun u t H1 locs ht hvm hp_54 hB hz1 hk1 hS => ?_)
  obtain ⟨ir, rfl⟩ : ∃ z, z = u := ⟨_, rfl⟩
  obtain ⟨hP1, hD1⟩ := hB
  rw [ht] at hP1
  obtain ⟨hP, hD⟩ := va_join (wr := [(h0, .inr (4, [.null, .null, .ref x, .ref y, .ref z, .null, .null, .int 0, .int 0, .int 0])), (x, .inr (3, [.int 0, .int 16, .int 19, .ref xo, .ref xp, .ref xt, .ref xb, .ref xe, .int 0, .int 0])), (xo, .inl (cI, 40, .inl (fun _ => 0))), (xp, .inl (cI, 12, .inl (fun _ => 0))), (xt, .inl (cI, 40, .inl (fun _ => 0))), (xb, .inl (cI, 40, .inl (fun _ => 0))), (xe, .inl (cI, 40, .inl (fun _ => 0))), (y, .inr (3, [.int 1, .int 17, .int 21, .ref yo, .ref yp, .ref yt, .ref yb, .ref ye, .int 0, .int 0])), (yo, .inl (cI, 40, .inl (fun _ => 0))), (yp, .inl (cI, 12, .inl (fun _ => 0))), (yt, .inl (cI, 40, .inl (fun _ => 0))), (yb, .inl (cI, 40, .inl (fun _ => 0))), (ye, .inl (cI, 40, .inl (fun _ => 0))), (z, .inr (8, [.ref zb, .ref ze, .int 0, .int 0])), (zb, .inr (1, [.ref zr, .int 0])), (zr, .inl (cB, 400, .inl (fun _ => 0))), (ze, .inl (cI, 4, .inl (fun _ => 0)))]) (w1 := [(i, .inr (1, [.ref ir, .int 0])), (ir, .inl (cB, 60, .inl (fun _ => 0)))]) hP hD [17] [0, 1, 2, 3, 4, 5, 6, 7, 8, 9, 10, 11, 12, 13, 14, 15, 16] rfl rfl (by decide) (by decide) hk1 hFc hP1 hD1
  clear hPc hDc hFc hP1 hD1 hk1 hz1
  generalize H1 = H at hP hS ⊢
  have hP : va_P D CL [(h0, .inr (4, [.null, .null, .ref x, .ref y, .ref z, .null, .null, .int 0, .int 0, .int 0])), (x, .inr (3, [.int 0, .int 16, .int 19, .ref xo, .ref xp, .ref xt, .ref xb, .ref xe, .int 0, .int 0])), (xo, .inl (cI, 40, .inl (fun _ => 0))), (xp, .inl (cI, 12, .inl (fun _ => 0))), (xt, .inl (cI, 40, .inl (fun _ => 0))), (xb, .inl (cI, 40, .inl (fun _ => 0))), (xe, .inl (cI, 40, .inl (fun _ => 0))), (y, .inr (3, [.int 1, .int 17, .int 21, .ref yo, .ref yp, .ref yt, .ref yb, .ref ye, .int 0, .int 0])), (yo, .inl (cI, 40, .inl (fun _ => 0))), (yp, .inl (cI, 12, .inl (fun _ => 0))), (yt, .inl (cI, 40, .inl (fun _ => 0))), (yb, .inl (cI, 40, .inl (fun _ => 0))), (ye, .inl (cI, 40, .inl (fun _ => 0))), (z, .inr (8, [.ref zb, .ref ze, .int 0, .int 0])), (zb, .inr (1, [.ref zr, .int 0])), (zr, .inl (cB, 400, .inl (fun _ => 0))), (ze, .inl (cI, 4, .inl (fun _ => 0))), (i, .inr (1, [.ref ir, .int 0])), (ir, .inl (cB, 60, .inl (fun _ => 0)))] H := hP
  have hD : va_D A [(h0, .inr (4, [.null, .null, .ref x, .ref y, .ref z, .null, .null, .int 0, .int 0, .int 0])), (x, .inr (3, [.int 0, .int 16, .int 19, .ref xo, .ref xp, .ref xt, .ref xb, .ref xe, .int 0, .int 0])), (xo, .inl (cI, 40, .inl (fun _ => 0))), (xp, .inl (cI, 12, .inl (fun _ => 0))), (xt, .inl (cI, 40, .inl (fun _ => 0))), (xb, .inl (cI, 40, .inl (fun _ => 0))), (xe, .inl (cI, 40, .inl (fun _ => 0))), (y, .inr (3, [.int 1, .int 17, .int 21, .ref yo, .ref yp, .ref yt, .ref yb, .ref ye, .int 0, .int 0])), (yo, .inl (cI, 40, .inl (fun _ => 0))), (yp, .inl (cI, 12, .inl (fun _ => 0))), (yt, .inl (cI, 40, .inl (fun _ => 0))), (yb, .inl (cI, 40, .inl (fun _ => 0))), (ye, .inl (cI, 40, .inl (fun _ => 0))), (z, .inr (8, [.ref zb, .ref ze, .int 0, .int 0])), (zb, .inr (1, [.ref zr, .int 0])), (zr, .inl (cB, 400, .inl (fun _ => 0))), (ze, .inl (cI, 4, .inl (fun _ => 0))), (i, .inr (1, [.ref ir, .int 0])), (ir, .inl (cB, 60, .inl (fun _ => 0)))] := hD
  refine W.widen (k := 18) (n := 836) (by decide) (by decide) ?_
  refine va_putF (D := D) (ci := 4) (v := .ref i) (ty := .object "DiscMaker$Bytes") (C := "DiscMaker$Maker") (T := F_Maker) (N := 10) hx hb ht9 in_Maker t_Maker t_Maker_ok n_Maker hown hK hP hD hS 0 rfl rfl 5 (by decide) (ht9 _ k352) (fun _ h9 => h9) rfl hin rfl (by decide +kernel) rfl rfl (Nat.le_of_ble_eq_true rfl) d_Maker_init_57 (fun H locs hP hD hS => ?_)
  have hP : va_P D CL [(h0, .inr (4, [.null, .null, .ref x, .ref y, .ref z, .ref i, .null, .int 0, .int 0, .int 0])), (x, .inr (3, [.int 0, .int 16, .int 19, .ref xo, .ref xp, .ref xt, .ref xb, .ref xe, .int 0, .int 0])), (xo, .inl (cI, 40, .inl (fun _ => 0))), (xp, .inl (cI, 12, .inl (fun _ => 0))), (xt, .inl (cI, 40, .inl (fun _ => 0))), (xb, .inl (cI, 40, .inl (fun _ => 0))), (xe, .inl (cI, 40, .inl (fun _ => 0))), (y, .inr (3, [.int 1, .int 17, .int 21, .ref yo, .ref yp, .ref yt, .ref yb, .ref ye, .int 0, .int 0])), (yo, .inl (cI, 40, .inl (fun _ => 0))), (yp, .inl (cI, 12, .inl (fun _ => 0))), (yt, .inl (cI, 40, .inl (fun _ => 0))), (yb, .inl (cI, 40, .inl (fun _ => 0))), (ye, .inl (cI, 40, .inl (fun _ => 0))), (z, .inr (8, [.ref zb, .ref ze, .int 0, .int 0])), (zb, .inr (1, [.ref zr, .int 0])), (zr, .inl (cB, 400, .inl (fun _ => 0))), (ze, .inl (cI, 4, .inl (fun _ => 0))), (i, .inr (1, [.ref ir, .int 0])), (ir, .inl (cB, 60, .inl (fun _ => 0)))] H := hP
  have hD : va_D A [(h0, .inr (4, [.null, .null, .ref x, .ref y, .ref z, .ref i, .null, .int 0, .int 0, .int 0])), (x, .inr (3, [.int 0, .int 16, .int 19, .ref xo, .ref xp, .ref xt, .ref xb, .ref xe, .int 0, .int 0])), (xo, .inl (cI, 40, .inl (fun _ => 0))), (xp, .inl (cI, 12, .inl (fun _ => 0))), (xt, .inl (cI, 40, .inl (fun _ => 0))), (xb, .inl (cI, 40, .inl (fun _ => 0))), (xe, .inl (cI, 40, .inl (fun _ => 0))), (y, .inr (3, [.int 1, .int 17, .int 21, .ref yo, .ref yp, .ref yt, .ref yb, .ref ye, .int 0, .int 0])), (yo, .inl (cI, 40, .inl (fun _ => 0))), (yp, .inl (cI, 12, .inl (fun _ => 0))), (yt, .inl (cI, 40, .inl (fun _ => 0))), (yb, .inl (cI, 40, .inl (fun _ => 0))), (ye, .inl (cI, 40, .inl (fun _ => 0))), (z, .inr (8, [.ref zb, .ref ze, .int 0, .int 0])), (zb, .inr (1, [.ref zr, .int 0])), (zr, .inl (cB, 400, .inl (fun _ => 0))), (ze, .inl (cI, 4, .inl (fun _ => 0))), (i, .inr (1, [.ref ir, .int 0])), (ir, .inl (cB, 60, .inl (fun _ => 0)))] := hD
  refine lv_aload_n hx hb d_Maker_init_60 rfl (lv_at hl 0 rfl) ?_
  refine lv_bipush (v := 40) hx hb d_Maker_init_61 (by decide) ?_
  have hc_63 : 19 ≤ 19 := by decide
  have hs_63 : 876 ≤ 876 := by decide
  refine zz_newa (atype := .int) (cK := cI) (ty := .int) (N' := 40) (a0 := (40, .inl (fun _ => 0))) 1 (fun _ _ _ h1 h2 => Option.some.inj (h1.symm.trans h2)) rfl hx hb (ht9 _ k321) rfl hK hP hD hS hA (fun _ => rfl) (by decide) (by decide) (by decide) hc_63 hs_63 d_Maker_init_63 (fun ct H hP hD hS => ?_)
  have hP : va_P D CL [(h0, .inr (4, [.null, .null, .ref x, .ref y, .ref z, .ref i, .null, .int 0, .int 0, .int 0])), (x, .inr (3, [.int 0, .int 16, .int 19, .ref xo, .ref xp, .ref xt, .ref xb, .ref xe, .int 0, .int 0])), (xo, .inl (cI, 40, .inl (fun _ => 0))), (xp, .inl (cI, 12, .inl (fun _ => 0))), (xt, .inl (cI, 40, .inl (fun _ => 0))), (xb, .inl (cI, 40, .inl (fun _ => 0))), (xe, .inl (cI, 40, .inl (fun _ => 0))), (y, .inr (3, [.int 1, .int 17, .int 21, .ref yo, .ref yp, .ref yt, .ref yb, .ref ye, .int 0, .int 0])), (yo, .inl (cI, 40, .inl (fun _ => 0))), (yp, .inl (cI, 12, .inl (fun _ => 0))), (yt, .inl (cI, 40, .inl (fun _ => 0))), (yb, .inl (cI, 40, .inl (fun _ => 0))), (ye, .inl (cI, 40, .inl (fun _ => 0))), (z, .inr (8, [.ref zb, .ref ze, .int 0, .int 0])), (zb, .inr (1, [.ref zr, .int 0])), (zr, .inl (cB, 400, .inl (fun _ => 0))), (ze, .inl (cI, 4, .inl (fun _ => 0))), (i, .inr (1, [.ref ir, .int 0])), (ir, .inl (cB, 60, .inl (fun _ => 0))), (ct, .inl (cI, 40, .inl (fun _ => 0)))] H := hP
  have hD : va_D A [(h0, .inr (4, [.null, .null, .ref x, .ref y, .ref z, .ref i, .null, .int 0, .int 0, .int 0])), (x, .inr (3, [.int 0, .int 16, .int 19, .ref xo, .ref xp, .ref xt, .ref xb, .ref xe, .int 0, .int 0])), (xo, .inl (cI, 40, .inl (fun _ => 0))), (xp, .inl (cI, 12, .inl (fun _ => 0))), (xt, .inl (cI, 40, .inl (fun _ => 0))), (xb, .inl (cI, 40, .inl (fun _ => 0))), (xe, .inl (cI, 40, .inl (fun _ => 0))), (y, .inr (3, [.int 1, .int 17, .int 21, .ref yo, .ref yp, .ref yt, .ref yb, .ref ye, .int 0, .int 0])), (yo, .inl (cI, 40, .inl (fun _ => 0))), (yp, .inl (cI, 12, .inl (fun _ => 0))), (yt, .inl (cI, 40, .inl (fun _ => 0))), (yb, .inl (cI, 40, .inl (fun _ => 0))), (ye, .inl (cI, 40, .inl (fun _ => 0))), (z, .inr (8, [.ref zb, .ref ze, .int 0, .int 0])), (zb, .inr (1, [.ref zr, .int 0])), (zr, .inl (cB, 400, .inl (fun _ => 0))), (ze, .inl (cI, 4, .inl (fun _ => 0))), (i, .inr (1, [.ref ir, .int 0])), (ir, .inl (cB, 60, .inl (fun _ => 0))), (ct, .inl (cI, 40, .inl (fun _ => 0)))] := hD
  refine W.widen (k := 19) (n := 876) (by decide) (by decide) ?_
  refine va_putF (D := D) (ci := 4) (v := .ref ct) (ty := .array .int) (C := "DiscMaker$Maker") (T := F_Maker) (N := 10) hx hb ht9 in_Maker t_Maker t_Maker_ok n_Maker hown hK hP hD hS 0 rfl rfl 6 (by decide) (ht9 _ k353) (fun _ h9 => h9) rfl hin rfl (by decide +kernel) rfl rfl (Nat.le_of_ble_eq_true rfl) d_Maker_init_65 (fun H locs hP hD hS => ?_)
  have hP : va_P D CL [(h0, .inr (4, [.null, .null, .ref x, .ref y, .ref z, .ref i, .ref ct, .int 0, .int 0, .int 0])), (x, .inr (3, [.int 0, .int 16, .int 19, .ref xo, .ref xp, .ref xt, .ref xb, .ref xe, .int 0, .int 0])), (xo, .inl (cI, 40, .inl (fun _ => 0))), (xp, .inl (cI, 12, .inl (fun _ => 0))), (xt, .inl (cI, 40, .inl (fun _ => 0))), (xb, .inl (cI, 40, .inl (fun _ => 0))), (xe, .inl (cI, 40, .inl (fun _ => 0))), (y, .inr (3, [.int 1, .int 17, .int 21, .ref yo, .ref yp, .ref yt, .ref yb, .ref ye, .int 0, .int 0])), (yo, .inl (cI, 40, .inl (fun _ => 0))), (yp, .inl (cI, 12, .inl (fun _ => 0))), (yt, .inl (cI, 40, .inl (fun _ => 0))), (yb, .inl (cI, 40, .inl (fun _ => 0))), (ye, .inl (cI, 40, .inl (fun _ => 0))), (z, .inr (8, [.ref zb, .ref ze, .int 0, .int 0])), (zb, .inr (1, [.ref zr, .int 0])), (zr, .inl (cB, 400, .inl (fun _ => 0))), (ze, .inl (cI, 4, .inl (fun _ => 0))), (i, .inr (1, [.ref ir, .int 0])), (ir, .inl (cB, 60, .inl (fun _ => 0))), (ct, .inl (cI, 40, .inl (fun _ => 0)))] H := hP
  have hD : va_D A [(h0, .inr (4, [.null, .null, .ref x, .ref y, .ref z, .ref i, .ref ct, .int 0, .int 0, .int 0])), (x, .inr (3, [.int 0, .int 16, .int 19, .ref xo, .ref xp, .ref xt, .ref xb, .ref xe, .int 0, .int 0])), (xo, .inl (cI, 40, .inl (fun _ => 0))), (xp, .inl (cI, 12, .inl (fun _ => 0))), (xt, .inl (cI, 40, .inl (fun _ => 0))), (xb, .inl (cI, 40, .inl (fun _ => 0))), (xe, .inl (cI, 40, .inl (fun _ => 0))), (y, .inr (3, [.int 1, .int 17, .int 21, .ref yo, .ref yp, .ref yt, .ref yb, .ref ye, .int 0, .int 0])), (yo, .inl (cI, 40, .inl (fun _ => 0))), (yp, .inl (cI, 12, .inl (fun _ => 0))), (yt, .inl (cI, 40, .inl (fun _ => 0))), (yb, .inl (cI, 40, .inl (fun _ => 0))), (ye, .inl (cI, 40, .inl (fun _ => 0))), (z, .inr (8, [.ref zb, .ref ze, .int 0, .int 0])), (zb, .inr (1, [.ref zr, .int 0])), (zr, .inl (cB, 400, .inl (fun _ => 0))), (ze, .inl (cI, 4, .inl (fun _ => 0))), (i, .inr (1, [.ref ir, .int 0])), (ir, .inl (cB, 60, .inl (fun _ => 0))), (ct, .inl (cI, 40, .inl (fun _ => 0)))] := hD
  refine lv_aload_n hx hb d_Maker_init_68 rfl (lv_at hl 0 rfl) ?_
  refine lv_aload_n hx hb d_Maker_init_69 rfl (lv_at hl 1 rfl) ?_
  refine va_putF (D := D) (ci := 4) (v := .ref tr) (ty := .object "DiscMaker$Tree") (C := "DiscMaker$Maker") (T := F_Maker) (N := 10) hx hb ht9 in_Maker t_Maker t_Maker_ok n_Maker hown hK hP hD hS 0 rfl rfl 0 (by decide) (ht9 _ k347) (fun _ h9 => h9) rfl hin rfl (by decide +kernel) rfl rfl (Nat.le_of_ble_eq_true rfl) d_Maker_init_70 (fun H locs hP hD hS => ?_)
  have hP : va_P D CL [(h0, .inr (4, [.ref tr, .null, .ref x, .ref y, .ref z, .ref i, .ref ct, .int 0, .int 0, .int 0])), (x, .inr (3, [.int 0, .int 16, .int 19, .ref xo, .ref xp, .ref xt, .ref xb, .ref xe, .int 0, .int 0])), (xo, .inl (cI, 40, .inl (fun _ => 0))), (xp, .inl (cI, 12, .inl (fun _ => 0))), (xt, .inl (cI, 40, .inl (fun _ => 0))), (xb, .inl (cI, 40, .inl (fun _ => 0))), (xe, .inl (cI, 40, .inl (fun _ => 0))), (y, .inr (3, [.int 1, .int 17, .int 21, .ref yo, .ref yp, .ref yt, .ref yb, .ref ye, .int 0, .int 0])), (yo, .inl (cI, 40, .inl (fun _ => 0))), (yp, .inl (cI, 12, .inl (fun _ => 0))), (yt, .inl (cI, 40, .inl (fun _ => 0))), (yb, .inl (cI, 40, .inl (fun _ => 0))), (ye, .inl (cI, 40, .inl (fun _ => 0))), (z, .inr (8, [.ref zb, .ref ze, .int 0, .int 0])), (zb, .inr (1, [.ref zr, .int 0])), (zr, .inl (cB, 400, .inl (fun _ => 0))), (ze, .inl (cI, 4, .inl (fun _ => 0))), (i, .inr (1, [.ref ir, .int 0])), (ir, .inl (cB, 60, .inl (fun _ => 0))), (ct, .inl (cI, 40, .inl (fun _ => 0)))] H := hP
  have hD : va_D A [(h0, .inr (4, [.ref tr, .null, .ref x, .ref y, .ref z, .ref i, .ref ct, .int 0, .int 0, .int 0])), (x, .inr (3, [.int 0, .int 16, .int 19, .ref xo, .ref xp, .ref xt, .ref xb, .ref xe, .int 0, .int 0])), (xo, .inl (cI, 40, .inl (fun _ => 0))), (xp, .inl (cI, 12, .inl (fun _ => 0))), (xt, .inl (cI, 40, .inl (fun _ => 0))), (xb, .inl (cI, 40, .inl (fun _ => 0))), (xe, .inl (cI, 40, .inl (fun _ => 0))), (y, .inr (3, [.int 1, .int 17, .int 21, .ref yo, .ref yp, .ref yt, .ref yb, .ref ye, .int 0, .int 0])), (yo, .inl (cI, 40, .inl (fun _ => 0))), (yp, .inl (cI, 12, .inl (fun _ => 0))), (yt, .inl (cI, 40, .inl (fun _ => 0))), (yb, .inl (cI, 40, .inl (fun _ => 0))), (ye, .inl (cI, 40, .inl (fun _ => 0))), (z, .inr (8, [.ref zb, .ref ze, .int 0, .int 0])), (zb, .inr (1, [.ref zr, .int 0])), (zr, .inl (cB, 400, .inl (fun _ => 0))), (ze, .inl (cI, 4, .inl (fun _ => 0))), (i, .inr (1, [.ref ir, .int 0])), (ir, .inl (cB, 60, .inl (fun _ => 0))), (ct, .inl (cI, 40, .inl (fun _ => 0)))] := hD
  refine lv_aload_n hx hb d_Maker_init_73 rfl (lv_at hl 0 rfl) ?_
  refine lv_aload_n hx hb d_Maker_init_74 rfl (lv_at hl 2 rfl) ?_
  refine va_putF (D := D) (ci := 4) (v := .ref im) (ty := .object "DiscMaker$Bytes") (C := "DiscMaker$Maker") (T := F_Maker) (N := 10) hx hb ht9 in_Maker t_Maker t_Maker_ok n_Maker hown hK hP hD hS 0 rfl rfl 1 (by decide) (ht9 _ k348) (fun _ h9 => h9) rfl hin rfl (by decide +kernel) rfl rfl (Nat.le_of_ble_eq_true rfl) d_Maker_init_75 (fun H locs hP hD hS => ?_)
  have hP : va_P D CL [(h0, .inr (4, [.ref tr, .ref im, .ref x, .ref y, .ref z, .ref i, .ref ct, .int 0, .int 0, .int 0])), (x, .inr (3, [.int 0, .int 16, .int 19, .ref xo, .ref xp, .ref xt, .ref xb, .ref xe, .int 0, .int 0])), (xo, .inl (cI, 40, .inl (fun _ => 0))), (xp, .inl (cI, 12, .inl (fun _ => 0))), (xt, .inl (cI, 40, .inl (fun _ => 0))), (xb, .inl (cI, 40, .inl (fun _ => 0))), (xe, .inl (cI, 40, .inl (fun _ => 0))), (y, .inr (3, [.int 1, .int 17, .int 21, .ref yo, .ref yp, .ref yt, .ref yb, .ref ye, .int 0, .int 0])), (yo, .inl (cI, 40, .inl (fun _ => 0))), (yp, .inl (cI, 12, .inl (fun _ => 0))), (yt, .inl (cI, 40, .inl (fun _ => 0))), (yb, .inl (cI, 40, .inl (fun _ => 0))), (ye, .inl (cI, 40, .inl (fun _ => 0))), (z, .inr (8, [.ref zb, .ref ze, .int 0, .int 0])), (zb, .inr (1, [.ref zr, .int 0])), (zr, .inl (cB, 400, .inl (fun _ => 0))), (ze, .inl (cI, 4, .inl (fun _ => 0))), (i, .inr (1, [.ref ir, .int 0])), (ir, .inl (cB, 60, .inl (fun _ => 0))), (ct, .inl (cI, 40, .inl (fun _ => 0)))] H := hP
  have hD : va_D A [(h0, .inr (4, [.ref tr, .ref im, .ref x, .ref y, .ref z, .ref i, .ref ct, .int 0, .int 0, .int 0])), (x, .inr (3, [.int 0, .int 16, .int 19, .ref xo, .ref xp, .ref xt, .ref xb, .ref xe, .int 0, .int 0])), (xo, .inl (cI, 40, .inl (fun _ => 0))), (xp, .inl (cI, 12, .inl (fun _ => 0))), (xt, .inl (cI, 40, .inl (fun _ => 0))), (xb, .inl (cI, 40, .inl (fun _ => 0))), (xe, .inl (cI, 40, .inl (fun _ => 0))), (y, .inr (3, [.int 1, .int 17, .int 21, .ref yo, .ref yp, .ref yt, .ref yb, .ref ye, .int 0, .int 0])), (yo, .inl (cI, 40, .inl (fun _ => 0))), (yp, .inl (cI, 12, .inl (fun _ => 0))), (yt, .inl (cI, 40, .inl (fun _ => 0))), (yb, .inl (cI, 40, .inl (fun _ => 0))), (ye, .inl (cI, 40, .inl (fun _ => 0))), (z, .inr (8, [.ref zb, .ref ze, .int 0, .int 0])), (zb, .inr (1, [.ref zr, .int 0])), (zr, .inl (cB, 400, .inl (fun _ => 0))), (ze, .inl (cI, 4, .inl (fun _ => 0))), (i, .inr (1, [.ref ir, .int 0])), (ir, .inl (cB, 60, .inl (fun _ => 0))), (ct, .inl (cI, 40, .inl (fun _ => 0)))] := hD
  have hP9 := hP.sub (ws' := [(h0, .inr (4, [.ref tr, .ref im, .ref x, .ref y, .ref z, .ref i, .ref ct, .int 0, .int 0, .int 0])), (x, .inr (3, [.int 0, .int 16, .int 19, .ref xo, .ref xp, .ref xt, .ref xb, .ref xe, .int 0, .int 0])), (xo, .inl (cI, 40, .inl (fun _ => 0))), (xp, .inl (cI, 12, .inl (fun _ => 0))), (xt, .inl (cI, 40, .inl (fun _ => 0))), (xb, .inl (cI, 40, .inl (fun _ => 0))), (xe, .inl (cI, 40, .inl (fun _ => 0))), (y, .inr (3, [.int 1, .int 17, .int 21, .ref yo, .ref yp, .ref yt, .ref yb, .ref ye, .int 0, .int 0])), (yo, .inl (cI, 40, .inl (fun _ => 0))), (yp, .inl (cI, 12, .inl (fun _ => 0))), (yt, .inl (cI, 40, .inl (fun _ => 0))), (yb, .inl (cI, 40, .inl (fun _ => 0))), (ye, .inl (cI, 40, .inl (fun _ => 0))), (z, .inr (8, [.ref zb, .ref ze, .int 0, .int 0])), (zb, .inr (1, [.ref zr, .int 0])), (zr, .inl (cB, 400, .inl (fun _ => 0))), (ze, .inl (cI, 4, .inl (fun _ => 0))), (i, .inr (1, [.ref ir, .int 0])), (ir, .inl (cB, 60, .inl (fun _ => 0))), (ct, .inl (cI, 40, .inl (fun _ => 0)))]) [0, 1, 2, 3, 4, 5, 6, 7, 8, 9, 10, 11, 12, 13, 14, 15, 16, 17, 18, 19] rfl
  have hD9 := hD.sub (ws' := [(h0, .inr (4, [.ref tr, .ref im, .ref x, .ref y, .ref z, .ref i, .ref ct, .int 0, .int 0, .int 0])), (x, .inr (3, [.int 0, .int 16, .int 19, .ref xo, .ref xp, .ref xt, .ref xb, .ref xe, .int 0, .int 0])), (xo, .inl (cI, 40, .inl (fun _ => 0))), (xp, .inl (cI, 12, .inl (fun _ => 0))), (xt, .inl (cI, 40, .inl (fun _ => 0))), (xb, .inl (cI, 40, .inl (fun _ => 0))), (xe, .inl (cI, 40, .inl (fun _ => 0))), (y, .inr (3, [.int 1, .int 17, .int 21, .ref yo, .ref yp, .ref yt, .ref yb, .ref ye, .int 0, .int 0])), (yo, .inl (cI, 40, .inl (fun _ => 0))), (yp, .inl (cI, 12, .inl (fun _ => 0))), (yt, .inl (cI, 40, .inl (fun _ => 0))), (yb, .inl (cI, 40, .inl (fun _ => 0))), (ye, .inl (cI, 40, .inl (fun _ => 0))), (z, .inr (8, [.ref zb, .ref ze, .int 0, .int 0])), (zb, .inr (1, [.ref zr, .int 0])), (zr, .inl (cB, 400, .inl (fun _ => 0))), (ze, .inl (cI, 4, .inl (fun _ => 0))), (i, .inr (1, [.ref ir, .int 0])), (ir, .inl (cB, 60, .inl (fun _ => 0))), (ct, .inl (cI, 40, .inl (fun _ => 0)))]) [0, 1, 2, 3, 4, 5, 6, 7, 8, 9, 10, 11, 12, 13, 14, 15, 16, 17, 18, 19] (by decide) rfl
  exact W.vret hx hb hr (fun t ht hW => ⟨⟨(x, xo, xp, xt, xb, xe, y, yo, yp, yt, yb, ye, z, zb, zr, ze, i, ir, ct), rfl, trivial, by rw [ht]; exact hP9, hD9⟩, hS.F ht⟩) hS.2.2 d_Maker_init_78

theorem d_PartsReader_init_0 : decode b_PartsReader_init 0 = .ok (.aload_n 0, 1) := by decide +kernel
theorem d_PartsReader_init_1 : decode b_PartsReader_init 1 = .ok (.invokespecial 3, 3) := by decide +kernel
theorem d_PartsReader_init_4 : decode b_PartsReader_init 4 = .ok (.aload_n 0, 1) := by decide +kernel
theorem d_PartsReader_init_5 : decode b_PartsReader_init 5 = .ok (.aload_n 1, 1) := by decide +kernel
theorem d_PartsReader_init_6 : decode b_PartsReader_init 6 = .ok (.putfield 9, 3) := by decide +kernel
theorem d_PartsReader_init_9 : decode b_PartsReader_init 9 = .ok (.return_, 1) := by decide +kernel
set_option maxHeartbeats 4000000 in
set_option maxRecDepth 100000 in
theorem c_PartsReader_init (l : Launch) (D : va_G) (cB cI cJ cZ cN cF : ClassId) (sz : Nat) (h0 im : Nat) : Met l y_PartsReader_init w_PartsReader_init ({ frames := 1, cells := 0, slots := 0, locals := 24 }) (va_Pc [.ref h0, .ref im] (fun U => U.heap.size = sz ∧ va_P D CL [(h0, .inr (6, [.null, .null, .int 0, .int 0, .int 0, .int 0]))] U.heap ∧ va_K D CL (TY cB cI cJ cZ cN cF) U ∧ NN U ∧ va_D (fun _ => True) [(h0, .inr (6, [.null, .null, .int 0, .int 0, .int 0, .int 0]))])) (va_Qv (fun (u : Unit) => True) (fun (u : Unit) (t : State) => match u with | () => va_P D CL [(h0, .inr (6, [.ref im, .null, .int 0, .int 0, .int 0, .int 0]))] t.heap ∧ va_D (va_A [(h0, .inr (6, [.null, .null, .int 0, .int 0, .int 0, .int 0]))] sz) [(h0, .inr (6, [.ref im, .null, .int 0, .int 0, .int 0, .int 0]))]) (va_A [(h0, .inr (6, [.null, .null, .int 0, .int 0, .int 0, .int 0]))] sz)) 0 0 (va_A [(h0, .inr (6, [.null, .null, .int 0, .int 0, .int 0, .int 0]))] sz) := by
  refine Met.ofW (cc := b_PartsReader_init) (maxL := 2) (ret := none) (by decide) rfl ?_
  intro p e s m args below meth c s₁ B hml hv
  obtain ⟨rfl, hsz, hP, hK, hN, hD0⟩ := hv
  have hx := B.exec
  have hb := B.bytes
  have hr := B.returns
  have hts := atoms_spec (ws := w_PartsReader_init) B.pre
  have ht9 := fun (w : Cond) (h : w ∈ lw_g) => hts w (List.mem_cons_of_mem _ h)
  have hown : s.vm.findClass "DiscMaker$PartsReader" = some m.cls := findClass_of_methodNamed B.named
  have hlocks := B.notSynchronized
  have hin : meth.name = "<init>" := (name_of_methodNamed B.named B.method).1
  subst hsz
  have hD := hD0.self (sz := s.heap.size)
  generalize hAe : va_A [(h0, .inr (6, [.null, .null, .int 0, .int 0, .int 0, .int 0]))] s.heap.size = A at hD ⊢
  have hA : ∀ q : Nat, s.heap.size ≤ q → A q := fun q h => by rw [← hAe]; exact Or.inr h
  have hS : va_S A s.heap s.heap [] := va_S.rf
  have hP : va_P D CL [(h0, .inr (6, [.null, .null, .int 0, .int 0, .int 0, .int 0]))] s.heap := hP
  have hl := lv_entry [.ref h0, .ref im] (n := 2) (Nat.le_of_ble_eq_true rfl)
  rw [lg_entry_eq]
  generalize (lg_sl [.ref h0, .ref im] ++ List.replicate (2 - (lg_sl [.ref h0, .ref im]).length) Slot.unset).toArray = ls at hl ⊢
  have hl : lv_has ls 2 [(0, .ref h0), (1, .ref im)] := hl
  refine lv_aload_n hx hb d_PartsReader_init_0 rfl (lv_at hl 0 rfl) ?_
  refine W.objInit hx hb hown (ht9 _ k391) (ht9 _ k149) (ht9 _ kObj) rfl (by rw [hml]; exact hl.1) rfl d_PartsReader_init_1 (Nat.le_of_ble_eq_true rfl) (Nat.le_of_ble_eq_true rfl) ?_
  refine W.eq (g2 := F0 m 4 ls []) rfl ?_
  refine lv_aload_n hx hb d_PartsReader_init_4 rfl (lv_at hl 0 rfl) ?_
  refine lv_aload_n hx hb d_PartsReader_init_5 rfl (lv_at hl 1 rfl) ?_
  refine va_putF (D := D) (ci := 6) (v := .ref im) (ty := .object "DiscMaker$Bytes") (C := "DiscMaker$PartsReader") (T := F_PartsReader) (N := 6) hx hb ht9 in_PartsReader t_PartsReader t_PartsReader_ok n_PartsReader hown hK hP hD hS 0 rfl rfl 0 (by decide) (ht9 _ k392) (fun _ h9 => h9) rfl hin rfl (by decide +kernel) rfl rfl (Nat.le_of_ble_eq_true rfl) d_PartsReader_init_6 (fun H locs hP hD hS => ?_)
  have hP : va_P D CL [(h0, .inr (6, [.ref im, .null, .int 0, .int 0, .int 0, .int 0]))] H := hP
  have hD : va_D A [(h0, .inr (6, [.ref im, .null, .int 0, .int 0, .int 0, .int 0]))] := hD
  have hP9 := hP.sub (ws' := [(h0, .inr (6, [.ref im, .null, .int 0, .int 0, .int 0, .int 0]))]) [0] rfl
  have hD9 := hD.sub (ws' := [(h0, .inr (6, [.ref im, .null, .int 0, .int 0, .int 0, .int 0]))]) [0] (by decide) rfl
  exact W.vret hx hb hr (fun t ht hW => ⟨⟨(), rfl, trivial, by rw [ht]; exact hP9, hD9⟩, hS.F ht⟩) hS.2.2 d_PartsReader_init_9

theorem d_Reader_init_0 : decode b_Reader_init 0 = .ok (.aload_n 0, 1) := by decide +kernel
theorem d_Reader_init_1 : decode b_Reader_init 1 = .ok (.invokespecial 3, 3) := by decide +kernel
theorem d_Reader_init_4 : decode b_Reader_init 4 = .ok (.aload_n 0, 1) := by decide +kernel
theorem d_Reader_init_5 : decode b_Reader_init 5 = .ok (.bipush 99, 2) := by decide +kernel
theorem d_Reader_init_7 : decode b_Reader_init 7 = .ok (.anewarray 9, 3) := by decide +kernel
theorem d_Reader_init_10 : decode b_Reader_init 10 = .ok (.putfield 11, 3) := by decide +kernel
theorem d_Reader_init_13 : decode b_Reader_init 13 = .ok (.aload_n 0, 1) := by decide +kernel
theorem d_Reader_init_14 : decode b_Reader_init 14 = .ok (.aload_n 1, 1) := by decide +kernel
theorem d_Reader_init_15 : decode b_Reader_init 15 = .ok (.putfield 17, 3) := by decide +kernel
theorem d_Reader_init_18 : decode b_Reader_init 18 = .ok (.aload_n 0, 1) := by decide +kernel
theorem d_Reader_init_19 : decode b_Reader_init 19 = .ok (.new 21, 3) := by decide +kernel
theorem d_Reader_init_22 : decode b_Reader_init 22 = .ok (.dup, 1) := by decide +kernel
theorem d_Reader_init_23 : decode b_Reader_init 23 = .ok (.aload_n 1, 1) := by decide +kernel
theorem d_Reader_init_24 : decode b_Reader_init 24 = .ok (.invokespecial 23, 3) := by decide +kernel
theorem d_Reader_init_27 : decode b_Reader_init 27 = .ok (.putfield 26, 3) := by decide +kernel
theorem d_Reader_init_30 : decode b_Reader_init 30 = .ok (.return_, 1) := by decide +kernel
set_option maxHeartbeats 4000000 in
set_option maxRecDepth 100000 in
theorem c_Reader_init (l : Launch) (D : va_G) (cB cI cJ cZ cN cF : ClassId) (sz : Nat) (h0 im : Nat) : Met l y_Reader_init w_Reader_init ({ frames := 2, cells := 2, slots := 105, locals := 45 }) (va_Pc [.ref h0, .ref im] (fun U => U.heap.size = sz ∧ va_P D CL [(h0, .inr (7, [.null, .null, .null, .int 0, .int 0, .int 0]))] U.heap ∧ va_K D CL (TY cB cI cJ cZ cN cF) U ∧ NN U ∧ va_D (fun _ => True) [(h0, .inr (7, [.null, .null, .null, .int 0, .int 0, .int 0]))])) (va_Qv (fun (u : Nat × Nat) => True) (fun (u : Nat × Nat) (t : State) => match u with | (qr, qp) => va_P D CL [(h0, .inr (7, [.ref im, .ref qp, .ref qr, .int 0, .int 0, .int 0])), (qp, .inr (6, [.ref im, .null, .int 0, .int 0, .int 0, .int 0])), (qr, .inl (cF, 99, .inr (.inr (.inr (.inr (fun _ => none))))))] t.heap ∧ va_D (va_A [(h0, .inr (7, [.null, .null, .null, .int 0, .int 0, .int 0]))] sz) [(h0, .inr (7, [.ref im, .ref qp, .ref qr, .int 0, .int 0, .int 0])), (qp, .inr (6, [.ref im, .null, .int 0, .int 0, .int 0, .int 0])), (qr, .inl (cF, 99, .inr (.inr (.inr (.inr (fun _ => none))))))]) (va_A [(h0, .inr (7, [.null, .null, .null, .int 0, .int 0, .int 0]))] sz)) 2 105 (va_A [(h0, .inr (7, [.null, .null, .null, .int 0, .int 0, .int 0]))] sz) := by
  refine Met.ofW (cc := b_Reader_init) (maxL := 2) (ret := none) (by decide) rfl ?_
  intro p e s m args below meth c s₁ B hml hv
  obtain ⟨rfl, hsz, hP, hK, hN, hD0⟩ := hv
  have hx := B.exec
  have hb := B.bytes
  have hr := B.returns
  have hts := atoms_spec (ws := w_Reader_init) B.pre
  have ht9 := fun (w : Cond) (h : w ∈ lw_g) => hts w (List.mem_cons_of_mem _ h)
  have hown : s.vm.findClass "DiscMaker$Reader" = some m.cls := findClass_of_methodNamed B.named
  have hlocks := B.notSynchronized
  have hin : meth.name = "<init>" := (name_of_methodNamed B.named B.method).1
  subst hsz
  have hD := hD0.self (sz := s.heap.size)
  generalize hAe : va_A [(h0, .inr (7, [.null, .null, .null, .int 0, .int 0, .int 0]))] s.heap.size = A at hD ⊢
  have hA : ∀ q : Nat, s.heap.size ≤ q → A q := fun q h => by rw [← hAe]; exact Or.inr h
  have hS : va_S A s.heap s.heap [] := va_S.rf
  have hP : va_P D CL [(h0, .inr (7, [.null, .null, .null, .int 0, .int 0, .int 0]))] s.heap := hP
  have hl := lv_entry [.ref h0, .ref im] (n := 2) (Nat.le_of_ble_eq_true rfl)
  rw [lg_entry_eq]
  generalize (lg_sl [.ref h0, .ref im] ++ List.replicate (2 - (lg_sl [.ref h0, .ref im]).length) Slot.unset).toArray = ls at hl ⊢
  have hl : lv_has ls 2 [(0, .ref h0), (1, .ref im)] := hl
  refine lv_aload_n hx hb d_Reader_init_0 rfl (lv_at hl 0 rfl) ?_
  refine W.objInit hx hb hown (ht9 _ k383) (ht9 _ k149) (ht9 _ kObj) rfl (by rw [hml]; exact hl.1) rfl d_Reader_init_1 (Nat.le_of_ble_eq_true rfl) (Nat.le_of_ble_eq_true rfl) ?_
  refine W.eq (g2 := F0 m 4 ls []) rfl ?_
  refine lv_aload_n hx hb d_Reader_init_4 rfl (lv_at hl 0 rfl) ?_
  refine lv_bipush (v := 99) hx hb d_Reader_init_5 (by decide) ?_
  have hc_7 : 1 ≤ 2 := by decide
  have hs_7 : 99 ≤ 105 := by decide
  refine zz_newq (cK := cF) (N' := 99) 5 rfl hx hb hown (ht9 _ k384) (hN _ k385) hK hP hD hS hA (by decide) (by decide) (by decide) hc_7 hs_7 d_Reader_init_7 (fun qr H hP hD hS => ?_)
  have hP : va_P D CL [(h0, .inr (7, [.null, .null, .null, .int 0, .int 0, .int 0])), (qr, .inl (cF, 99, .inr (.inr (.inr (.inr (fun _ => none))))))] H := hP
  have hD : va_D A [(h0, .inr (7, [.null, .null, .null, .int 0, .int 0, .int 0])), (qr, .inl (cF, 99, .inr (.inr (.inr (.inr (fun _ => none))))))] := hD
  refine W.widen (k := 1) (n := 99) (by decide) (by decide) ?_
  refine va_putF (D := D) (ci := 7) (v := .ref qr) (ty := .array (.object "DiscMaker$Found")) (C := "DiscMaker$Reader") (T := F_Reader) (N := 6) hx hb ht9 in_Reader t_Reader t_Reader_ok n_Reader hown hK hP hD hS 0 rfl rfl 2 (by decide) (ht9 _ k414) (fun _ h9 => h9) rfl hin rfl (by decide +kernel) rfl rfl (Nat.le_of_ble_eq_true rfl) d_Reader_init_10 (fun H locs hP hD hS => ?_)
  have hP : va_P D CL [(h0, .inr (7, [.null, .null, .ref qr, .int 0, .int 0, .int 0])), (qr, .inl (cF, 99, .inr (.inr (.inr (.inr (fun _ => none))))))] H := hP
  have hD : va_D A [(h0, .inr (7, [.null, .null, .ref qr, .int 0, .int 0, .int 0])), (qr, .inl (cF, 99, .inr (.inr (.inr (.inr (fun _ => none))))))] := hD
  refine lv_aload_n hx hb d_Reader_init_13 rfl (lv_at hl 0 rfl) ?_
  refine lv_aload_n hx hb d_Reader_init_14 rfl (lv_at hl 1 rfl) ?_
  refine va_putF (D := D) (ci := 7) (v := .ref im) (ty := .object "DiscMaker$Bytes") (C := "DiscMaker$Reader") (T := F_Reader) (N := 6) hx hb ht9 in_Reader t_Reader t_Reader_ok n_Reader hown hK hP hD hS 0 rfl rfl 0 (by decide) (ht9 _ k412) (fun _ h9 => h9) rfl hin rfl (by decide +kernel) rfl rfl (Nat.le_of_ble_eq_true rfl) d_Reader_init_15 (fun H locs hP hD hS => ?_)
  have hP : va_P D CL [(h0, .inr (7, [.ref im, .null, .ref qr, .int 0, .int 0, .int 0])), (qr, .inl (cF, 99, .inr (.inr (.inr (.inr (fun _ => none))))))] H := hP
  have hD : va_D A [(h0, .inr (7, [.ref im, .null, .ref qr, .int 0, .int 0, .int 0])), (qr, .inl (cF, 99, .inr (.inr (.inr (.inr (fun _ => none))))))] := hD
  refine lv_aload_n hx hb d_Reader_init_18 rfl (lv_at hl 0 rfl) ?_
  have hc_19 : 2 ≤ 2 := by decide
  have hs_19 : 105 ≤ 105 := by decide
  refine va_new (ci := 6) (fs := [.null, .null, .int 0, .int 0, .int 0, .int 0]) (C := "DiscMaker$PartsReader") (T := F_PartsReader) (N := 6) hx hb ht9 in_PartsReader t_PartsReader t_PartsReader_ok hown (ht9 _ k386) (ht9 _ k387) (ht9 _ k124) hK hP hD hS hA rfl (by decide) hc_19 hs_19 d_Reader_init_19 (fun qp H hP hD hS => ?_)
  have hP : va_P D CL [(h0, .inr (7, [.ref im, .null, .ref qr, .int 0, .int 0, .int 0])), (qr, .inl (cF, 99, .inr (.inr (.inr (.inr (fun _ => none)))))), (qp, .inr (6, [.null, .null, .int 0, .int 0, .int 0, .int 0]))] H := hP
  have hD : va_D A [(h0, .inr (7, [.ref im, .null, .ref qr, .int 0, .int 0, .int 0])), (qr, .inl (cF, 99, .inr (.inr (.inr (.inr (fun _ => none)))))), (qp, .inr (6, [.null, .null, .int 0, .int 0, .int 0, .int 0]))] := hD
  refine W.widen (k := 2) (n := 105) (by decide) (by decide) ?_
  refine lv_dup hx hb d_Reader_init_22 rfl ?_
  refine lv_aload_n hx hb d_Reader_init_23 rfl (lv_at hl 1 rfl) ?_
  have hPc := hP.sub (ws' := [(qp, .inr (6, [.null, .null, .int 0, .int 0, .int 0, .int 0]))]) [2] rfl
  have hDc := hD.sub (ws' := [(qp, .inr (6, [.null, .null, .int 0, .int 0, .int 0, .int 0]))]) [2] (by decide) rfl
  have hFc := va_free (wc := [(qp, .inr (6, [.null, .null, .int 0, .int 0, .int 0, .int 0]))]) hD hS hA [2] rfl
  have hkc : 2 ≤ 2 := by decide
  have hks : 105 ≤ 105 := by decide
  refine va_callv (va_runI (As := [.ref im]) (rest := [.ref qp, .ref h0]) ⟨hx, hb, hml, hown, hts⟩ (c_PartsReader_init l D cB cI cJ cZ cN cF H.size qp im) (cwI 1 hts (lg_good kc_PartsReader_init) rfl rfl rfl (ht9 _ k124) (ht9 _ k388) (ht9 _ k389) rfl (by decide +kernel) ⟨Nat.le_of_ble_eq_true rfl, Nat.le_of_ble_eq_true rfl⟩) ⟨fun a U g mk q => by obtain ⟨q0, q1, qP, qK, qN, qD⟩ := q; exact ⟨q0, q1, qP, va_K.moved (u := U) (U := U.calling g mk a) (Vm.Alike.refl U.vm) qK, qN.calling, qD⟩, fun U hU hW => ⟨rfl, by rw [hU], by rw [hU]; exact hPc, va_K.moved hW.alike hK, NN.warm hW hN, hDc.weaken (fun _ _ _ _ => trivial)⟩⟩ rfl rfl hl.1 rfl (lv_room (Nat.le_of_ble_eq_true rfl)) d_Reader_init_24 ⟨hkc, hks⟩) hS (fun q _ h => hFc q h) hFc (fun u t H1 locs ht hvm hp_24 hB hz1 hk1 hS => ?_)
  obtain ⟨hP1, hD1⟩ := hB
  rw [ht] at hP1
  obtain ⟨hP, hD⟩ := va_join (wr := [(h0, .inr (7, [.ref im, .null, .ref qr, .int 0, .int 0, .int 0])), (qr, .inl (cF, 99, .inr (.inr (.inr (.inr (fun _ => none))))))]) (w1 := [(qp, .inr (6, [.ref im, .null, .int 0, .int 0, .int 0, .int 0]))]) hP hD [2] [0, 1] rfl rfl (by decide) (by decide) hk1 hFc hP1 hD1
  clear hPc hDc hFc hP1 hD1 hk1 hz1
  generalize H1 = H at hP hS ⊢
  have hP : va_P D CL [(h0, .inr (7, [.ref im, .null, .ref qr, .int 0, .int 0, .int 0])), (qr, .inl (cF, 99, .inr (.inr (.inr (.inr (fun _ => none)))))), (qp, .inr (6, [.ref im, .null, .int 0, .int 0, .int 0, .int 0]))] H := hP
  have hD : va_D A [(h0, .inr (7, [.ref im, .null, .ref qr, .int 0, .int 0, .int 0])), (qr, .inl (cF, 99, .inr (.inr (.inr (.inr (fun _ => none)))))), (qp, .inr (6, [.ref im, .null, .int 0, .int 0, .int 0, .int 0]))] := hD
  refine va_putF (D := D) (ci := 7) (v := .ref qp) (ty := .object "DiscMaker$PartsReader") (C := "DiscMaker$Reader") (T := F_Reader) (N := 6) hx hb ht9 in_Reader t_Reader t_Reader_ok n_Reader hown hK hP hD hS 0 rfl rfl 1 (by decide) (ht9 _ k413) (fun _ h9 => h9) rfl hin rfl (by decide +kernel) rfl rfl (Nat.le_of_ble_eq_true rfl) d_Reader_init_27 (fun H locs hP hD hS => ?_)
  have hP : va_P D CL [(h0, .inr (7, [.ref im, .ref qp, .ref qr, .int 0, .int 0, .int 0])), (qr, .inl (cF, 99, .inr (.inr (.inr (.inr (fun _ => none)))))), (qp, .inr (6, [.ref im, .null, .int 0, .int 0, .int 0, .int 0]))] H := hP
  have hD : va_D A [(h0, .inr (7, [.ref im, .ref qp, .ref qr, .int 0, .int 0, .int 0])), (qr, .inl (cF, 99, .inr (.inr (.inr (.inr (fun _ => none)))))), (qp, .inr (6, [.ref im, .null, .int 0, .int 0, .int 0, .int 0]))] := hD
  have hP9 := hP.sub (ws' := [(h0, .inr (7, [.ref im, .ref qp, .ref qr, .int 0, .int 0, .int 0])), (qp, .inr (6, [.ref im, .null, .int 0, .int 0, .int 0, .int 0])), (qr, .inl (cF, 99, .inr (.inr (.inr (.inr (fun _ => none))))))]) [0, 2, 1] rfl
  have hD9 := hD.sub (ws' := [(h0, .inr (7, [.ref im, .ref qp, .ref qr, .int 0, .int 0, .int 0])), (qp, .inr (6, [.ref im, .null, .int 0, .int 0, .int 0, .int 0])), (qr, .inl (cF, 99, .inr (.inr (.inr (.inr (fun _ => none))))))]) [0, 2, 1] (by decide) rfl
  exact W.vret hx hb hr (fun t ht hW => ⟨⟨(qr, qp), rfl, trivial, by rw [ht]; exact hP9, hD9⟩, hS.F ht⟩) hS.2.2 d_Reader_init_30

theorem d_DiscMaker_init_0 : decode b_DiscMaker_init 0 = .ok (.aload_n 0, 1) := by decide +kernel
theorem d_DiscMaker_init_1 : decode b_DiscMaker_init 1 = .ok (.invokespecial 1, 3) := by decide +kernel
theorem d_DiscMaker_init_4 : decode b_DiscMaker_init 4 = .ok (.aload_n 0, 1) := by decide +kernel
theorem d_DiscMaker_init_5 : decode b_DiscMaker_init 5 = .ok (.new 7, 3) := by decide +kernel
theorem d_DiscMaker_init_8 : decode b_DiscMaker_init 8 = .ok (.dup, 1) := by decide +kernel
theorem d_DiscMaker_init_9 : decode b_DiscMaker_init 9 = .ok (.invokespecial 9, 3) := by decide +kernel
theorem d_DiscMaker_init_12 : decode b_DiscMaker_init 12 = .ok (.putfield 10, 3) := by decide +kernel
theorem d_DiscMaker_init_15 : decode b_DiscMaker_init 15 = .ok (.aload_n 0, 1) := by decide +kernel
theorem d_DiscMaker_init_16 : decode b_DiscMaker_init 16 = .ok (.new 16, 3) := by decide +kernel
theorem d_DiscMaker_init_19 : decode b_DiscMaker_init 19 = .ok (.dup, 1) := by decide +kernel
theorem d_DiscMaker_init_20 : decode b_DiscMaker_init 20 = .ok (.invokespecial 18, 3) := by decide +kernel
theorem d_DiscMaker_init_23 : decode b_DiscMaker_init 23 = .ok (.putfield 19, 3) := by decide +kernel
theorem d_DiscMaker_init_26 : decode b_DiscMaker_init 26 = .ok (.aload_n 0, 1) := by decide +kernel
theorem d_DiscMaker_init_27 : decode b_DiscMaker_init 27 = .ok (.new 23, 3) := by decide +kernel
theorem d_DiscMaker_init_30 : decode b_DiscMaker_init 30 = .ok (.dup, 1) := by decide +kernel
theorem d_DiscMaker_init_31 : decode b_DiscMaker_init 31 = .ok (.iconst 0, 1) := by decide +kernel
theorem d_DiscMaker_init_32 : decode b_DiscMaker_init 32 = .ok (.invokespecial 25, 3) := by decide +kernel
theorem d_DiscMaker_init_35 : decode b_DiscMaker_init 35 = .ok (.putfield 28, 3) := by decide +kernel
theorem d_DiscMaker_init_38 : decode b_DiscMaker_init 38 = .ok (.aload_n 0, 1) := by decide +kernel
theorem d_DiscMaker_init_39 : decode b_DiscMaker_init 39 = .ok (.new 32, 3) := by decide +kernel
theorem d_DiscMaker_init_42 : decode b_DiscMaker_init 42 = .ok (.dup, 1) := by decide +kernel
theorem d_DiscMaker_init_43 : decode b_DiscMaker_init 43 = .ok (.aload_n 0, 1) := by decide +kernel
theorem d_DiscMaker_init_44 : decode b_DiscMaker_init 44 = .ok (.getfield 19, 3) := by decide +kernel
theorem d_DiscMaker_init_47 : decode b_DiscMaker_init 47 = .ok (.aload_n 0, 1) := by decide +kernel
theorem d_DiscMaker_init_48 : decode b_DiscMaker_init 48 = .ok (.getfield 28, 3) := by decide +kernel
theorem d_DiscMaker_init_51 : decode b_DiscMaker_init 51 = .ok (.invokespecial 34, 3) := by decide +kernel
theorem d_DiscMaker_init_54 : decode b_DiscMaker_init 54 = .ok (.putfield 37, 3) := by decide +kernel
theorem d_DiscMaker_init_57 : decode b_DiscMaker_init 57 = .ok (.aload_n 0, 1) := by decide +kernel
theorem d_DiscMaker_init_58 : decode b_DiscMaker_init 58 = .ok (.new 41, 3) := by decide +kernel
theorem d_DiscMaker_init_61 : decode b_DiscMaker_init 61 = .ok (.dup, 1) := by decide +kernel
theorem d_DiscMaker_init_62 : decode b_DiscMaker_init 62 = .ok (.aload_n 0, 1) := by decide +kernel
theorem d_DiscMaker_init_63 : decode b_DiscMaker_init 63 = .ok (.getfield 28, 3) := by decide +kernel
theorem d_DiscMaker_init_66 : decode b_DiscMaker_init 66 = .ok (.invokespecial 43, 3) := by decide +kernel
theorem d_DiscMaker_init_69 : decode b_DiscMaker_init 69 = .ok (.putfield 46, 3) := by decide +kernel
theorem d_DiscMaker_init_72 : decode b_DiscMaker_init 72 = .ok (.return_, 1) := by decide +kernel
set_option maxHeartbeats 4000000 in
set_option maxRecDepth 100000 in
theorem c_DiscMaker_init (l : Launch) (D : va_G) (cB cI cJ cZ cN cF : ClassId) (sz : Nat) (h0 : Nat) : Met l y_DiscMaker_init w_DiscMaker_init ({ frames := 4, cells := 33, slots := 1467, locals := 87 }) (va_Pc [.ref h0] (fun U => U.heap.size = sz ∧ va_P D CL [(h0, .inr (0, [.null, .null, .null, .null, .null]))] U.heap ∧ va_K D CL (TY cB cI cJ cZ cN cF) U ∧ NN U ∧ va_D (fun _ => True) [(h0, .inr (0, [.null, .null, .null, .null, .null]))])) (va_Qv (fun (u : Nat × Nat × Nat × Nat × Nat × Nat × Nat × Nat × Nat × Nat × Nat × Nat × Nat × Nat × Nat × Nat × Nat × Nat × Nat × Nat × Nat × Nat × Nat × Nat × Nat × Nat × Nat × Nat × Nat × Nat × Nat × Nat × Nat) => True) (fun (u : Nat × Nat × Nat × Nat × Nat × Nat × Nat × Nat × Nat × Nat × Nat × Nat × Nat × Nat × Nat × Nat × Nat × Nat × Nat × Nat × Nat × Nat × Nat × Nat × Nat × Nat × Nat × Nat × Nat × Nat × Nat × Nat × Nat) (t : State) => match u with | (tx, tq, tr, qa, qn, qm, qt, qk, im, iq, mkr, x, xo, xp, xt, xb, xe, y, yo, yp, yt, yb, ye, z, zb, zr, ze, i, ir, ct, rd, rr, rp) => va_P D CL [(h0, .inr (0, [.ref tx, .ref tr, .ref im, .ref mkr, .ref rd])), (tx, .inr (9, [.ref tq, .int 0])), (tq, .inl (cB, 400, .inl (fun _ => 0))), (tr, .inr (10, [.ref qa, .int 1, .int 1])), (qa, .inl (cN, 40, .inr (.inr (.inr (.inr (va_up (fun _ => none) 0 (some qn))))))), (qn, .inr (5, [.int 0, .ref qm, .ref qk, .ref qt, .int 0, .int 0, .int 0, .int 16877, .int 0, .int 0, .int 0, .int 0])), (qm, .inl (cB, 0, .inl (fun _ => 0))), (qt, .inl (cB, 0, .inl (fun _ => 0))), (qk, .inl (cB, 11, .inl (fun _ => 0))), (im, .inr (1, [.ref iq, .int 0])), (iq, .inl (cB, 0, .inl (fun _ => 0))), (mkr, .inr (4, [.ref tr, .ref im, .ref x, .ref y, .ref z, .ref i, .ref ct, .int 0, .int 0, .int 0])), (x, .inr (3, [.int 0, .int 16, .int 19, .ref xo, .ref xp, .ref xt, .ref xb, .ref xe, .int 0, .int 0])), (xo, .inl (cI, 40, .inl (fun _ => 0))), (xp, .inl (cI, 12, .inl (fun _ => 0))), (xt, .inl (cI, 40, .inl (fun _ => 0))), (xb, .inl (cI, 40, .inl (fun _ => 0))), (xe, .inl (cI, 40, .inl (fun _ => 0))), (y, .inr (3, [.int 1, .int 17, .int 21, .ref yo, .ref yp, .ref yt, .ref yb, .ref ye, .int 0, .int 0])), (yo, .inl (cI, 40, .inl (fun _ => 0))), (yp, .inl (cI, 12, .inl (fun _ => 0))), (yt, .inl (cI, 40, .inl (fun _ => 0))), (yb, .inl (cI, 40, .inl (fun _ => 0))), (ye, .inl (cI, 40, .inl (fun _ => 0))), (z, .inr (8, [.ref zb, .ref ze, .int 0, .int 0])), (zb, .inr (1, [.ref zr, .int 0])), (zr, .inl (cB, 400, .inl (fun _ => 0))), (ze, .inl (cI, 4, .inl (fun _ => 0))), (i, .inr (1, [.ref ir, .int 0])), (ir, .inl (cB, 60, .inl (fun _ => 0))), (ct, .inl (cI, 40, .inl (fun _ => 0))), (rd, .inr (7, [.ref im, .ref rp, .ref rr, .int 0, .int 0, .int 0])), (rp, .inr (6, [.ref im, .null, .int 0, .int 0, .int 0, .int 0])), (rr, .inl (cF, 99, .inr (.inr (.inr (.inr (fun _ => none))))))] t.heap ∧ va_D (va_A [(h0, .inr (0, [.null, .null, .null, .null, .null]))] sz) [(h0, .inr (0, [.ref tx, .ref tr, .ref im, .ref mkr, .ref rd])), (tx, .inr (9, [.ref tq, .int 0])), (tq, .inl (cB, 400, .inl (fun _ => 0))), (tr, .inr (10, [.ref qa, .int 1, .int 1])), (qa, .inl (cN, 40, .inr (.inr (.inr (.inr (va_up (fun _ => none) 0 (some qn))))))), (qn, .inr (5, [.int 0, .ref qm, .ref qk, .ref qt, .int 0, .int 0, .int 0, .int 16877, .int 0, .int 0, .int 0, .int 0])), (qm, .inl (cB, 0, .inl (fun _ => 0))), (qt, .inl (cB, 0, .inl (fun _ => 0))), (qk, .inl (cB, 11, .inl (fun _ => 0))), (im, .inr (1, [.ref iq, .int 0])), (iq, .inl (cB, 0, .inl (fun _ => 0))), (mkr, .inr (4, [.ref tr, .ref im, .ref x, .ref y, .ref z, .ref i, .ref ct, .int 0, .int 0, .int 0])), (x, .inr (3, [.int 0, .int 16, .int 19, .ref xo, .ref xp, .ref xt, .ref xb, .ref xe, .int 0, .int 0])), (xo, .inl (cI, 40, .inl (fun _ => 0))), (xp, .inl (cI, 12, .inl (fun _ => 0))), (xt, .inl (cI, 40, .inl (fun _ => 0))), (xb, .inl (cI, 40, .inl (fun _ => 0))), (xe, .inl (cI, 40, .inl (fun _ => 0))), (y, .inr (3, [.int 1, .int 17, .int 21, .ref yo, .ref yp, .ref yt, .ref yb, .ref ye, .int 0, .int 0])), (yo, .inl (cI, 40, .inl (fun _ => 0))), (yp, .inl (cI, 12, .inl (fun _ => 0))), (yt, .inl (cI, 40, .inl (fun _ => 0))), (yb, .inl (cI, 40, .inl (fun _ => 0))), (ye, .inl (cI, 40, .inl (fun _ => 0))), (z, .inr (8, [.ref zb, .ref ze, .int 0, .int 0])), (zb, .inr (1, [.ref zr, .int 0])), (zr, .inl (cB, 400, .inl (fun _ => 0))), (ze, .inl (cI, 4, .inl (fun _ => 0))), (i, .inr (1, [.ref ir, .int 0])), (ir, .inl (cB, 60, .inl (fun _ => 0))), (ct, .inl (cI, 40, .inl (fun _ => 0))), (rd, .inr (7, [.ref im, .ref rp, .ref rr, .int 0, .int 0, .int 0])), (rp, .inr (6, [.ref im, .null, .int 0, .int 0, .int 0, .int 0])), (rr, .inl (cF, 99, .inr (.inr (.inr (.inr (fun _ => none))))))]) (va_A [(h0, .inr (0, [.null, .null, .null, .null, .null]))] sz)) 33 1467 (va_A [(h0, .inr (0, [.null, .null, .null, .null, .null]))] sz) := by
  refine Met.ofW (cc := b_DiscMaker_init) (maxL := 1) (ret := none) (by decide) rfl ?_
  intro p e s m args below meth c s₁ B hml hv
  obtain ⟨rfl, hsz, hP, hK, hN, hD0⟩ := hv
  have hx := B.exec
  have hb := B.bytes
  have hr := B.returns
  have hts := atoms_spec (ws := w_DiscMaker_init) B.pre
  have ht9 := fun (w : Cond) (h : w ∈ lw_g) => hts w (List.mem_cons_of_mem _ h)
  have hown : s.vm.findClass "DiscMaker" = some m.cls := findClass_of_methodNamed B.named
  have hlocks := B.notSynchronized
  have hin : meth.name = "<init>" := (name_of_methodNamed B.named B.method).1
  subst hsz
  have hD := hD0.self (sz := s.heap.size)
  generalize hAe : va_A [(h0, .inr (0, [.null, .null, .null, .null, .null]))] s.heap.size = A at hD ⊢
  have hA : ∀ q : Nat, s.heap.size ≤ q → A q := fun q h => by rw [← hAe]; exact Or.inr h
  have hS : va_S A s.heap s.heap [] := va_S.rf
  have hP : va_P D CL [(h0, .inr (0, [.null, .null, .null, .null, .null]))] s.heap := hP
  have hl := lv_entry [.ref h0] (n := 1) (Nat.le_of_ble_eq_true rfl)
  rw [lg_entry_eq]
  generalize (lg_sl [.ref h0] ++ List.replicate (1 - (lg_sl [.ref h0]).length) Slot.unset).toArray = ls at hl ⊢
  have hl : lv_has ls 1 [(0, .ref h0)] := hl
  refine lv_aload_n hx hb d_DiscMaker_init_0 rfl (lv_at hl 0 rfl) ?_
  refine W.objInit hx hb hown (ht9 _ k148) (ht9 _ k149) (ht9 _ kObj) rfl (by rw [hml]; exact hl.1) rfl d_DiscMaker_init_1 (Nat.le_of_ble_eq_true rfl) (Nat.le_of_ble_eq_true rfl) ?_
  refine W.eq (g2 := F0 m 4 ls []) rfl ?_
  refine lv_aload_n hx hb d_DiscMaker_init_4 rfl (lv_at hl 0 rfl) ?_
  have hc_5 : 1 ≤ 33 := by decide
  have hs_5 : 2 ≤ 1467 := by decide
  refine va_new (ci := 9) (fs := [.null, .int 0]) (C := "DiscMaker$Text") (T := F_Text) (N := 2) hx hb ht9 in_Text t_Text t_Text_ok hown (ht9 _ k151) (ht9 _ k152) (ht9 _ k116) hK hP hD hS hA rfl (by decide) hc_5 hs_5 d_DiscMaker_init_5 (fun tx H hP hD hS => ?_)
  have hP : va_P D CL [(h0, .inr (0, [.null, .null, .null, .null, .null])), (tx, .inr (9, [.null, .int 0]))] H := hP
  have hD : va_D A [(h0, .inr (0, [.null, .null, .null, .null, .null])), (tx, .inr (9, [.null, .int 0]))] := hD
  refine W.widen (k := 1) (n := 2) (by decide) (by decide) ?_
  refine lv_dup hx hb d_DiscMaker_init_8 rfl ?_
  have hPc := hP.sub (ws' := [(tx, .inr (9, [.null, .int 0]))]) [1] rfl
  have hDc := hD.sub (ws' := [(tx, .inr (9, [.null, .int 0]))]) [1] (by decide) rfl
  have hFc := va_free (wc := [(tx, .inr (9, [.null, .int 0]))]) hD hS hA [1] rfl
  have hkc : 2 ≤ 33 := by decide
  have hks : 402 ≤ 1467 := by decide
  refine va_callv (va_runIN (As := []) (rest := [.ref tx, .ref h0]) ⟨hx, hb, hml, hown, hts⟩ (c_Text_init l D cB cI cJ cZ cN cF H.size tx) ⟨va_cnB 0 hts (lg_good kc_Text_init) rfl rfl rfl (hN _ k153) (ht9 _ k116) (by decide +kernel) ⟨Nat.le_of_ble_eq_true rfl, Nat.le_of_ble_eq_true rfl⟩, rfl, ht9 _ k154⟩ ⟨fun a U g mk q => by obtain ⟨q0, q1, qP, qK, qN, qD⟩ := q; exact ⟨q0, q1, qP, va_K.moved (u := U) (U := U.calling g mk a) (Vm.Alike.refl U.vm) qK, qN.calling, qD⟩, fun U hU hW => ⟨rfl, by rw [hU], by rw [hU]; exact hPc, va_K.moved hW.alike hK, NN.warm hW hN, hDc.weaken (fun _ _ _ _ => trivial)⟩⟩ rfl rfl hl.1 rfl (lv_room (Nat.le_of_ble_eq_true rfl)) d_DiscMaker_init_9 ⟨hkc, hks⟩) hS (fun q _ h => hFc q h) hFc (fun u t H1 locs ht hvm hp_9 hB hz1 hk1 hS => ?_)
  obtain ⟨tq, rfl⟩ : ∃ z, z = u := ⟨_, rfl⟩
  obtain ⟨hP1, hD1⟩ := hB
  rw [ht] at hP1
  obtain ⟨hP, hD⟩ := va_join (wr := [(h0, .inr (0, [.null, .null, .null, .null, .null]))]) (w1 := [(tx, .inr (9, [.ref tq, .int 0])), (tq, .inl (cB, 400, .inl (fun _ => 0)))]) hP hD [1] [0] rfl rfl (by decide) (by decide) hk1 hFc hP1 hD1
  clear hPc hDc hFc hP1 hD1 hk1 hz1
  generalize H1 = H at hP hS ⊢
  have hP : va_P D CL [(h0, .inr (0, [.null, .null, .null, .null, .null])), (tx, .inr (9, [.ref tq, .int 0])), (tq, .inl (cB, 400, .inl (fun _ => 0)))] H := hP
  have hD : va_D A [(h0, .inr (0, [.null, .null, .null, .null, .null])), (tx, .inr (9, [.ref tq, .int 0])), (tq, .inl (cB, 400, .inl (fun _ => 0)))] := hD
  refine W.widen (k := 2) (n := 402) (by decide) (by decide) ?_
  refine va_putF (D := D) (ci := 0) (v := .ref tx) (ty := .object "DiscMaker$Text") (C := "DiscMaker") (T := F_DiscMaker) (N := 5) hx hb ht9 in_DiscMaker t_DiscMaker t_DiscMaker_ok n_DiscMaker hown hK hP hD hS 0 rfl rfl 0 (by decide) (ht9 _ k431) (fun _ h9 => h9) rfl hin rfl (by decide +kernel) rfl rfl (Nat.le_of_ble_eq_true rfl) d_DiscMaker_init_12 (fun H locs hP hD hS => ?_)
  have hP : va_P D CL [(h0, .inr (0, [.ref tx, .null, .null, .null, .null])), (tx, .inr (9, [.ref tq, .int 0])), (tq, .inl (cB, 400, .inl (fun _ => 0)))] H := hP
  have hD : va_D A [(h0, .inr (0, [.ref tx, .null, .null, .null, .null])), (tx, .inr (9, [.ref tq, .int 0])), (tq, .inl (cB, 400, .inl (fun _ => 0)))] := hD
  refine lv_aload_n hx hb d_DiscMaker_init_15 rfl (lv_at hl 0 rfl) ?_
  have hc_16 : 3 ≤ 33 := by decide
  have hs_16 : 405 ≤ 1467 := by decide
  refine va_new (ci := 10) (fs := [.null, .int 0, .int 0]) (C := "DiscMaker$Tree") (T := F_Tree) (N := 3) hx hb ht9 in_Tree t_Tree t_Tree_ok hown (ht9 _ k165) (ht9 _ k166) (ht9 _ k117) hK hP hD hS hA rfl (by decide) hc_16 hs_16 d_DiscMaker_init_16 (fun tr H hP hD hS => ?_)
  have hP : va_P D CL [(h0, .inr (0, [.ref tx, .null, .null, .null, .null])), (tx, .inr (9, [.ref tq, .int 0])), (tq, .inl (cB, 400, .inl (fun _ => 0))), (tr, .inr (10, [.null, .int 0, .int 0]))] H := hP
  have hD : va_D A [(h0, .inr (0, [.ref tx, .null, .null, .null, .null])), (tx, .inr (9, [.ref tq, .int 0])), (tq, .inl (cB, 400, .inl (fun _ => 0))), (tr, .inr (10, [.null, .int 0, .int 0]))] := hD
  refine W.widen (k := 3) (n := 405) (by decide) (by decide) ?_
  refine lv_dup hx hb d_DiscMaker_init_19 rfl ?_
  have hPc := hP.sub (ws' := [(tr, .inr (10, [.null, .int 0, .int 0]))]) [3] rfl
  have hDc := hD.sub (ws' := [(tr, .inr (10, [.null, .int 0, .int 0]))]) [3] (by decide) rfl
  have hFc := va_free (wc := [(tr, .inr (10, [.null, .int 0, .int 0]))]) hD hS hA [3] rfl
  have hkc : 8 ≤ 33 := by decide
  have hks : 468 ≤ 1467 := by decide
  refine va_callv (va_runI (As := []) (rest := [.ref tr, .ref h0]) ⟨hx, hb, hml, hown, hts⟩ (c_Tree_init l D cB cI cJ cZ cN cF H.size tr) (cwI 0 hts (lg_good kc_Tree_init) rfl rfl rfl (ht9 _ k117) (ht9 _ k167) (ht9 _ k168) rfl (by decide +kernel) ⟨Nat.le_of_ble_eq_true rfl, Nat.le_of_ble_eq_true rfl⟩) ⟨fun a U g mk q => by obtain ⟨q0, q1, qP, qK, qN, qD⟩ := q; exact ⟨q0, q1, qP, va_K.moved (u := U) (U := U.calling g mk a) (Vm.Alike.refl U.vm) qK, qN.calling, qD⟩, fun U hU hW => ⟨rfl, by rw [hU], by rw [hU]; exact hPc, va_K.moved hW.alike hK, NN.warm hW hN, hDc.weaken (fun _ _ _ _ => trivial)⟩⟩ rfl rfl hl.1 rfl (lv_room (Nat.le_of_ble_eq_true rfl)) d_DiscMaker_init_20 ⟨hkc, hks⟩) hS (fun q _ h => hFc q h) hFc (fun u t H1 locs ht hvm hp_20 hB hz1 hk1 hS => ?_)
  obtain ⟨qa, qn, qm, qt, qk⟩ := u
  obtain ⟨hP1, hD1⟩ := hB
  rw [ht] at hP1
  obtain ⟨hP, hD⟩ := va_join (wr := [(h0, .inr (0, [.ref tx, .null, .null, .null, .null])), (tx, .inr (9, [.ref tq, .int 0])), (tq, .inl (cB, 400, .inl (fun _ => 0)))]) (w1 := [(tr, .inr (10, [.ref qa, .int 1, .int 1])), (qa, .inl (cN, 40, .inr (.inr (.inr (.inr (va_up (fun _ => none) 0 (some qn))))))), (qn, .inr (5, [.int 0, .ref qm, .ref qk, .ref qt, .int 0, .int 0, .int 0, .int 16877, .int 0, .int 0, .int 0, .int 0])), (qm, .inl (cB, 0, .inl (fun _ => 0))), (qt, .inl (cB, 0, .inl (fun _ => 0))), (qk, .inl (cB, 11, .inl (fun _ => 0)))]) hP hD [3] [0, 1, 2] rfl rfl (by decide) (by decide) hk1 hFc hP1 hD1
  clear hPc hDc hFc hP1 hD1 hk1 hz1
  generalize H1 = H at hP hS ⊢
  have hP : va_P D CL [(h0, .inr (0, [.ref tx, .null, .null, .null, .null])), (tx, .inr (9, [.ref tq, .int 0])), (tq, .inl (cB, 400, .inl (fun _ => 0))), (tr, .inr (10, [.ref qa, .int 1, .int 1])), (qa, .inl (cN, 40, .inr (.inr (.inr (.inr (va_up (fun _ => none) 0 (some qn))))))), (qn, .inr (5, [.int 0, .ref qm, .ref qk, .ref qt, .int 0, .int 0, .int 0, .int 16877, .int 0, .int 0, .int 0, .int 0])), (qm, .inl (cB, 0, .inl (fun _ => 0))), (qt, .inl (cB, 0, .inl (fun _ => 0))), (qk, .inl (cB, 11, .inl (fun _ => 0)))] H := hP
  have hD : va_D A [(h0, .inr (0, [.ref tx, .null, .null, .null, .null])), (tx, .inr (9, [.ref tq, .int 0])), (tq, .inl (cB, 400, .inl (fun _ => 0))), (tr, .inr (10, [.ref qa, .int 1, .int 1])), (qa, .inl (cN, 40, .inr (.inr (.inr (.inr (va_up (fun _ => none) 0 (some qn))))))), (qn, .inr (5, [.int 0, .ref qm, .ref qk, .ref qt, .int 0, .int 0, .int 0, .int 16877, .int 0, .int 0, .int 0, .int 0])), (qm, .inl (cB, 0, .inl (fun _ => 0))), (qt, .inl (cB, 0, .inl (fun _ => 0))), (qk, .inl (cB, 11, .inl (fun _ => 0)))] := hD
  refine W.widen (k := 8) (n := 468) (by decide) (by decide) ?_
  refine va_putF (D := D) (ci := 0) (v := .ref tr) (ty := .object "DiscMaker$Tree") (C := "DiscMaker") (T := F_DiscMaker) (N := 5) hx hb ht9 in_DiscMaker t_DiscMaker t_DiscMaker_ok n_DiscMaker hown hK hP hD hS 0 rfl rfl 1 (by decide) (ht9 _ k432) (fun _ h9 => h9) rfl hin rfl (by decide +kernel) rfl rfl (Nat.le_of_ble_eq_true rfl) d_DiscMaker_init_23 (fun H locs hP hD hS => ?_)
  have hP : va_P D CL [(h0, .inr (0, [.ref tx, .ref tr, .null, .null, .null])), (tx, .inr (9, [.ref tq, .int 0])), (tq, .inl (cB, 400, .inl (fun _ => 0))), (tr, .inr (10, [.ref qa, .int 1, .int 1])), (qa, .inl (cN, 40, .inr (.inr (.inr (.inr (va_up (fun _ => none) 0 (some qn))))))), (qn, .inr (5, [.int 0, .ref qm, .ref qk, .ref qt, .int 0, .int 0, .int 0, .int 16877, .int 0, .int 0, .int 0, .int 0])), (qm, .inl (cB, 0, .inl (fun _ => 0))), (qt, .inl (cB, 0, .inl (fun _ => 0))), (qk, .inl (cB, 11, .inl (fun _ => 0)))] H := hP
  have hD : va_D A [(h0, .inr (0, [.ref tx, .ref tr, .null, .null, .null])), (tx, .inr (9, [.ref tq, .int 0])), (tq, .inl (cB, 400, .inl (fun _ => 0))), (tr, .inr (10, [.ref qa, .int 1, .int 1])), (qa, .inl (cN, 40, .inr (.inr (.inr (.inr (va_up (fun _ => none) 0 (some qn))))))), (qn, .inr (5, [.int 0, .ref qm, .ref qk, .ref qt, .int 0, .int 0, .int 0, .int 16877, .int 0, .int 0, .int 0, .int 0])), (qm, .inl (cB, 0, .inl (fun _ => 0))), (qt, .inl (cB, 0, .inl (fun _ => 0))), (qk, .inl (cB, 11, .inl (fun _ => 0)))] := hD
  refine lv_aload_n hx hb d_DiscMaker_init_26 rfl (lv_at hl 0 rfl) ?_
  have hc_27 : 9 ≤ 33 := by decide
  have hs_27 : 470 ≤ 1467 := by decide
  refine va_new (ci := 1) (fs := [.null, .int 0]) (C := "DiscMaker$Bytes") (T := F_Bytes) (N := 2) hx hb ht9 in_Bytes t_Bytes t_Bytes_ok hown (ht9 _ k250) (ht9 _ k251) (ht9 _ k119) hK hP hD hS hA rfl (by decide) hc_27 hs_27 d_DiscMaker_init_27 (fun im H hP hD hS => ?_)
  have hP : va_P D CL [(h0, .inr (0, [.ref tx, .ref tr, .null, .null, .null])), (tx, .inr (9, [.ref tq, .int 0])), (tq, .inl (cB, 400, .inl (fun _ => 0))), (tr, .inr (10, [.ref qa, .int 1, .int 1])), (qa, .inl (cN, 40, .inr (.inr (.inr (.inr (va_up (fun _ => none) 0 (some qn))))))), (qn, .inr (5, [.int 0, .ref qm, .ref qk, .ref qt, .int 0, .int 0, .int 0, .int 16877, .int 0, .int 0, .int 0, .int 0])), (qm, .inl (cB, 0, .inl (fun _ => 0))), (qt, .inl (cB, 0, .inl (fun _ => 0))), (qk, .inl (cB, 11, .inl (fun _ => 0))), (im, .inr (1, [.null, .int 0]))] H := hP
  have hD : va_D A [(h0, .inr (0, [.ref tx, .ref tr, .null, .null, .null])), (tx, .inr (9, [.ref tq, .int 0])), (tq, .inl (cB, 400, .inl (fun _ => 0))), (tr, .inr (10, [.ref qa, .int 1, .int 1])), (qa, .inl (cN, 40, .inr (.inr (.inr (.inr (va_up (fun _ => none) 0 (some qn))))))), (qn, .inr (5, [.int 0, .ref qm, .ref qk, .ref qt, .int 0, .int 0, .int 0, .int 16877, .int 0, .int 0, .int 0, .int 0])), (qm, .inl (cB, 0, .inl (fun _ => 0))), (qt, .inl (cB, 0, .inl (fun _ => 0))), (qk, .inl (cB, 11, .inl (fun _ => 0))), (im, .inr (1, [.null, .int 0]))] := hD
  refine W.widen (k := 9) (n := 470) (by decide) (by decide) ?_
  refine lv_dup hx hb d_DiscMaker_init_30 rfl ?_
  refine lv_iconst (v := 0) hx hb d_DiscMaker_init_31 (by decide) ?_
  have hPc := hP.sub (ws' := [(im, .inr (1, [.null, .int 0]))]) [9] rfl
  have hDc := hD.sub (ws' := [(im, .inr (1, [.null, .int 0]))]) [9] (by decide) rfl
  have hFc := va_free (wc := [(im, .inr (1, [.null, .int 0]))]) hD hS hA [9] rfl
  have hkc : 10 ≤ 33 := by decide
  have hks : 470 ≤ 1467 := by decide
  refine va_callv (va_runI (As := [.int 0]) (rest := [.ref im, .ref h0]) ⟨hx, hb, hml, hown, hts⟩ (c_Bytes_init_0 l D cB cI cJ cZ cN cF H.size im) (cwI 1 hts (lg_good kc_Bytes_init) rfl rfl rfl (ht9 _ k119) (ht9 _ k252) (ht9 _ k253) rfl (by decide +kernel) ⟨Nat.le_of_ble_eq_true rfl, Nat.le_of_ble_eq_true rfl⟩) ⟨fun a U g mk q => by obtain ⟨q0, q1, qP, qK, qN, qD⟩ := q; exact ⟨q0, q1, qP, va_K.moved (u := U) (U := U.calling g mk a) (Vm.Alike.refl U.vm) qK, qN.calling, qD⟩, fun U hU hW => ⟨rfl, by rw [hU], by rw [hU]; exact hPc, va_K.moved hW.alike hK, NN.warm hW hN, hDc.weaken (fun _ _ _ _ => trivial)⟩⟩ rfl rfl hl.1 rfl (lv_room (Nat.le_of_ble_eq_true rfl)) d_DiscMaker_init_32 ⟨hkc, hks⟩) hS (fun q _ h => hFc q h) hFc (fun u t H1 locs ht hvm hp_32 hB hz1 hk1 hS => ?_)
  obtain ⟨iq, rfl⟩ : ∃ z, z = u := ⟨_, rfl⟩
  obtain ⟨hP1, hD1⟩ := hB
  rw [ht] at hP1
  obtain ⟨hP, hD⟩ := va_join (wr := [(h0, .inr (0, [.ref tx, .ref tr, .null, .null, .null])), (tx, .inr (9, [.ref tq, .int 0])), (tq, .inl (cB, 400, .inl (fun _ => 0))), (tr, .inr (10, [.ref qa, .int 1, .int 1])), (qa, .inl (cN, 40, .inr (.inr (.inr (.inr (va_up (fun _ => none) 0 (some qn))))))), (qn, .inr (5, [.int 0, .ref qm, .ref qk, .ref qt, .int 0, .int 0, .int 0, .int 16877, .int 0, .int 0, .int 0, .int 0])), (qm, .inl (cB, 0, .inl (fun _ => 0))), (qt, .inl (cB, 0, .inl (fun _ => 0))), (qk, .inl (cB, 11, .inl (fun _ => 0)))]) (w1 := [(im, .inr (1, [.ref iq, .int 0])), (iq, .inl (cB, 0, .inl (fun _ => 0)))]) hP hD [9] [0, 1, 2, 3, 4, 5, 6, 7, 8] rfl rfl (by decide) (by decide) hk1 hFc hP1 hD1
  clear hPc hDc hFc hP1 hD1 hk1 hz1
  generalize H1 = H at hP hS ⊢
  have hP : va_P D CL [(h0, .inr (0, [.ref tx, .ref tr, .null, .null, .null])), (tx, .inr (9, [.ref tq, .int 0])), (tq, .inl (cB, 400, .inl (fun _ => 0))), (tr, .inr (10, [.ref qa, .int 1, .int 1])), (qa, .inl (cN, 40, .inr (.inr (.inr (.inr (va_up (fun _ => none) 0 (some qn))))))), (qn, .inr (5, [.int 0, .ref qm, .ref qk, .ref qt, .int 0, .int 0, .int 0, .int 16877, .int 0, .int 0, .int 0, .int 0])), (qm, .inl (cB, 0, .inl (fun _ => 0))), (qt, .inl (cB, 0, .inl (fun _ => 0))), (qk, .inl (cB, 11, .inl (fun _ => 0))), (im, .inr (1, [.ref iq, .int 0])), (iq, .inl (cB, 0, .inl (fun _ => 0)))] H := hP
  have hD : va_D A [(h0, .inr (0, [.ref tx, .ref tr, .null, .null, .null])), (tx, .inr (9, [.ref tq, .int 0])), (tq, .inl (cB, 400, .inl (fun _ => 0))), (tr, .inr (10, [.ref qa, .int 1, .int 1])), (qa, .inl (cN, 40, .inr (.inr (.inr (.inr (va_up (fun _ => none) 0 (some qn))))))), (qn, .inr (5, [.int 0, .ref qm, .ref qk, .ref qt, .int 0, .int 0, .int 0, .int 16877, .int 0, .int 0, .int 0, .int 0])), (qm, .inl (cB, 0, .inl (fun _ => 0))), (qt, .inl (cB, 0, .inl (fun _ => 0))), (qk, .inl (cB, 11, .inl (fun _ => 0))), (im, .inr (1, [.ref iq, .int 0])), (iq, .inl (cB, 0, .inl (fun _ => 0)))] := hD
  refine W.widen (k := 10) (n := 470) (by decide) (by decide) ?_
  refine va_putF (D := D) (ci := 0) (v := .ref im) (ty := .object "DiscMaker$Bytes") (C := "DiscMaker") (T := F_DiscMaker) (N := 5) hx hb ht9 in_DiscMaker t_DiscMaker t_DiscMaker_ok n_DiscMaker hown hK hP hD hS 0 rfl rfl 2 (by decide) (ht9 _ k433) (fun _ h9 => h9) rfl hin rfl (by decide +kernel) rfl rfl (Nat.le_of_ble_eq_true rfl) d_DiscMaker_init_35 (fun H locs hP hD hS => ?_)
  have hP : va_P D CL [(h0, .inr (0, [.ref tx, .ref tr, .ref im, .null, .null])), (tx, .inr (9, [.ref tq, .int 0])), (tq, .inl (cB, 400, .inl (fun _ => 0))), (tr, .inr (10, [.ref qa, .int 1, .int 1])), (qa, .inl (cN, 40, .inr (.inr (.inr (.inr (va_up (fun _ => none) 0 (some qn))))))), (qn, .inr (5, [.int 0, .ref qm, .ref qk, .ref qt, .int 0, .int 0, .int 0, .int 16877, .int 0, .int 0, .int 0, .int 0])), (qm, .inl (cB, 0, .inl (fun _ => 0))), (qt, .inl (cB, 0, .inl (fun _ => 0))), (qk, .inl (cB, 11, .inl (fun _ => 0))), (im, .inr (1, [.ref iq, .int 0])), (iq, .inl (cB, 0, .inl (fun _ => 0)))] H := hP
  have hD : va_D A [(h0, .inr (0, [.ref tx, .ref tr, .ref im, .null, .null])), (tx, .inr (9, [.ref tq, .int 0])), (tq, .inl (cB, 400, .inl (fun _ => 0))), (tr, .inr (10, [.ref qa, .int 1, .int 1])), (qa, .inl (cN, 40, .inr (.inr (.inr (.inr (va_up (fun _ => none) 0 (some qn))))))), (qn, .inr (5, [.int 0, .ref qm, .ref qk, .ref qt, .int 0, .int 0, .int 0, .int 16877, .int 0, .int 0, .int 0, .int 0])), (qm, .inl (cB, 0, .inl (fun _ => 0))), (qt, .inl (cB, 0, .inl (fun _ => 0))), (qk, .inl (cB, 11, .inl (fun _ => 0))), (im, .inr (1, [.ref iq, .int 0])), (iq, .inl (cB, 0, .inl (fun _ => 0)))] := hD
  refine lv_aload_n hx hb d_DiscMaker_init_38 rfl (lv_at hl 0 rfl) ?_
  have hc_39 : 11 ≤ 33 := by decide
  have hs_39 : 480 ≤ 1467 := by decide
  refine va_new (ci := 4) (fs := [.null, .null, .null, .null, .null, .null, .null, .int 0, .int 0, .int 0]) (C := "DiscMaker$Maker") (T := F_Maker) (N := 10) hx hb ht9 in_Maker t_Maker t_Maker_ok hown (ht9 _ k268) (ht9 _ k269) (ht9 _ k120) hK hP hD hS hA rfl (by decide) hc_39 hs_39 d_DiscMaker_init_39 (fun mkr H hP hD hS => ?_)
  have hP : va_P D CL [(h0, .inr (0, [.ref tx, .ref tr, .ref im, .null, .null])), (tx, .inr (9, [.ref tq, .int 0])), (tq, .inl (cB, 400, .inl (fun _ => 0))), (tr, .inr (10, [.ref qa, .int 1, .int 1])), (qa, .inl (cN, 40, .inr (.inr (.inr (.inr (va_up (fun _ => none) 0 (some qn))))))), (qn, .inr (5, [.int 0, .ref qm, .ref qk, .ref qt, .int 0, .int 0, .int 0, .int 16877, .int 0, .int 0, .int 0, .int 0])), (qm, .inl (cB, 0, .inl (fun _ => 0))), (qt, .inl (cB, 0, .inl (fun _ => 0))), (qk, .inl (cB, 11, .inl (fun _ => 0))), (im, .inr (1, [.ref iq, .int 0])), (iq, .inl (cB, 0, .inl (fun _ => 0))), (mkr, .inr (4, [.null, .null, .null, .null, .null, .null, .null, .int 0, .int 0, .int 0]))] H := hP
  have hD : va_D A [(h0, .inr (0, [.ref tx, .ref tr, .ref im, .null, .null])), (tx, .inr (9, [.ref tq, .int 0])), (tq, .inl (cB, 400, .inl (fun _ => 0))), (tr, .inr (10, [.ref qa, .int 1, .int 1])), (qa, .inl (cN, 40, .inr (.inr (.inr (.inr (va_up (fun _ => none) 0 (some qn))))))), (qn, .inr (5, [.int 0, .ref qm, .ref qk, .ref qt, .int 0, .int 0, .int 0, .int 16877, .int 0, .int 0, .int 0, .int 0])), (qm, .inl (cB, 0, .inl (fun _ => 0))), (qt, .inl (cB, 0, .inl (fun _ => 0))), (qk, .inl (cB, 11, .inl (fun _ => 0))), (im, .inr (1, [.ref iq, .int 0])), (iq, .inl (cB, 0, .inl (fun _ => 0))), (mkr, .inr (4, [.null, .null, .null, .null, .null, .null, .null, .int 0, .int 0, .int 0]))] := hD
  refine W.widen (k := 11) (n := 480) (by decide) (by decide) ?_
  refine lv_dup hx hb d_DiscMaker_init_42 rfl ?_
  refine lv_aload_n hx hb d_DiscMaker_init_43 rfl (lv_at hl 0 rfl) ?_
  refine va_get (D := D) (ci := 0) (v := .ref tr) (C := "DiscMaker") (T := F_DiscMaker) (N := 5) hx hb ht9 in_DiscMaker hown hK hP 0 rfl rfl 1 (by decide) (ht9 _ k432) (fun _ h9 => h9) rfl d_DiscMaker_init_44 ?_
  refine lv_aload_n hx hb d_DiscMaker_init_47 rfl (lv_at hl 0 rfl) ?_
  refine va_get (D := D) (ci := 0) (v := .ref im) (C := "DiscMaker") (T := F_DiscMaker) (N := 5) hx hb ht9 in_DiscMaker hown hK hP 0 rfl rfl 2 (by decide) (ht9 _ k433) (fun _ h9 => h9) rfl d_DiscMaker_init_48 ?_
  have hPc := hP.sub (ws' := [(mkr, .inr (4, [.null, .null, .null, .null, .null, .null, .null, .int 0, .int 0, .int 0]))]) [11] rfl
  have hDc := hD.sub (ws' := [(mkr, .inr (4, [.null, .null, .null, .null, .null, .null, .null, .int 0, .int 0, .int 0]))]) [11] (by decide) rfl
  have hFc := va_free (wc := [(mkr, .inr (4, [.null, .null, .null, .null, .null, .null, .null, .int 0, .int 0, .int 0]))]) hD hS hA [11] rfl
  have hkc : 30 ≤ 33 := by decide
  have hks : 1356 ≤ 1467 := by decide
  refine va_callv (va_runI (As := [.ref tr, .ref im]) (rest := [.ref mkr, .ref h0]) ⟨hx, hb, hml, hown, hts⟩ (c_Maker_init l D cB cI cJ cZ cN cF H.size mkr tr im) (cwI 2 hts (lg_good kc_Maker_init) rfl rfl rfl (ht9 _ k120) (ht9 _ k270) (ht9 _ k271) rfl (by decide +kernel) ⟨Nat.le_of_ble_eq_true rfl, Nat.le_of_ble_eq_true rfl⟩) ⟨fun a U g mk q => by obtain ⟨q0, q1, qP, qK, qN, qD⟩ := q; exact ⟨q0, q1, qP, va_K.moved (u := U) (U := U.calling g mk a) (Vm.Alike.refl U.vm) qK, qN.calling, qD⟩, fun U hU hW => ⟨rfl, by rw [hU], by rw [hU]; exact hPc, va_K.moved hW.alike hK, NN.warm hW hN, hDc.weaken (fun _ _ _ _ => trivial)⟩⟩ rfl rfl hl.1 rfl (lv_room (Nat.le_of_ble_eq_true rfl)) d_DiscMaker_init_51 ⟨hkc, hks⟩) hS (fun q _ h => hFc q h) hFc (fun u t H1 locs ht hvm hp_51 hB hz1 hk1 hS => ?_)
  obtain ⟨x, xo, xp, xt, xb, xe, y, yo, yp, yt, yb, ye, z, zb, zr, ze, i, ir, ct⟩ := u
  obtain ⟨hP1, hD1⟩ := hB
  rw [ht] at hP1
  obtain ⟨hP, hD⟩ := va_join (wr := [(h0, .inr (0, [.ref tx, .ref tr, .ref im, .null, .null])), (tx, .inr (9, [.ref tq, .int 0])), (tq, .inl (cB, 400, .inl (fun _ => 0))), (tr, .inr (10, [.ref qa, .int 1, .int 1])), (qa, .inl (cN, 40, .inr (.inr (.inr (.inr (va_up (fun _ => none) 0 (some qn))))))), (qn, .inr (5, [.int 0, .ref qm, .ref qk, .ref qt, .int 0, .int 0, .int 0, .int 16877, .int 0, .int 0, .int 0, .int 0])), (qm, .inl (cB, 0, .inl (fun _ => 0))), (qt, .inl (cB, 0, .inl (fun _ => 0))), (qk, .inl (cB, 11, .inl (fun _ => 0))), (im, .inr (1, [.ref iq, .int 0])), (iq, .inl (cB, 0, .inl (fun _ => 0)))]) (w1 := [(mkr, .inr (4, [.ref tr, .ref im, .ref x, .ref y, .ref z, .ref i, .ref ct, .int 0, .int 0, .int 0])), (x, .inr (3, [.int 0, .int 16, .int 19, .ref xo, .ref xp, .ref xt, .ref xb, .ref xe, .int 0, .int 0])), (xo, .inl (cI, 40, .inl (fun _ => 0))), (xp, .inl (cI, 12, .inl (fun _ => 0))), (xt, .inl (cI, 40, .inl (fun _ => 0))), (xb, .inl (cI, 40, .inl (fun _ => 0))), (xe, .inl (cI, 40, .inl (fun _ => 0))), (y, .inr (3, [.int 1, .int 17, .int 21, .ref yo, .ref yp, .ref yt, .ref yb, .ref ye, .int 0, .int 0])), (yo, .inl (cI, 40, .inl (fun _ => 0))), (yp, .inl (cI, 12, .inl (fun _ => 0))), (yt, .inl (cI, 40, .inl (fun _ => 0))), (yb, .inl (cI, 40, .inl (fun _ => 0))), (ye, .inl (cI, 40, .inl (fun _ => 0))), (z, .inr (8, [.ref zb, .ref ze, .int 0, .int 0])), (zb, .inr (1, [.ref zr, .int 0])), (zr, .inl (cB, 400, .inl (fun _ => 0))), (ze, .inl (cI, 4, .inl (fun _ => 0))), (i, .inr (1, [.ref ir, .int 0])), (ir, .inl (cB, 60, .inl (fun _ => 0))), (ct, .inl (cI, 40, .inl (fun _ => 0)))]) hP hD [11] [0, 1, 2, 3, 4, 5, 6, 7, 8, 9, 10] rfl rfl (by decide) (by decide) hk1 hFc hP1 hD1
  clear hPc hDc hFc hP1 hD1 hk1 hz1
  generalize H1 = H at hP hS ⊢
  have hP : va_P D CL [(h0, .inr (0, [.ref tx, .ref tr, .ref im, .null, .null])), (tx, .inr (9, [.ref tq, .int 0])), (tq, .inl (cB, 400, .inl (fun _ => 0))), (tr, .inr (10, [.ref qa, .int 1, .int 1])), (qa, .inl (cN, 40, .inr (.inr (.inr (.inr (va_up (fun _ => none) 0 (some qn))))))), (qn, .inr (5, [.int 0, .ref qm, .ref qk, .ref qt, .int 0, .int 0, .int 0, .int 16877, .int 0, .int 0, .int 0, .int 0])), (qm, .inl (cB, 0, .inl (fun _ => 0))), (qt, .inl (cB, 0, .inl (fun _ => 0))), (qk, .inl (cB, 11, .inl (fun _ => 0))), (im, .inr (1, [.ref iq, .int 0])), (iq, .inl (cB, 0, .inl (fun _ => 0))), (mkr, .inr (4, [.ref tr, .ref im, .ref x, .ref y, .ref z, .ref i, .ref ct, .int 0, .int 0, .int 0])), (x, .inr (3, [.int 0, .int 16, .int 19, .ref xo, .ref xp, .ref xt, .ref xb, .ref xe, .int 0, .int 0])), (xo, .inl (cI, 40, .inl (fun _ => 0))), (xp, .inl (cI, 12, .inl (fun _ => 0))), (xt, .inl (cI, 40, .inl (fun _ => 0))), (xb, .inl (cI, 40, .inl (fun _ => 0))), (xe, .inl (cI, 40, .inl (fun _ => 0))), (y, .inr (3, [.int 1, .int 17, .int 21, .ref yo, .ref yp, .ref yt, .ref yb, .ref ye, .int 0, .int 0])), (yo, .inl (cI, 40, .inl (fun _ => 0))), (yp, .inl (cI, 12, .inl (fun _ => 0))), (yt, .inl (cI, 40, .inl (fun _ => 0))), (yb, .inl (cI, 40, .inl (fun _ => 0))), (ye, .inl (cI, 40, .inl (fun _ => 0))), (z, .inr (8, [.ref zb, .ref ze, .int 0, .int 0])), (zb, .inr (1, [.ref zr, .int 0])), (zr, .inl (cB, 400, .inl (fun _ => 0))), (ze, .inl (cI, 4, .inl (fun _ => 0))), (i, .inr (1, [.ref ir, .int 0])), (ir, .inl (cB, 60, .inl (fun _ => 0))), (ct, .inl (cI, 40, .inl (fun _ => 0)))] H := hP
  have hD : va_D A [(h0, .inr (0, [.ref tx, .ref tr, .ref im, .null, .null])), (tx, .inr (9, [.ref tq, .int 0])), (tq, .inl (cB, 400, .inl (fun _ => 0))), (tr, .inr (10, [.ref qa, .int 1, .int 1])), (qa, .inl (cN, 40, .inr (.inr (.inr (.inr (va_up (fun _ => none) 0 (some qn))))))), (qn, .inr (5, [.int 0, .ref qm, .ref qk, .ref qt, .int 0, .int 0, .int 0, .int 16877, .int 0, .int 0, .int 0, .int 0])), (qm, .inl (cB, 0, .inl (fun _ => 0))), (qt, .inl (cB, 0, .inl (fun _ => 0))), (qk, .inl (cB, 11, .inl (fun _ => 0))), (im, .inr (1, [.ref iq, .int 0])), (iq, .inl (cB, 0, .inl (fun _ => 0))), (mkr, .inr (4, [.ref tr, .ref im, .ref x, .ref y, .ref z, .ref i, .ref ct, .int 0, .int 0, .int 0])), (x, .inr (3, [.int 0, .int 16, .int 19, .ref xo, .ref xp, .ref xt, .ref xb, .ref xe, .int 0, .int 0])), (xo, .inl (cI, 40, .inl (fun _ => 0))), (xp, .inl (cI, 12, .inl (fun _ => 0))), (xt, .inl (cI, 40, .inl (fun _ => 0))), (xb, .inl (cI, 40, .inl (fun _ => 0))), (xe, .inl (cI, 40, .inl (fun _ => 0))), (y, .inr (3, [.int 1, .int 17, .int 21, .ref yo, .ref yp, .ref yt, .ref yb, .ref ye, .int 0, .int 0])), (yo, .inl (cI, 40, .inl (fun _ => 0))), (yp, .inl (cI, 12, .inl (fun _ => 0))), (yt, .inl (cI, 40, .inl (fun _ => 0))), (yb, .inl (cI, 40, .inl (fun _ => 0))), (ye, .inl (cI, 40, .inl (fun _ => 0))), (z, .inr (8, [.ref zb, .ref ze, .int 0, .int 0])), (zb, .inr (1, [.ref zr, .int 0])), (zr, .inl (cB, 400, .inl (fun _ => 0))), (ze, .inl (cI, 4, .inl (fun _ => 0))), (i, .inr (1, [.ref ir, .int 0])), (ir, .inl (cB, 60, .inl (fun _ => 0))), (ct, .inl (cI, 40, .inl (fun _ => 0)))] := hD
  refine W.widen (k := 30) (n := 1356) (by decide) (by decide) ?_
  refine va_putF (D := D) (ci := 0) (v := .ref mkr) (ty := .object "DiscMaker$Maker") (C := "DiscMaker") (T := F_DiscMaker) (N := 5) hx hb ht9 in_DiscMaker t_DiscMaker t_DiscMaker_ok n_DiscMaker hown hK hP hD hS 0 rfl rfl 3 (by decide) (ht9 _ k434) (fun _ h9 => h9) rfl hin rfl (by decide +kernel) rfl rfl (Nat.le_of_ble_eq_true rfl) d_DiscMaker_init_54 (fun H locs hP hD hS => ?_)
  have hP : va_P D CL [(h0, .inr (0, [.ref tx, .ref tr, .ref im, .ref mkr, .null])), (tx, .inr (9, [.ref tq, .int 0])), (tq, .inl (cB, 400, .inl (fun _ => 0))), (tr, .inr (10, [.ref qa, .int 1, .int 1])), (qa, .inl (cN, 40, .inr (.inr (.inr (.inr (va_up (fun _ => none) 0 (some qn))))))), (qn, .inr (5, [.int 0, .ref qm, .ref qk, .ref qt, .int 0, .int 0, .int 0, .int 16877, .int 0, .int 0, .int 0, .int 0])), (qm, .inl (cB, 0, .inl (fun _ => 0))), (qt, .inl (cB, 0, .inl (fun _ => 0))), (qk, .inl (cB, 11, .inl (fun _ => 0))), (im, .inr (1, [.ref iq, .int 0])), (iq, .inl (cB, 0, .inl (fun _ => 0))), (mkr, .inr (4, [.ref tr, .ref im, .ref x, .ref y, .ref z, .ref i, .ref ct, .int 0, .int 0, .int 0])), (x, .inr (3, [.int 0, .int 16, .int 19, .ref xo, .ref xp, .ref xt, .ref xb, .ref xe, .int 0, .int 0])), (xo, .inl (cI, 40, .inl (fun _ => 0))), (xp, .inl (cI, 12, .inl (fun _ => 0))), (xt, .inl (cI, 40, .inl (fun _ => 0))), (xb, .inl (cI, 40, .inl (fun _ => 0))), (xe, .inl (cI, 40, .inl (fun _ => 0))), (y, .inr (3, [.int 1, .int 17, .int 21, .ref yo, .ref yp, .ref yt, .ref yb, .ref ye, .int 0, .int 0])), (yo, .inl (cI, 40, .inl (fun _ => 0))), (yp, .inl (cI, 12, .inl (fun _ => 0))), (yt, .inl (cI, 40, .inl (fun _ => 0))), (yb, .inl (cI, 40, .inl (fun _ => 0))), (ye, .inl (cI, 40, .inl (fun _ => 0))), (z, .inr (8, [.ref zb, .ref ze, .int 0, .int 0])), (zb, .inr (1, [.ref zr, .int 0])), (zr, .inl (cB, 400, .inl (fun _ => 0))), (ze, .inl (cI, 4, .inl (fun _ => 0))), (i, .inr (1, [.ref ir, .int 0])), (ir, .inl (cB, 60, .inl (fun _ => 0))), (ct, .inl (cI, 40, .inl (fun _ => 0)))] H := hP
  have hD : va_D A [(h0, .inr (0, [.ref tx, .ref tr, .ref im, .ref mkr, .null])), (tx, .inr (9, [.ref tq, .int 0])), (tq, .inl (cB, 400, .inl (fun _ => 0))), (tr, .inr (10, [.ref qa, .int 1, .int 1])), (qa, .inl (cN, 40, .inr (.inr (.inr (.inr (va_up (fun _ => none) 0 (some qn))))))), (qn, .inr (5, [.int 0, .ref qm, .ref qk, .ref qt, .int 0, .int 0, .int 0, .int 16877, .int 0, .int 0, .int 0, .int 0])), (qm, .inl (cB, 0, .inl (fun _ => 0))), (qt, .inl (cB, 0, .inl (fun _ => 0))), (qk, .inl (cB, 11, .inl (fun _ => 0))), (im, .inr (1, [.ref iq, .int 0])), (iq, .inl (cB, 0, .inl (fun _ => 0))), (mkr, .inr (4, [.ref tr, .ref im, .ref x, .ref y, .ref z, .ref i, .ref ct, .int 0, .int 0, .int 0])), (x, .inr (3, [.int 0, .int 16, .int 19, .ref xo, .ref xp, .ref xt, .ref xb, .ref xe, .int 0, .int 0])), (xo, .inl (cI, 40, .inl (fun _ => 0))), (xp, .inl (cI, 12, .inl (fun _ => 0))), (xt, .inl (cI, 40, .inl (fun _ => 0))), (xb, .inl (cI, 40, .inl (fun _ => 0))), (xe, .inl (cI, 40, .inl (fun _ => 0))), (y, .inr (3, [.int 1, .int 17, .int 21, .ref yo, .ref yp, .ref yt, .ref yb, .ref ye, .int 0, .int 0])), (yo, .inl (cI, 40, .inl (fun _ => 0))), (yp, .inl (cI, 12, .inl (fun _ => 0))), (yt, .inl (cI, 40, .inl (fun _ => 0))), (yb, .inl (cI, 40, .inl (fun _ => 0))), (ye, .inl (cI, 40, .inl (fun _ => 0))), (z, .inr (8, [.ref zb, .ref ze, .int 0, .int 0])), (zb, .inr (1, [.ref zr, .int 0])), (zr, .inl (cB, 400, .inl (fun _ => 0))), (ze, .inl (cI, 4, .inl (fun _ => 0))), (i, .inr (1, [.ref ir, .int 0])), (ir, .inl (cB, 60, .inl (fun _ => 0))), (ct, .inl (cI, 40, .inl (fun _ => 0)))] := hD
  refine lv_aload_n hx hb d_DiscMaker_init_57 rfl (lv_at hl 0 rfl) ?_
  have hc_58 : 31 ≤ 33 := by decide
  have hs_58 : 1362 ≤ 1467 := by decide
  refine va_new (ci := 7) (fs := [.null, .null, .null, .int 0, .int 0, .int 0]) (C := "DiscMaker$Reader") (T := F_Reader) (N := 6) hx hb ht9 in_Reader t_Reader t_Reader_ok hown (ht9 _ k378) (ht9 _ k379) (ht9 _ k123) hK hP hD hS hA rfl (by decide) hc_58 hs_58 d_DiscMaker_init_58 (fun rd H hP hD hS => ?_)
  have hP : va_P D CL [(h0, .inr (0, [.ref tx, .ref tr, .ref im, .ref mkr, .null])), (tx, .inr (9, [.ref tq, .int 0])), (tq, .inl (cB, 400, .inl (fun _ => 0))), (tr, .inr (10, [.ref qa, .int 1, .int 1])), (qa, .inl (cN, 40, .inr (.inr (.inr (.inr (va_up (fun _ => none) 0 (some qn))))))), (qn, .inr (5, [.int 0, .ref qm, .ref qk, .ref qt, .int 0, .int 0, .int 0, .int 16877, .int 0, .int 0, .int 0, .int 0])), (qm, .inl (cB, 0, .inl (fun _ => 0))), (qt, .inl (cB, 0, .inl (fun _ => 0))), (qk, .inl (cB, 11, .inl (fun _ => 0))), (im, .inr (1, [.ref iq, .int 0])), (iq, .inl (cB, 0, .inl (fun _ => 0))), (mkr, .inr (4, [.ref tr, .ref im, .ref x, .ref y, .ref z, .ref i, .ref ct, .int 0, .int 0, .int 0])), (x, .inr (3, [.int 0, .int 16, .int 19, .ref xo, .ref xp, .ref xt, .ref xb, .ref xe, .int 0, .int 0])), (xo, .inl (cI, 40, .inl (fun _ => 0))), (xp, .inl (cI, 12, .inl (fun _ => 0))), (xt, .inl (cI, 40, .inl (fun _ => 0))), (xb, .inl (cI, 40, .inl (fun _ => 0))), (xe, .inl (cI, 40, .inl (fun _ => 0))), (y, .inr (3, [.int 1, .int 17, .int 21, .ref yo, .ref yp, .ref yt, .ref yb, .ref ye, .int 0, .int 0])), (yo, .inl (cI, 40, .inl (fun _ => 0))), (yp, .inl (cI, 12, .inl (fun _ => 0))), (yt, .inl (cI, 40, .inl (fun _ => 0))), (yb, .inl (cI, 40, .inl (fun _ => 0))), (ye, .inl (cI, 40, .inl (fun _ => 0))), (z, .inr (8, [.ref zb, .ref ze, .int 0, .int 0])), (zb, .inr (1, [.ref zr, .int 0])), (zr, .inl (cB, 400, .inl (fun _ => 0))), (ze, .inl (cI, 4, .inl (fun _ => 0))), (i, .inr (1, [.ref ir, .int 0])), (ir, .inl (cB, 60, .inl (fun _ => 0))), (ct, .inl (cI, 40, .inl (fun _ => 0))), (rd, .inr (7, [.null, .null, .null, .int 0, .int 0, .int 0]))] H := hP
  have hD : va_D A [(h0, .inr (0, [.ref tx, .ref tr, .ref im, .ref mkr, .null])), (tx, .inr (9, [.ref tq, .int 0])), (tq, .inl (cB, 400, .inl (fun _ => 0))), (tr, .inr (10, [.ref qa, .int 1, .int 1])), (qa, .inl (cN, 40, .inr (.inr (.inr (.inr (va_up (fun _ => none) 0 (some qn))))))), (qn, .inr (5, [.int 0, .ref qm, .ref qk, .ref qt, .int 0, .int 0, .int 0, .int 16877, .int 0, .int 0, .int 0, .int 0])), (qm, .inl (cB, 0, .inl (fun _ => 0))), (qt, .inl (cB, 0, .inl (fun _ => 0))), (qk, .inl (cB, 11, .inl (fun _ => 0))), (im, .inr (1, [.ref iq, .int 0])), (iq, .inl (cB, 0, .inl (fun _ => 0))), (mkr, .inr (4, [.ref tr, .ref im, .ref x, .ref y, .ref z, .ref i, .ref ct, .int 0, .int 0, .int 0])), (x, .inr (3, [.int 0, .int 16, .int 19, .ref xo, .ref xp, .ref xt, .ref xb, .ref xe, .int 0, .int 0])), (xo, .inl (cI, 40, .inl (fun _ => 0))), (xp, .inl (cI, 12, .inl (fun _ => 0))), (xt, .inl (cI, 40, .inl (fun _ => 0))), (xb, .inl (cI, 40, .inl (fun _ => 0))), (xe, .inl (cI, 40, .inl (fun _ => 0))), (y, .inr (3, [.int 1, .int 17, .int 21, .ref yo, .ref yp, .ref yt, .ref yb, .ref ye, .int 0, .int 0])), (yo, .inl (cI, 40, .inl (fun _ => 0))), (yp, .inl (cI, 12, .inl (fun _ => 0))), (yt, .inl (cI, 40, .inl (fun _ => 0))), (yb, .inl (cI, 40, .inl (fun _ => 0))), (ye, .inl (cI, 40, .inl (fun _ => 0))), (z, .inr (8, [.ref zb, .ref ze, .int 0, .int 0])), (zb, .inr (1, [.ref zr, .int 0])), (zr, .inl (cB, 400, .inl (fun _ => 0))), (ze, .inl (cI, 4, .inl (fun _ => 0))), (i, .inr (1, [.ref ir, .int 0])), (ir, .inl (cB, 60, .inl (fun _ => 0))), (ct, .inl (cI, 40, .inl (fun _ => 0))), (rd, .inr (7, [.null, .null, .null, .int 0, .int 0, .int 0]))] := hD
  refine W.widen (k := 31) (n := 1362) (by decide) (by decide) ?_
  refine lv_dup hx hb d_DiscMaker_init_61 rfl ?_
  refine lv_aload_n hx hb d_DiscMaker_init_62 rfl (lv_at hl 0 rfl) ?_
  refine va_get (D := D) (ci := 0) (v := .ref im) (C := "DiscMaker") (T := F_DiscMaker) (N := 5) hx hb ht9 in_DiscMaker hown hK hP 0 rfl rfl 2 (by decide) (ht9 _ k433) (fun _ h9 => h9) rfl d_DiscMaker_init_63 ?_
  have hPc := hP.sub (ws' := [(rd, .inr (7, [.null, .null, .null, .int 0, .int 0, .int 0]))]) [31] rfl
  have hDc := hD.sub (ws' := [(rd, .inr (7, [.null, .null, .null, .int 0, .int 0, .int 0]))]) [31] (by decide) rfl
  have hFc := va_free (wc := [(rd, .inr (7, [.null, .null, .null, .int 0, .int 0, .int 0]))]) hD hS hA [31] rfl
  have hkc : 33 ≤ 33 := by decide
  have hks : 1467 ≤ 1467 := by decide
  refine va_callv (va_runI (As := [.ref im]) (rest := [.ref rd, .ref h0]) ⟨hx, hb, hml, hown, hts⟩ (c_Reader_init l D cB cI cJ cZ cN cF H.size rd im) (cwI 1 hts (lg_good kc_Reader_init) rfl rfl rfl (ht9 _ k123) (ht9 _ k380) (ht9 _ k381) rfl (by decide +kernel) ⟨Nat.le_of_ble_eq_true rfl, Nat.le_of_ble_eq_true rfl⟩) ⟨fun a U g mk q => by obtain ⟨q0, q1, qP, qK, qN, qD⟩ := q; exact ⟨q0, q1, qP, va_K.moved (u := U) (U := U.calling g mk a) (Vm.Alike.refl U.vm) qK, qN.calling, qD⟩, fun U hU hW => ⟨rfl, by rw [hU], by rw [hU]; exact hPc, va_K.moved hW.alike hK, NN.warm hW hN, hDc.weaken (fun _ _ _ _ => trivial)⟩⟩ rfl rfl hl.1 rfl (lv_room (Nat.le_of_ble_eq_true rfl)) d_DiscMaker_init_66 ⟨hkc, hks⟩) hS (fun q _ h => hFc q h) hFc (fun u t H1 locs ht hvm hp_66 hB hz1 hk1 hS => ?_)
  obtain ⟨rr, rp⟩ := u
  obtain ⟨hP1, hD1⟩ := hB
  rw [ht] at hP1
  obtain ⟨hP, hD⟩ := va_join (wr := [(h0, .inr (0, [.ref tx, .ref tr, .ref im, .ref mkr, .null])), (tx, .inr (9, [.ref tq, .int 0])), (tq, .inl (cB, 400, .inl (fun _ => 0))), (tr, .inr (10, [.ref qa, .int 1, .int 1])), (qa, .inl (cN, 40, .inr (.inr (.inr (.inr (va_up (fun _ => none) 0 (some qn))))))), (qn, .inr (5, [.int 0, .ref qm, .ref qk, .ref qt, .int 0, .int 0, .int 0, .int 16877, .int 0, .int 0, .int 0, .int 0])), (qm, .inl (cB, 0, .inl (fun _ => 0))), (qt, .inl (cB, 0, .inl (fun _ => 0))), (qk, .inl (cB, 11, .inl (fun _ => 0))), (im, .inr (1, [.ref iq, .int 0])), (iq, .inl (cB, 0, .inl (fun _ => 0))), (mkr, .inr (4, [.ref tr, .ref im, .ref x, .ref y, .ref z, .ref i, .ref ct, .int 0, .int 0, .int 0])), (x, .inr (3, [.int 0, .int 16, .int 19, .ref xo, .ref xp, .ref xt, .ref xb, .ref xe, .int 0, .int 0])), (xo, .inl (cI, 40, .inl (fun _ => 0))), (xp, .inl (cI, 12, .inl (fun _ => 0))), (xt, .inl (cI, 40, .inl (fun _ => 0))), (xb, .inl (cI, 40, .inl (fun _ => 0))), (xe, .inl (cI, 40, .inl (fun _ => 0))), (y, .inr (3, [.int 1, .int 17, .int 21, .ref yo, .ref yp, .ref yt, .ref yb, .ref ye, .int 0, .int 0])), (yo, .inl (cI, 40, .inl (fun _ => 0))), (yp, .inl (cI, 12, .inl (fun _ => 0))), (yt, .inl (cI, 40, .inl (fun _ => 0))), (yb, .inl (cI, 40, .inl (fun _ => 0))), (ye, .inl (cI, 40, .inl (fun _ => 0))), (z, .inr (8, [.ref zb, .ref ze, .int 0, .int 0])), (zb, .inr (1, [.ref zr, .int 0])), (zr, .inl (cB, 400, .inl (fun _ => 0))), (ze, .inl (cI, 4, .inl (fun _ => 0))), (i, .inr (1, [.ref ir, .int 0])), (ir, .inl (cB, 60, .inl (fun _ => 0))), (ct, .inl (cI, 40, .inl (fun _ => 0)))]) (w1 := [(rd, .inr (7, [.ref im, .ref rp, .ref rr, .int 0, .int 0, .int 0])), (rp, .inr (6, [.ref im, .null, .int 0, .int 0, .int 0, .int 0])), (rr, .inl (cF, 99, .inr (.inr (.inr (.inr (fun _ => none))))))]) hP hD [31] [0, 1, 2, 3, 4, 5, 6, 7, 8, 9, 10, 11, 12, 13, 14, 15, 16, 17, 18, 19, 20, 21, 22, 23, 24, 25, 26, 27, 28, 29, 30] rfl rfl (by decide) (by decide) hk1 hFc hP1 hD1
  clear hPc hDc hFc hP1 hD1 hk1 hz1
  generalize H1 = H at hP hS ⊢
  have hP : va_P D CL [(h0, .inr (0, [.ref tx, .ref tr, .ref im, .ref mkr, .null])), (tx, .inr (9, [.ref tq, .int 0])), (tq, .inl (cB, 400, .inl (fun _ => 0))), (tr, .inr (10, [.ref qa, .int 1, .int 1])), (qa, .inl (cN, 40, .inr (.inr (.inr (.inr (va_up (fun _ => none) 0 (some qn))))))), (qn, .inr (5, [.int 0, .ref qm, .ref qk, .ref qt, .int 0, .int 0, .int 0, .int 16877, .int 0, .int 0, .int 0, .int 0])), (qm, .inl (cB, 0, .inl (fun _ => 0))), (qt, .inl (cB, 0, .inl (fun _ => 0))), (qk, .inl (cB, 11, .inl (fun _ => 0))), (im, .inr (1, [.ref iq, .int 0])), (iq, .inl (cB, 0, .inl (fun _ => 0))), (mkr, .inr (4, [.ref tr, .ref im, .ref x, .ref y, .ref z, .ref i, .ref ct, .int 0, .int 0, .int 0])), (x, .inr (3, [.int 0, .int 16, .int 19, .ref xo, .ref xp, .ref xt, .ref xb, .ref xe, .int 0, .int 0])), (xo, .inl (cI, 40, .inl (fun _ => 0))), (xp, .inl (cI, 12, .inl (fun _ => 0))), (xt, .inl (cI, 40, .inl (fun _ => 0))), (xb, .inl (cI, 40, .inl (fun _ => 0))), (xe, .inl (cI, 40, .inl (fun _ => 0))), (y, .inr (3, [.int 1, .int 17, .int 21, .ref yo, .ref yp, .ref yt, .ref yb, .ref ye, .int 0, .int 0])), (yo, .inl (cI, 40, .inl (fun _ => 0))), (yp, .inl (cI, 12, .inl (fun _ => 0))), (yt, .inl (cI, 40, .inl (fun _ => 0))), (yb, .inl (cI, 40, .inl (fun _ => 0))), (ye, .inl (cI, 40, .inl (fun _ => 0))), (z, .inr (8, [.ref zb, .ref ze, .int 0, .int 0])), (zb, .inr (1, [.ref zr, .int 0])), (zr, .inl (cB, 400, .inl (fun _ => 0))), (ze, .inl (cI, 4, .inl (fun _ => 0))), (i, .inr (1, [.ref ir, .int 0])), (ir, .inl (cB, 60, .inl (fun _ => 0))), (ct, .inl (cI, 40, .inl (fun _ => 0))), (rd, .inr (7, [.ref im, .ref rp, .ref rr, .int 0, .int 0, .int 0])), (rp, .inr (6, [.ref im, .null, .int 0, .int 0, .int 0, .int 0])), (rr, .inl (cF, 99, .inr (.inr (.inr (.inr (fun _ => none))))))] H := hP
  have hD : va_D A [(h0, .inr (0, [.ref tx, .ref tr, .ref im, .ref mkr, .null])), (tx, .inr (9, [.ref tq, .int 0])), (tq, .inl (cB, 400, .inl (fun _ => 0))), (tr, .inr (10, [.ref qa, .int 1, .int 1])), (qa, .inl (cN, 40, .inr (.inr (.inr (.inr (va_up (fun _ => none) 0 (some qn))))))), (qn, .inr (5, [.int 0, .ref qm, .ref qk, .ref qt, .int 0, .int 0, .int 0, .int 16877, .int 0, .int 0, .int 0, .int 0])), (qm, .inl (cB, 0, .inl (fun _ => 0))), (qt, .inl (cB, 0, .inl (fun _ => 0))), (qk, .inl (cB, 11, .inl (fun _ => 0))), (im, .inr (1, [.ref iq, .int 0])), (iq, .inl (cB, 0, .inl (fun _ => 0))), (mkr, .inr (4, [.ref tr, .ref im, .ref x, .ref y, .ref z, .ref i, .ref ct, .int 0, .int 0, .int 0])), (x, .inr (3, [.int 0, .int 16, .int 19, .ref xo, .ref xp, .ref xt, .ref xb, .ref xe, .int 0, .int 0])), (xo, .inl (cI, 40, .inl (fun _ => 0))), (xp, .inl (cI, 12, .inl (fun _ => 0))), (xt, .inl (cI, 40, .inl (fun _ => 0))), (xb, .inl (cI, 40, .inl (fun _ => 0))), (xe, .inl (cI, 40, .inl (fun _ => 0))), (y, .inr (3, [.int 1, .int 17, .int 21, .ref yo, .ref yp, .ref yt, .ref yb, .ref ye, .int 0, .int 0])), (yo, .inl (cI, 40, .inl (fun _ => 0))), (yp, .inl (cI, 12, .inl (fun _ => 0))), (yt, .inl (cI, 40, .inl (fun _ => 0))), (yb, .inl (cI, 40, .inl (fun _ => 0))), (ye, .inl (cI, 40, .inl (fun _ => 0))), (z, .inr (8, [.ref zb, .ref ze, .int 0, .int 0])), (zb, .inr (1, [.ref zr, .int 0])), (zr, .inl (cB, 400, .inl (fun _ => 0))), (ze, .inl (cI, 4, .inl (fun _ => 0))), (i, .inr (1, [.ref ir, .int 0])), (ir, .inl (cB, 60, .inl (fun _ => 0))), (ct, .inl (cI, 40, .inl (fun _ => 0))), (rd, .inr (7, [.ref im, .ref rp, .ref rr, .int 0, .int 0, .int 0])), (rp, .inr (6, [.ref im, .null, .int 0, .int 0, .int 0, .int 0])), (rr, .inl (cF, 99, .inr (.inr (.inr (.inr (fun _ => none))))))] := hD
  refine W.widen (k := 33) (n := 1467) (by decide) (by decide) ?_
  refine va_putF (D := D) (ci := 0) (v := .ref rd) (ty := .object "DiscMaker$Reader") (C := "DiscMaker") (T := F_DiscMaker) (N := 5) hx hb ht9 in_DiscMaker t_DiscMaker t_DiscMaker_ok n_DiscMaker hown hK hP hD hS 0 rfl rfl 4 (by decide) (ht9 _ k435) (fun _ h9 => h9) rfl hin rfl (by decide +kernel) rfl rfl (Nat.le_of_ble_eq_true rfl) d_DiscMaker_init_69 (fun H locs hP hD hS => ?_)
  have hP : va_P D CL [(h0, .inr (0, [.ref tx, .ref tr, .ref im, .ref mkr, .ref rd])), (tx, .inr (9, [.ref tq, .int 0])), (tq, .inl (cB, 400, .inl (fun _ => 0))), (tr, .inr (10, [.ref qa, .int 1, .int 1])), (qa, .inl (cN, 40, .inr (.inr (.inr (.inr (va_up (fun _ => none) 0 (some qn))))))), (qn, .inr (5, [.int 0, .ref qm, .ref qk, .ref qt, .int 0, .int 0, .int 0, .int 16877, .int 0, .int 0, .int 0, .int 0])), (qm, .inl (cB, 0, .inl (fun _ => 0))), (qt, .inl (cB, 0, .inl (fun _ => 0))), (qk, .inl (cB, 11, .inl (fun _ => 0))), (im, .inr (1, [.ref iq, .int 0])), (iq, .inl (cB, 0, .inl (fun _ => 0))), (mkr, .inr (4, [.ref tr, .ref im, .ref x, .ref y, .ref z, .ref i, .ref ct, .int 0, .int 0, .int 0])), (x, .inr (3, [.int 0, .int 16, .int 19, .ref xo, .ref xp, .ref xt, .ref xb, .ref xe, .int 0, .int 0])), (xo, .inl (cI, 40, .inl (fun _ => 0))), (xp, .inl (cI, 12, .inl (fun _ => 0))), (xt, .inl (cI, 40, .inl (fun _ => 0))), (xb, .inl (cI, 40, .inl (fun _ => 0))), (xe, .inl (cI, 40, .inl (fun _ => 0))), (y, .inr (3, [.int 1, .int 17, .int 21, .ref yo, .ref yp, .ref yt, .ref yb, .ref ye, .int 0, .int 0])), (yo, .inl (cI, 40, .inl (fun _ => 0))), (yp, .inl (cI, 12, .inl (fun _ => 0))), (yt, .inl (cI, 40, .inl (fun _ => 0))), (yb, .inl (cI, 40, .inl (fun _ => 0))), (ye, .inl (cI, 40, .inl (fun _ => 0))), (z, .inr (8, [.ref zb, .ref ze, .int 0, .int 0])), (zb, .inr (1, [.ref zr, .int 0])), (zr, .inl (cB, 400, .inl (fun _ => 0))), (ze, .inl (cI, 4, .inl (fun _ => 0))), (i, .inr (1, [.ref ir, .int 0])), (ir, .inl (cB, 60, .inl (fun _ => 0))), (ct, .inl (cI, 40, .inl (fun _ => 0))), (rd, .inr (7, [.ref im, .ref rp, .ref rr, .int 0, .int 0, .int 0])), (rp, .inr (6, [.ref im, .null, .int 0, .int 0, .int 0, .int 0])), (rr, .inl (cF, 99, .inr (.inr (.inr (.inr (fun _ => none))))))] H := hP
  have hD : va_D A [(h0, .inr (0, [.ref tx, .ref tr, .ref im, .ref mkr, .ref rd])), (tx, .inr (9, [.ref tq, .int 0])), (tq, .inl (cB, 400, .inl (fun _ => 0))), (tr, .inr (10, [.ref qa, .int 1, .int 1])), (qa, .inl (cN, 40, .inr (.inr (.inr (.inr (va_up (fun _ => none) 0 (some qn))))))), (qn, .inr (5, [.int 0, .ref qm, .ref qk, .ref qt, .int 0, .int 0, .int 0, .int 16877, .int 0, .int 0, .int 0, .int 0])), (qm, .inl (cB, 0, .inl (fun _ => 0))), (qt, .inl (cB, 0, .inl (fun _ => 0))), (qk, .inl (cB, 11, .inl (fun _ => 0))), (im, .inr (1, [.ref iq, .int 0])), (iq, .inl (cB, 0, .inl (fun _ => 0))), (mkr, .inr (4, [.ref tr, .ref im, .ref x, .ref y, .ref z, .ref i, .ref ct, .int 0, .int 0, .int 0])), (x, .inr (3, [.int 0, .int 16, .int 19, .ref xo, .ref xp, .ref xt, .ref xb, .ref xe, .int 0, .int 0])), (xo, .inl (cI, 40, .inl (fun _ => 0))), (xp, .inl (cI, 12, .inl (fun _ => 0))), (xt, .inl (cI, 40, .inl (fun _ => 0))), (xb, .inl (cI, 40, .inl (fun _ => 0))), (xe, .inl (cI, 40, .inl (fun _ => 0))), (y, .inr (3, [.int 1, .int 17, .int 21, .ref yo, .ref yp, .ref yt, .ref yb, .ref ye, .int 0, .int 0])), (yo, .inl (cI, 40, .inl (fun _ => 0))), (yp, .inl (cI, 12, .inl (fun _ => 0))), (yt, .inl (cI, 40, .inl (fun _ => 0))), (yb, .inl (cI, 40, .inl (fun _ => 0))), (ye, .inl (cI, 40, .inl (fun _ => 0))), (z, .inr (8, [.ref zb, .ref ze, .int 0, .int 0])), (zb, .inr (1, [.ref zr, .int 0])), (zr, .inl (cB, 400, .inl (fun _ => 0))), (ze, .inl (cI, 4, .inl (fun _ => 0))), (i, .inr (1, [.ref ir, .int 0])), (ir, .inl (cB, 60, .inl (fun _ => 0))), (ct, .inl (cI, 40, .inl (fun _ => 0))), (rd, .inr (7, [.ref im, .ref rp, .ref rr, .int 0, .int 0, .int 0])), (rp, .inr (6, [.ref im, .null, .int 0, .int 0, .int 0, .int 0])), (rr, .inl (cF, 99, .inr (.inr (.inr (.inr (fun _ => none))))))] := hD
  have hP9 := hP.sub (ws' := [(h0, .inr (0, [.ref tx, .ref tr, .ref im, .ref mkr, .ref rd])), (tx, .inr (9, [.ref tq, .int 0])), (tq, .inl (cB, 400, .inl (fun _ => 0))), (tr, .inr (10, [.ref qa, .int 1, .int 1])), (qa, .inl (cN, 40, .inr (.inr (.inr (.inr (va_up (fun _ => none) 0 (some qn))))))), (qn, .inr (5, [.int 0, .ref qm, .ref qk, .ref qt, .int 0, .int 0, .int 0, .int 16877, .int 0, .int 0, .int 0, .int 0])), (qm, .inl (cB, 0, .inl (fun _ => 0))), (qt, .inl (cB, 0, .inl (fun _ => 0))), (qk, .inl (cB, 11, .inl (fun _ => 0))), (im, .inr (1, [.ref iq, .int 0])), (iq, .inl (cB, 0, .inl (fun _ => 0))), (mkr, .inr (4, [.ref tr, .ref im, .ref x, .ref y, .ref z, .ref i, .ref ct, .int 0, .int 0, .int 0])), (x, .inr (3, [.int 0, .int 16, .int 19, .ref xo, .ref xp, .ref xt, .ref xb, .ref xe, .int 0, .int 0])), (xo, .inl (cI, 40, .inl (fun _ => 0))), (xp, .inl (cI, 12, .inl (fun _ => 0))), (xt, .inl (cI, 40, .inl (fun _ => 0))), (xb, .inl (cI, 40, .inl (fun _ => 0))), (xe, .inl (cI, 40, .inl (fun _ => 0))), (y, .inr (3, [.int 1, .int 17, .int 21, .ref yo, .ref yp, .ref yt, .ref yb, .ref ye, .int 0, .int 0])), (yo, .inl (cI, 40, .inl (fun _ => 0))), (yp, .inl (cI, 12, .inl (fun _ => 0))), (yt, .inl (cI, 40, .inl (fun _ => 0))), (yb, .inl (cI, 40, .inl (fun _ => 0))), (ye, .inl (cI, 40, .inl (fun _ => 0))), (z, .inr (8, [.ref zb, .ref ze, .int 0, .int 0])), (zb, .inr (1, [.ref zr, .int 0])), (zr, .inl (cB, 400, .inl (fun _ => 0))), (ze, .inl (cI, 4, .inl (fun _ => 0))), (i, .inr (1, [.ref ir, .int 0])), (ir, .inl (cB, 60, .inl (fun _ => 0))), (ct, .inl (cI, 40, .inl (fun _ => 0))), (rd, .inr (7, [.ref im, .ref rp, .ref rr, .int 0, .int 0, .int 0])), (rp, .inr (6, [.ref im, .null, .int 0, .int 0, .int 0, .int 0])), (rr, .inl (cF, 99, .inr (.inr (.inr (.inr (fun _ => none))))))]) [0, 1, 2, 3, 4, 5, 6, 7, 8, 9, 10, 11, 12, 13, 14, 15, 16, 17, 18, 19, 20, 21, 22, 23, 24, 25, 26, 27, 28, 29, 30, 31, 32, 33] rfl
  have hD9 := hD.sub (ws' := [(h0, .inr (0, [.ref tx, .ref tr, .ref im, .ref mkr, .ref rd])), (tx, .inr (9, [.ref tq, .int 0])), (tq, .inl (cB, 400, .inl (fun _ => 0))), (tr, .inr (10, [.ref qa, .int 1, .int 1])), (qa, .inl (cN, 40, .inr (.inr (.inr (.inr (va_up (fun _ => none) 0 (some qn))))))), (qn, .inr (5, [.int 0, .ref qm, .ref qk, .ref qt, .int 0, .int 0, .int 0, .int 16877, .int 0, .int 0, .int 0, .int 0])), (qm, .inl (cB, 0, .inl (fun _ => 0))), (qt, .inl (cB, 0, .inl (fun _ => 0))), (qk, .inl (cB, 11, .inl (fun _ => 0))), (im, .inr (1, [.ref iq, .int 0])), (iq, .inl (cB, 0, .inl (fun _ => 0))), (mkr, .inr (4, [.ref tr, .ref im, .ref x, .ref y, .ref z, .ref i, .ref ct, .int 0, .int 0, .int 0])), (x, .inr (3, [.int 0, .int 16, .int 19, .ref xo, .ref xp, .ref xt, .ref xb, .ref xe, .int 0, .int 0])), (xo, .inl (cI, 40, .inl (fun _ => 0))), (xp, .inl (cI, 12, .inl (fun _ => 0))), (xt, .inl (cI, 40, .inl (fun _ => 0))), (xb, .inl (cI, 40, .inl (fun _ => 0))), (xe, .inl (cI, 40, .inl (fun _ => 0))), (y, .inr (3, [.int 1, .int 17, .int 21, .ref yo, .ref yp, .ref yt, .ref yb, .ref ye, .int 0, .int 0])), (yo, .inl (cI, 40, .inl (fun _ => 0))), (yp, .inl (cI, 12, .inl (fun _ => 0))), (yt, .inl (cI, 40, .inl (fun _ => 0))), (yb, .inl (cI, 40, .inl (fun _ => 0))), (ye, .inl (cI, 40, .inl (fun _ => 0))), (z, .inr (8, [.ref zb, .ref ze, .int 0, .int 0])), (zb, .inr (1, [.ref zr, .int 0])), (zr, .inl (cB, 400, .inl (fun _ => 0))), (ze, .inl (cI, 4, .inl (fun _ => 0))), (i, .inr (1, [.ref ir, .int 0])), (ir, .inl (cB, 60, .inl (fun _ => 0))), (ct, .inl (cI, 40, .inl (fun _ => 0))), (rd, .inr (7, [.ref im, .ref rp, .ref rr, .int 0, .int 0, .int 0])), (rp, .inr (6, [.ref im, .null, .int 0, .int 0, .int 0, .int 0])), (rr, .inl (cF, 99, .inr (.inr (.inr (.inr (fun _ => none))))))]) [0, 1, 2, 3, 4, 5, 6, 7, 8, 9, 10, 11, 12, 13, 14, 15, 16, 17, 18, 19, 20, 21, 22, 23, 24, 25, 26, 27, 28, 29, 30, 31, 32, 33] (by decide) rfl
  exact W.vret hx hb hr (fun t ht hW => ⟨⟨(tx, tq, tr, qa, qn, qm, qt, qk, im, iq, mkr, x, xo, xp, xt, xb, xe, y, yo, yp, yt, yb, ye, z, zb, zr, ze, i, ir, ct, rd, rr, rp), rfl, trivial, by rw [ht]; exact hP9, hD9⟩, hS.F ht⟩) hS.2.2 d_DiscMaker_init_72
