theorem d_Found_init_0 : decode b_Found_init 0 = .ok (.aload_n 0, 1) := by decide +kernel
theorem d_Found_init_1 : decode b_Found_init 1 = .ok (.invokespecial 3, 3) := by decide +kernel
theorem d_Found_init_4 : decode b_Found_init 4 = .ok (.aload_n 0, 1) := by decide +kernel
theorem d_Found_init_5 : decode b_Found_init 5 = .ok (.bipush 60, 2) := by decide +kernel
theorem d_Found_init_7 : decode b_Found_init 7 = .ok (.newarray .byte, 2) := by decide +kernel
theorem d_Found_init_9 : decode b_Found_init 9 = .ok (.putfield 9, 3) := by decide +kernel
theorem d_Found_init_12 : decode b_Found_init 12 = .ok (.aload_n 0, 1) := by decide +kernel
theorem d_Found_init_13 : decode b_Found_init 13 = .ok (.sipush 400, 3) := by decide +kernel
theorem d_Found_init_16 : decode b_Found_init 16 = .ok (.newarray .byte, 2) := by decide +kernel
theorem d_Found_init_18 : decode b_Found_init 18 = .ok (.putfield 15, 3) := by decide +kernel
theorem d_Found_init_21 : decode b_Found_init 21 = .ok (.return_, 1) := by decide +kernel
set_option maxHeartbeats 4000000 in
set_option maxRecDepth 100000 in
theorem c3_Found_init (l : Launch) (D : va_G) (cB cI cJ cZ cN cF : ClassId) (sz : Nat) (h0 : Nat) : Met l y_Found_init w_Found_init ({ frames := 1, cells := 2, slots := 460, locals := 24 }) (va_Pc [.ref h0] (fun U => U.heap.size = sz ∧ va_P D CL [(h0, .inr (2, [.null, .null, .int 0, .int 0, .int 0, .int 0, .int 0, .int 0, .int 0, .int 0, .int 0, .int 0, .int 0]))] U.heap ∧ va_K D CL (TY cB cI cJ cZ cN cF) U ∧ NN U ∧ va_D (fun _ => True) [(h0, .inr (2, [.null, .null, .int 0, .int 0, .int 0, .int 0, .int 0, .int 0, .int 0, .int 0, .int 0, .int 0, .int 0]))])) (va_Qv (fun (u : Nat × Nat) => True) (fun (u : Nat × Nat) (t : State) => match u with | (q1, q2) => va_P D CL [(h0, .inr (2, [.ref q1, .ref q2, .int 0, .int 0, .int 0, .int 0, .int 0, .int 0, .int 0, .int 0, .int 0, .int 0, .int 0])), (q1, .inl (cB, 60, .inl (fun _ => 0))), (q2, .inl (cB, 400, .inl (fun _ => 0)))] t.heap ∧ va_D (va_A [(h0, .inr (2, [.null, .null, .int 0, .int 0, .int 0, .int 0, .int 0, .int 0, .int 0, .int 0, .int 0, .int 0, .int 0]))] sz) [(h0, .inr (2, [.ref q1, .ref q2, .int 0, .int 0, .int 0, .int 0, .int 0, .int 0, .int 0, .int 0, .int 0, .int 0, .int 0])), (q1, .inl (cB, 60, .inl (fun _ => 0))), (q2, .inl (cB, 400, .inl (fun _ => 0)))]) (va_A [(h0, .inr (2, [.null, .null, .int 0, .int 0, .int 0, .int 0, .int 0, .int 0, .int 0, .int 0, .int 0, .int 0, .int 0]))] sz)) 2 460 (va_A [(h0, .inr (2, [.null, .null, .int 0, .int 0, .int 0, .int 0, .int 0, .int 0, .int 0, .int 0, .int 0, .int 0, .int 0]))] sz) := by
  refine Met.ofW (cc := b_Found_init) (maxL := 1) (ret := none) (by decide +kernel) rfl ?_
  intro p e s m args below meth c s₁ B hml hv
  obtain ⟨rfl, hsz, hP, hK, hN, hD0⟩ := hv
  have hx := B.exec
  have hb := B.bytes
  have hr := B.returns
  have hts := atoms_spec (ws := w_Found_init) B.pre
  have ht9 := fun (w : Cond) (h : w ∈ lw_g) => hts w (List.mem_cons_of_mem _ h)
  have hown : s.vm.findClass "DiscMaker$Found" = some m.cls := findClass_of_methodNamed B.named
  have hlocks := B.notSynchronized
  have hin : meth.name = "<init>" := (name_of_methodNamed B.named B.method).1
  subst hsz
  have hD := hD0.self (sz := s.heap.size)
  generalize hAe : va_A [(h0, .inr (2, [.null, .null, .int 0, .int 0, .int 0, .int 0, .int 0, .int 0, .int 0, .int 0, .int 0, .int 0, .int 0]))] s.heap.size = A at hD ⊢
  have hA : ∀ q : Nat, s.heap.size ≤ q → A q := fun q h => by rw [← hAe]; exact Or.inr h
  have hS : va_S A s.heap s.heap [] := va_S.rf
  have hP : va_P D CL [(h0, .inr (2, [.null, .null, .int 0, .int 0, .int 0, .int 0, .int 0, .int 0, .int 0, .int 0, .int 0, .int 0, .int 0]))] s.heap := hP
  have hl := lv_entry [.ref h0] (n := 1) (Nat.le_of_ble_eq_true rfl)
  rw [lg_entry_eq]
  generalize (lg_sl [.ref h0] ++ List.replicate (1 - (lg_sl [.ref h0]).length) Slot.unset).toArray = ls at hl ⊢
  have hl : lv_has ls 1 [(0, .ref h0)] := hl
  have L_m1 : ((-1) : Int32).toInt = (-1) := by decide
  have L_0 : (0 : Int32).toInt = 0 := by decide
  have L_1 : (1 : Int32).toInt = 1 := by decide
  have L_60 : (60 : Int32).toInt = 60 := by decide
  have L_400 : (400 : Int32).toInt = 400 := by decide
  refine lv_aload_n hx hb d_Found_init_0 rfl (lv_at hl 0 rfl) ?_
  refine W.objInit hx hb hown (ht9 _ k1222) (ht9 _ k149) (ht9 _ kObj) rfl (by rw [hml]; exact hl.1) rfl d_Found_init_1 (Nat.le_of_ble_eq_true rfl) (Nat.le_of_ble_eq_true rfl) ?_
  refine W.eq (g2 := F0 m 4 ls []) rfl ?_
  refine lv_aload_n hx hb d_Found_init_4 rfl (lv_at hl 0 rfl) ?_
  refine lv_bipush (v := 60) hx hb d_Found_init_5 (by decide) ?_
  have hc_7 : 1 ≤ 2 := by decide
  have hs_7 : 60 ≤ 460 := by decide
  refine zz_newa (atype := .byte) (cK := cB) (ty := .byte) (N' := 60) (a0 := (60, .inl (fun _ => 0))) 0 (fun _ _ _ h1 h2 => Option.some.inj (h1.symm.trans h2)) rfl hx hb (ht9 _ k164) rfl hK hP hD hS hA (fun _ => rfl) (by decide) (by decide) (by decide) hc_7 hs_7 d_Found_init_7 (fun q1 H hP hD hS => ?_)
  have hP : va_P D CL [(h0, .inr (2, [.null, .null, .int 0, .int 0, .int 0, .int 0, .int 0, .int 0, .int 0, .int 0, .int 0, .int 0, .int 0])), (q1, .inl (cB, 60, .inl (fun _ => 0)))] H := hP
  have hD : va_D A [(h0, .inr (2, [.null, .null, .int 0, .int 0, .int 0, .int 0, .int 0, .int 0, .int 0, .int 0, .int 0, .int 0, .int 0])), (q1, .inl (cB, 60, .inl (fun _ => 0)))] := hD
  refine W.widen (k := 1) (n := 60) (by decide) (by decide) ?_
  refine va_putF (D := D) (ci := 2) (v := .ref q1) (ty := .array .byte) (C := "DiscMaker$Found") (T := F_Found) (N := 13) hx hb ht9 in_Found t_Found t_Found_ok n_Found hown hK hP hD hS 0 rfl rfl 0 (by decide) (ht9 _ k1223) (fun _ h9 => h9) rfl hin rfl (by decide +kernel) rfl rfl (Nat.le_of_ble_eq_true rfl) d_Found_init_9 (fun H locs hP hD hS => ?_)
  have hP : va_P D CL [(h0, .inr (2, [.ref q1, .null, .int 0, .int 0, .int 0, .int 0, .int 0, .int 0, .int 0, .int 0, .int 0, .int 0, .int 0])), (q1, .inl (cB, 60, .inl (fun _ => 0)))] H := hP
  have hD : va_D A [(h0, .inr (2, [.ref q1, .null, .int 0, .int 0, .int 0, .int 0, .int 0, .int 0, .int 0, .int 0, .int 0, .int 0, .int 0])), (q1, .inl (cB, 60, .inl (fun _ => 0)))] := hD
  refine lv_aload_n hx hb d_Found_init_12 rfl (lv_at hl 0 rfl) ?_
  refine lv_sipush (v := 400) hx hb d_Found_init_13 (by decide) ?_
  have hc_16 : 2 ≤ 2 := by decide
  have hs_16 : 460 ≤ 460 := by decide
  refine zz_newa (atype := .byte) (cK := cB) (ty := .byte) (N' := 400) (a0 := (400, .inl (fun _ => 0))) 0 (fun _ _ _ h1 h2 => Option.some.inj (h1.symm.trans h2)) rfl hx hb (ht9 _ k164) rfl hK hP hD hS hA (fun _ => rfl) (by decide) (by decide) (by decide) hc_16 hs_16 d_Found_init_16 (fun q2 H hP hD hS => ?_)
  have hP : va_P D CL [(h0, .inr (2, [.ref q1, .null, .int 0, .int 0, .int 0, .int 0, .int 0, .int 0, .int 0, .int 0, .int 0, .int 0, .int 0])), (q1, .inl (cB, 60, .inl (fun _ => 0))), (q2, .inl (cB, 400, .inl (fun _ => 0)))] H := hP
  have hD : va_D A [(h0, .inr (2, [.ref q1, .null, .int 0, .int 0, .int 0, .int 0, .int 0, .int 0, .int 0, .int 0, .int 0, .int 0, .int 0])), (q1, .inl (cB, 60, .inl (fun _ => 0))), (q2, .inl (cB, 400, .inl (fun _ => 0)))] := hD
  refine W.widen (k := 2) (n := 460) (by decide) (by decide) ?_
  refine va_putF (D := D) (ci := 2) (v := .ref q2) (ty := .array .byte) (C := "DiscMaker$Found") (T := F_Found) (N := 13) hx hb ht9 in_Found t_Found t_Found_ok n_Found hown hK hP hD hS 0 rfl rfl 1 (by decide) (ht9 _ k1225) (fun _ h9 => h9) rfl hin rfl (by decide +kernel) rfl rfl (Nat.le_of_ble_eq_true rfl) d_Found_init_18 (fun H locs hP hD hS => ?_)
  have hP : va_P D CL [(h0, .inr (2, [.ref q1, .ref q2, .int 0, .int 0, .int 0, .int 0, .int 0, .int 0, .int 0, .int 0, .int 0, .int 0, .int 0])), (q1, .inl (cB, 60, .inl (fun _ => 0))), (q2, .inl (cB, 400, .inl (fun _ => 0)))] H := hP
  have hD : va_D A [(h0, .inr (2, [.ref q1, .ref q2, .int 0, .int 0, .int 0, .int 0, .int 0, .int 0, .int 0, .int 0, .int 0, .int 0, .int 0])), (q1, .inl (cB, 60, .inl (fun _ => 0))), (q2, .inl (cB, 400, .inl (fun _ => 0)))] := hD
  have hP9 := hP.sub (ws' := [(h0, .inr (2, [.ref q1, .ref q2, .int 0, .int 0, .int 0, .int 0, .int 0, .int 0, .int 0, .int 0, .int 0, .int 0, .int 0])), (q1, .inl (cB, 60, .inl (fun _ => 0))), (q2, .inl (cB, 400, .inl (fun _ => 0)))]) [0, 1, 2] rfl
  have hD9 := hD.sub (ws' := [(h0, .inr (2, [.ref q1, .ref q2, .int 0, .int 0, .int 0, .int 0, .int 0, .int 0, .int 0, .int 0, .int 0, .int 0, .int 0])), (q1, .inl (cB, 60, .inl (fun _ => 0))), (q2, .inl (cB, 400, .inl (fun _ => 0)))]) [0, 1, 2] (by decide +kernel) rfl
  exact W.vret hx hb hr (fun t ht hW => ⟨⟨(q1, q2), rfl, trivial, by rw [ht]; exact hP9, hD9⟩, hS.F ht⟩) hS.2.2 d_Found_init_21

theorem d_Found_begin_0 : decode b_Found_begin 0 = .ok (.aload_n 0, 1) := by decide +kernel
theorem d_Found_begin_1 : decode b_Found_begin 1 = .ok (.iload_n 1, 1) := by decide +kernel
theorem d_Found_begin_2 : decode b_Found_begin 2 = .ok (.putfield 18, 3) := by decide +kernel
theorem d_Found_begin_5 : decode b_Found_begin 5 = .ok (.aload_n 0, 1) := by decide +kernel
theorem d_Found_begin_6 : decode b_Found_begin 6 = .ok (.iload_n 2, 1) := by decide +kernel
theorem d_Found_begin_7 : decode b_Found_begin 7 = .ok (.putfield 22, 3) := by decide +kernel
theorem d_Found_begin_10 : decode b_Found_begin 10 = .ok (.aload_n 0, 1) := by decide +kernel
theorem d_Found_begin_11 : decode b_Found_begin 11 = .ok (.iload_n 3, 1) := by decide +kernel
theorem d_Found_begin_12 : decode b_Found_begin 12 = .ok (.ifCond .eq 7, 3) := by decide +kernel
theorem d_Found_begin_15 : decode b_Found_begin 15 = .ok (.iconst 0, 1) := by decide +kernel
theorem d_Found_begin_16 : decode b_Found_begin 16 = .ok (.goto 4, 3) := by decide +kernel
theorem d_Found_begin_19 : decode b_Found_begin 19 = .ok (.iconst 1, 1) := by decide +kernel
theorem d_Found_begin_20 : decode b_Found_begin 20 = .ok (.putfield 25, 3) := by decide +kernel
theorem d_Found_begin_23 : decode b_Found_begin 23 = .ok (.aload_n 0, 1) := by decide +kernel
theorem d_Found_begin_24 : decode b_Found_begin 24 = .ok (.iload_n 3, 1) := by decide +kernel
theorem d_Found_begin_25 : decode b_Found_begin 25 = .ok (.putfield 28, 3) := by decide +kernel
theorem d_Found_begin_28 : decode b_Found_begin 28 = .ok (.aload_n 0, 1) := by decide +kernel
theorem d_Found_begin_29 : decode b_Found_begin 29 = .ok (.iload 4, 2) := by decide +kernel
theorem d_Found_begin_31 : decode b_Found_begin 31 = .ok (.putfield 32, 3) := by decide +kernel
theorem d_Found_begin_34 : decode b_Found_begin 34 = .ok (.aload_n 0, 1) := by decide +kernel
theorem d_Found_begin_35 : decode b_Found_begin 35 = .ok (.iload 5, 2) := by decide +kernel
theorem d_Found_begin_37 : decode b_Found_begin 37 = .ok (.putfield 35, 3) := by decide +kernel
theorem d_Found_begin_40 : decode b_Found_begin 40 = .ok (.aload_n 0, 1) := by decide +kernel
theorem d_Found_begin_41 : decode b_Found_begin 41 = .ok (.iconst 0, 1) := by decide +kernel
theorem d_Found_begin_42 : decode b_Found_begin 42 = .ok (.putfield 38, 3) := by decide +kernel
theorem d_Found_begin_45 : decode b_Found_begin 45 = .ok (.aload_n 0, 1) := by decide +kernel
theorem d_Found_begin_46 : decode b_Found_begin 46 = .ok (.iconst 0, 1) := by decide +kernel
theorem d_Found_begin_47 : decode b_Found_begin 47 = .ok (.putfield 41, 3) := by decide +kernel
theorem d_Found_begin_50 : decode b_Found_begin 50 = .ok (.aload_n 0, 1) := by decide +kernel
theorem d_Found_begin_51 : decode b_Found_begin 51 = .ok (.iconst 0, 1) := by decide +kernel
theorem d_Found_begin_52 : decode b_Found_begin 52 = .ok (.putfield 44, 3) := by decide +kernel
theorem d_Found_begin_55 : decode b_Found_begin 55 = .ok (.aload_n 0, 1) := by decide +kernel
theorem d_Found_begin_56 : decode b_Found_begin 56 = .ok (.iconst 0, 1) := by decide +kernel
theorem d_Found_begin_57 : decode b_Found_begin 57 = .ok (.putfield 47, 3) := by decide +kernel
theorem d_Found_begin_60 : decode b_Found_begin 60 = .ok (.aload_n 0, 1) := by decide +kernel
theorem d_Found_begin_61 : decode b_Found_begin 61 = .ok (.iconst 0, 1) := by decide +kernel
theorem d_Found_begin_62 : decode b_Found_begin 62 = .ok (.putfield 50, 3) := by decide +kernel
theorem d_Found_begin_65 : decode b_Found_begin 65 = .ok (.return_, 1) := by decide +kernel
set_option maxHeartbeats 4000000 in
set_option maxRecDepth 100000 in
theorem c3_Found_begin (l : Launch) (D : va_G) (cB cI cJ cZ cN cF : ClassId) (sz : Nat) (h0 : Nat) (a1 : Nat) (a2 : Nat) (pa : Int32) (de : Int32) (so : Int32) (si : Int32) (se : Int32) (mo : Int32) (ow : Int32) (gr : Int32) (nl : Int32) (tl : Int32) (mk : Int32) (x : Int32) (y : Int32) (z : Int32) (w : Int32) (v : Int32) (hz : 0 ≤ z.toInt ∧ z.toInt ≤ 1) : Met l y_Found_begin w_Found_begin ({ frames := 0, cells := 0, slots := 0, locals := 0 }) (va_Pc [.ref h0, .int x, .int y, .int z, .int w, .int v] (fun U => U.heap.size = sz ∧ va_P D CL [(h0, .inr (2, [.ref a1, .ref a2, .int pa, .int de, .int so, .int si, .int se, .int mo, .int ow, .int gr, .int nl, .int tl, .int mk]))] U.heap ∧ va_K D CL (TY cB cI cJ cZ cN cF) U ∧ NN U ∧ va_D (fun _ => True) [(h0, .inr (2, [.ref a1, .ref a2, .int pa, .int de, .int so, .int si, .int se, .int mo, .int ow, .int gr, .int nl, .int tl, .int mk]))])) (va_Qv (fun (u : Int32) => match u with | s2 => ((z.toInt ≠ 0 ∧ s2.toInt = 0) ∨ (z.toInt = 0 ∧ s2.toInt = 1))) (fun (u : Int32) (t : State) => match u with | s2 => va_P D CL [(h0, .inr (2, [.ref a1, .ref a2, .int x, .int y, .int s2, .int w, .int v, .int 0, .int 0, .int 0, .int 0, .int 0, .int z]))] t.heap ∧ va_D (va_A [(h0, .inr (2, [.ref a1, .ref a2, .int pa, .int de, .int so, .int si, .int se, .int mo, .int ow, .int gr, .int nl, .int tl, .int mk]))] sz) [(h0, .inr (2, [.ref a1, .ref a2, .int x, .int y, .int s2, .int w, .int v, .int 0, .int 0, .int 0, .int 0, .int 0, .int z]))]) (va_A [(h0, .inr (2, [.ref a1, .ref a2, .int pa, .int de, .int so, .int si, .int se, .int mo, .int ow, .int gr, .int nl, .int tl, .int mk]))] sz)) 0 0 (va_A [(h0, .inr (2, [.ref a1, .ref a2, .int pa, .int de, .int so, .int si, .int se, .int mo, .int ow, .int gr, .int nl, .int tl, .int mk]))] sz) := by
  refine Met.ofW (cc := b_Found_begin) (maxL := 6) (ret := none) (by decide +kernel) rfl ?_
  intro p e s m args below meth c s₁ B hml hv
  obtain ⟨rfl, hsz, hP, hK, hN, hD0⟩ := hv
  have hx := B.exec
  have hb := B.bytes
  have hr := B.returns
  have hts := atoms_spec (ws := w_Found_begin) B.pre
  have ht9 := fun (w : Cond) (h : w ∈ lw_g) => hts w (List.mem_cons_of_mem _ h)
  have hown : s.vm.findClass "DiscMaker$Found" = some m.cls := findClass_of_methodNamed B.named
  have hlocks := B.notSynchronized
  subst hsz
  have hD := hD0.self (sz := s.heap.size)
  generalize hAe : va_A [(h0, .inr (2, [.ref a1, .ref a2, .int pa, .int de, .int so, .int si, .int se, .int mo, .int ow, .int gr, .int nl, .int tl, .int mk]))] s.heap.size = A at hD ⊢
  have hA : ∀ q : Nat, s.heap.size ≤ q → A q := fun q h => by rw [← hAe]; exact Or.inr h
  have hS : va_S A s.heap s.heap [] := va_S.rf
  have hP : va_P D CL [(h0, .inr (2, [.ref a1, .ref a2, .int pa, .int de, .int so, .int si, .int se, .int mo, .int ow, .int gr, .int nl, .int tl, .int mk]))] s.heap := hP
  have hl := lv_entry [.ref h0, .int x, .int y, .int z, .int w, .int v] (n := 6) (Nat.le_of_ble_eq_true rfl)
  rw [lg_entry_eq]
  generalize (lg_sl [.ref h0, .int x, .int y, .int z, .int w, .int v] ++ List.replicate (6 - (lg_sl [.ref h0, .int x, .int y, .int z, .int w, .int v]).length) Slot.unset).toArray = ls at hl ⊢
  have hl : lv_has ls 6 [(0, .ref h0), (1, .int x), (2, .int y), (3, .int z), (4, .int w), (5, .int v)] := hl
  have L_m1 : ((-1) : Int32).toInt = (-1) := by decide
  have L_0 : (0 : Int32).toInt = 0 := by decide
  have L_1 : (1 : Int32).toInt = 1 := by decide
  refine lv_aload_n hx hb d_Found_begin_0 rfl (lv_at hl 0 rfl) ?_
  refine lv_iload_n hx hb d_Found_begin_1 rfl (lv_at hl 1 rfl) ?_
  refine va_put (D := D) (ci := 2) (v := .int x) (ty := .int) (C := "DiscMaker$Found") (T := F_Found) (N := 13) hx hb ht9 in_Found t_Found t_Found_ok n_Found hown hK hP hD hS 0 rfl rfl 2 (by decide) (ht9 _ k1227) (fun _ h9 => h9) rfl (by decide +kernel) rfl rfl (Nat.le_of_ble_eq_true rfl) d_Found_begin_2 (fun H locs hP hD hS => ?_)
  have hP : va_P D CL [(h0, .inr (2, [.ref a1, .ref a2, .int x, .int de, .int so, .int si, .int se, .int mo, .int ow, .int gr, .int nl, .int tl, .int mk]))] H := hP
  have hD : va_D A [(h0, .inr (2, [.ref a1, .ref a2, .int x, .int de, .int so, .int si, .int se, .int mo, .int ow, .int gr, .int nl, .int tl, .int mk]))] := hD
  refine lv_aload_n hx hb d_Found_begin_5 rfl (lv_at hl 0 rfl) ?_
  refine lv_iload_n hx hb d_Found_begin_6 rfl (lv_at hl 2 rfl) ?_
  refine va_put (D := D) (ci := 2) (v := .int y) (ty := .int) (C := "DiscMaker$Found") (T := F_Found) (N := 13) hx hb ht9 in_Found t_Found t_Found_ok n_Found hown hK hP hD hS 0 rfl rfl 3 (by decide) (ht9 _ k1228) (fun _ h9 => h9) rfl (by decide +kernel) rfl rfl (Nat.le_of_ble_eq_true rfl) d_Found_begin_7 (fun H locs hP hD hS => ?_)
  have hP : va_P D CL [(h0, .inr (2, [.ref a1, .ref a2, .int x, .int y, .int so, .int si, .int se, .int mo, .int ow, .int gr, .int nl, .int tl, .int mk]))] H := hP
  have hD : va_D A [(h0, .inr (2, [.ref a1, .ref a2, .int x, .int y, .int so, .int si, .int se, .int mo, .int ow, .int gr, .int nl, .int tl, .int mk]))] := hD
  refine lv_aload_n hx hb d_Found_begin_10 rfl (lv_at hl 0 rfl) ?_
  refine lv_iload_n hx hb d_Found_begin_11 rfl (lv_at hl 3 rfl) ?_
  refine lv_if_eq (tgt := 19) hx hb d_Found_begin_12 (by decide) (fun h_9 => ?_) (fun h_9 => ?_)
  · skip
    have g12_9 : z.toInt = 0 := (i_eq rfl (by decide)).mp h_9
    refine lv_iconst (v := 1) hx hb d_Found_begin_19 (by decide) ?_
    refine va_put (D := D) (ci := 2) (v := .int 1) (ty := .int) (C := "DiscMaker$Found") (T := F_Found) (N := 13) hx hb ht9 in_Found t_Found t_Found_ok n_Found hown hK hP hD hS 0 rfl rfl 4 (by decide) (ht9 _ k1230) (fun _ h9 => h9) rfl (by decide +kernel) rfl rfl (Nat.le_of_ble_eq_true rfl) d_Found_begin_20 (fun H locs hP hD hS => ?_)
    have hP : va_P D CL [(h0, .inr (2, [.ref a1, .ref a2, .int x, .int y, .int 1, .int si, .int se, .int mo, .int ow, .int gr, .int nl, .int tl, .int mk]))] H := hP
    have hD : va_D A [(h0, .inr (2, [.ref a1, .ref a2, .int x, .int y, .int 1, .int si, .int se, .int mo, .int ow, .int gr, .int nl, .int tl, .int mk]))] := hD
    refine lv_aload_n hx hb d_Found_begin_23 rfl (lv_at hl 0 rfl) ?_
    refine lv_iload_n hx hb d_Found_begin_24 rfl (lv_at hl 3 rfl) ?_
    refine va_put (D := D) (ci := 2) (v := .int z) (ty := .boolean) (C := "DiscMaker$Found") (T := F_Found) (N := 13) hx hb ht9 in_Found t_Found t_Found_ok n_Found hown hK hP hD hS 0 rfl rfl 12 (by decide) (ht9 _ k1251) (fun _ h9 => h9) rfl (by decide +kernel) (i_narZ (by omega)) (i_fitZ (by omega)) (Nat.le_of_ble_eq_true rfl) d_Found_begin_25 (fun H locs hP hD hS => ?_)
    have hP : va_P D CL [(h0, .inr (2, [.ref a1, .ref a2, .int x, .int y, .int 1, .int si, .int se, .int mo, .int ow, .int gr, .int nl, .int tl, .int z]))] H := hP
    have hD : va_D A [(h0, .inr (2, [.ref a1, .ref a2, .int x, .int y, .int 1, .int si, .int se, .int mo, .int ow, .int gr, .int nl, .int tl, .int z]))] := hD
    refine lv_aload_n hx hb d_Found_begin_28 rfl (lv_at hl 0 rfl) ?_
    refine lv_iload hx hb d_Found_begin_29 (lv_at hl 4 rfl) ?_
    refine va_put (D := D) (ci := 2) (v := .int w) (ty := .int) (C := "DiscMaker$Found") (T := F_Found) (N := 13) hx hb ht9 in_Found t_Found t_Found_ok n_Found hown hK hP hD hS 0 rfl rfl 5 (by decide) (ht9 _ k1234) (fun _ h9 => h9) rfl (by decide +kernel) rfl rfl (Nat.le_of_ble_eq_true rfl) d_Found_begin_31 (fun H locs hP hD hS => ?_)
    have hP : va_P D CL [(h0, .inr (2, [.ref a1, .ref a2, .int x, .int y, .int 1, .int w, .int se, .int mo, .int ow, .int gr, .int nl, .int tl, .int z]))] H := hP
    have hD : va_D A [(h0, .inr (2, [.ref a1, .ref a2, .int x, .int y, .int 1, .int w, .int se, .int mo, .int ow, .int gr, .int nl, .int tl, .int z]))] := hD
    refine lv_aload_n hx hb d_Found_begin_34 rfl (lv_at hl 0 rfl) ?_
    refine lv_iload hx hb d_Found_begin_35 (lv_at hl 5 rfl) ?_
    refine va_put (D := D) (ci := 2) (v := .int v) (ty := .int) (C := "DiscMaker$Found") (T := F_Found) (N := 13) hx hb ht9 in_Found t_Found t_Found_ok n_Found hown hK hP hD hS 0 rfl rfl 6 (by decide) (ht9 _ k1237) (fun _ h9 => h9) rfl (by decide +kernel) rfl rfl (Nat.le_of_ble_eq_true rfl) d_Found_begin_37 (fun H locs hP hD hS => ?_)
    have hP : va_P D CL [(h0, .inr (2, [.ref a1, .ref a2, .int x, .int y, .int 1, .int w, .int v, .int mo, .int ow, .int gr, .int nl, .int tl, .int z]))] H := hP
    have hD : va_D A [(h0, .inr (2, [.ref a1, .ref a2, .int x, .int y, .int 1, .int w, .int v, .int mo, .int ow, .int gr, .int nl, .int tl, .int z]))] := hD
    refine lv_aload_n hx hb d_Found_begin_40 rfl (lv_at hl 0 rfl) ?_
    refine lv_iconst (v := 0) hx hb d_Found_begin_41 (by decide) ?_
    refine va_put (D := D) (ci := 2) (v := .int 0) (ty := .int) (C := "DiscMaker$Found") (T := F_Found) (N := 13) hx hb ht9 in_Found t_Found t_Found_ok n_Found hown hK hP hD hS 0 rfl rfl 7 (by decide) (ht9 _ k1240) (fun _ h9 => h9) rfl (by decide +kernel) rfl rfl (Nat.le_of_ble_eq_true rfl) d_Found_begin_42 (fun H locs hP hD hS => ?_)
    have hP : va_P D CL [(h0, .inr (2, [.ref a1, .ref a2, .int x, .int y, .int 1, .int w, .int v, .int 0, .int ow, .int gr, .int nl, .int tl, .int z]))] H := hP
    have hD : va_D A [(h0, .inr (2, [.ref a1, .ref a2, .int x, .int y, .int 1, .int w, .int v, .int 0, .int ow, .int gr, .int nl, .int tl, .int z]))] := hD
    refine lv_aload_n hx hb d_Found_begin_45 rfl (lv_at hl 0 rfl) ?_
    refine lv_iconst (v := 0) hx hb d_Found_begin_46 (by decide) ?_
    refine va_put (D := D) (ci := 2) (v := .int 0) (ty := .int) (C := "DiscMaker$Found") (T := F_Found) (N := 13) hx hb ht9 in_Found t_Found t_Found_ok n_Found hown hK hP hD hS 0 rfl rfl 8 (by decide) (ht9 _ k1242) (fun _ h9 => h9) rfl (by decide +kernel) rfl rfl (Nat.le_of_ble_eq_true rfl) d_Found_begin_47 (fun H locs hP hD hS => ?_)
    have hP : va_P D CL [(h0, .inr (2, [.ref a1, .ref a2, .int x, .int y, .int 1, .int w, .int v, .int 0, .int 0, .int gr, .int nl, .int tl, .int z]))] H := hP
    have hD : va_D A [(h0, .inr (2, [.ref a1, .ref a2, .int x, .int y, .int 1, .int w, .int v, .int 0, .int 0, .int gr, .int nl, .int tl, .int z]))] := hD
    refine lv_aload_n hx hb d_Found_begin_50 rfl (lv_at hl 0 rfl) ?_
    refine lv_iconst (v := 0) hx hb d_Found_begin_51 (by decide) ?_
    refine va_put (D := D) (ci := 2) (v := .int 0) (ty := .int) (C := "DiscMaker$Found") (T := F_Found) (N := 13) hx hb ht9 in_Found t_Found t_Found_ok n_Found hown hK hP hD hS 0 rfl rfl 9 (by decide) (ht9 _ k1244) (fun _ h9 => h9) rfl (by decide +kernel) rfl rfl (Nat.le_of_ble_eq_true rfl) d_Found_begin_52 (fun H locs hP hD hS => ?_)
    have hP : va_P D CL [(h0, .inr (2, [.ref a1, .ref a2, .int x, .int y, .int 1, .int w, .int v, .int 0, .int 0, .int 0, .int nl, .int tl, .int z]))] H := hP
    have hD : va_D A [(h0, .inr (2, [.ref a1, .ref a2, .int x, .int y, .int 1, .int w, .int v, .int 0, .int 0, .int 0, .int nl, .int tl, .int z]))] := hD
    refine lv_aload_n hx hb d_Found_begin_55 rfl (lv_at hl 0 rfl) ?_
    refine lv_iconst (v := 0) hx hb d_Found_begin_56 (by decide) ?_
    refine va_put (D := D) (ci := 2) (v := .int 0) (ty := .int) (C := "DiscMaker$Found") (T := F_Found) (N := 13) hx hb ht9 in_Found t_Found t_Found_ok n_Found hown hK hP hD hS 0 rfl rfl 10 (by decide) (ht9 _ k1246) (fun _ h9 => h9) rfl (by decide +kernel) rfl rfl (Nat.le_of_ble_eq_true rfl) d_Found_begin_57 (fun H locs hP hD hS => ?_)
    have hP : va_P D CL [(h0, .inr (2, [.ref a1, .ref a2, .int x, .int y, .int 1, .int w, .int v, .int 0, .int 0, .int 0, .int 0, .int tl, .int z]))] H := hP
    have hD : va_D A [(h0, .inr (2, [.ref a1, .ref a2, .int x, .int y, .int 1, .int w, .int v, .int 0, .int 0, .int 0, .int 0, .int tl, .int z]))] := hD
    refine lv_aload_n hx hb d_Found_begin_60 rfl (lv_at hl 0 rfl) ?_
    refine lv_iconst (v := 0) hx hb d_Found_begin_61 (by decide) ?_
    refine va_put (D := D) (ci := 2) (v := .int 0) (ty := .int) (C := "DiscMaker$Found") (T := F_Found) (N := 13) hx hb ht9 in_Found t_Found t_Found_ok n_Found hown hK hP hD hS 0 rfl rfl 11 (by decide) (ht9 _ k1249) (fun _ h9 => h9) rfl (by decide +kernel) rfl rfl (Nat.le_of_ble_eq_true rfl) d_Found_begin_62 (fun H locs hP hD hS => ?_)
    have hP : va_P D CL [(h0, .inr (2, [.ref a1, .ref a2, .int x, .int y, .int 1, .int w, .int v, .int 0, .int 0, .int 0, .int 0, .int 0, .int z]))] H := hP
    have hD : va_D A [(h0, .inr (2, [.ref a1, .ref a2, .int x, .int y, .int 1, .int w, .int v, .int 0, .int 0, .int 0, .int 0, .int 0, .int z]))] := hD
    have hP9 := hP.sub (ws' := [(h0, .inr (2, [.ref a1, .ref a2, .int x, .int y, .int 1, .int w, .int v, .int 0, .int 0, .int 0, .int 0, .int 0, .int z]))]) [0] rfl
    have hD9 := hD.sub (ws' := [(h0, .inr (2, [.ref a1, .ref a2, .int x, .int y, .int 1, .int w, .int v, .int 0, .int 0, .int 0, .int 0, .int 0, .int z]))]) [0] (by decide +kernel) rfl
    exact W.vret hx hb hr (fun t ht hW => ⟨⟨1, rfl, (by (try dsimp only); first | assumption | omega | trivial), by rw [ht]; exact hP9, hD9⟩, hS.F ht⟩) hS.2.2 d_Found_begin_65
  · skip
    have g12_9 : ¬ z.toInt = 0 := fun h8 => h_9 ((i_eq rfl (by decide)).mpr h8)
    refine lv_iconst (v := 0) hx hb d_Found_begin_15 (by decide) ?_
    refine lv_goto (tgt := 20) hx hb d_Found_begin_16 (by decide) ?_
    refine va_put (D := D) (ci := 2) (v := .int 0) (ty := .int) (C := "DiscMaker$Found") (T := F_Found) (N := 13) hx hb ht9 in_Found t_Found t_Found_ok n_Found hown hK hP hD hS 0 rfl rfl 4 (by decide) (ht9 _ k1230) (fun _ h9 => h9) rfl (by decide +kernel) rfl rfl (Nat.le_of_ble_eq_true rfl) d_Found_begin_20 (fun H locs hP hD hS => ?_)
    have hP : va_P D CL [(h0, .inr (2, [.ref a1, .ref a2, .int x, .int y, .int 0, .int si, .int se, .int mo, .int ow, .int gr, .int nl, .int tl, .int mk]))] H := hP
    have hD : va_D A [(h0, .inr (2, [.ref a1, .ref a2, .int x, .int y, .int 0, .int si, .int se, .int mo, .int ow, .int gr, .int nl, .int tl, .int mk]))] := hD
    refine lv_aload_n hx hb d_Found_begin_23 rfl (lv_at hl 0 rfl) ?_
    refine lv_iload_n hx hb d_Found_begin_24 rfl (lv_at hl 3 rfl) ?_
    refine va_put (D := D) (ci := 2) (v := .int z) (ty := .boolean) (C := "DiscMaker$Found") (T := F_Found) (N := 13) hx hb ht9 in_Found t_Found t_Found_ok n_Found hown hK hP hD hS 0 rfl rfl 12 (by decide) (ht9 _ k1251) (fun _ h9 => h9) rfl (by decide +kernel) (i_narZ (by omega)) (i_fitZ (by omega)) (Nat.le_of_ble_eq_true rfl) d_Found_begin_25 (fun H locs hP hD hS => ?_)
    have hP : va_P D CL [(h0, .inr (2, [.ref a1, .ref a2, .int x, .int y, .int 0, .int si, .int se, .int mo, .int ow, .int gr, .int nl, .int tl, .int z]))] H := hP
    have hD : va_D A [(h0, .inr (2, [.ref a1, .ref a2, .int x, .int y, .int 0, .int si, .int se, .int mo, .int ow, .int gr, .int nl, .int tl, .int z]))] := hD
    refine lv_aload_n hx hb d_Found_begin_28 rfl (lv_at hl 0 rfl) ?_
    refine lv_iload hx hb d_Found_begin_29 (lv_at hl 4 rfl) ?_
    refine va_put (D := D) (ci := 2) (v := .int w) (ty := .int) (C := "DiscMaker$Found") (T := F_Found) (N := 13) hx hb ht9 in_Found t_Found t_Found_ok n_Found hown hK hP hD hS 0 rfl rfl 5 (by decide) (ht9 _ k1234) (fun _ h9 => h9) rfl (by decide +kernel) rfl rfl (Nat.le_of_ble_eq_true rfl) d_Found_begin_31 (fun H locs hP hD hS => ?_)
    have hP : va_P D CL [(h0, .inr (2, [.ref a1, .ref a2, .int x, .int y, .int 0, .int w, .int se, .int mo, .int ow, .int gr, .int nl, .int tl, .int z]))] H := hP
    have hD : va_D A [(h0, .inr (2, [.ref a1, .ref a2, .int x, .int y, .int 0, .int w, .int se, .int mo, .int ow, .int gr, .int nl, .int tl, .int z]))] := hD
    refine lv_aload_n hx hb d_Found_begin_34 rfl (lv_at hl 0 rfl) ?_
    refine lv_iload hx hb d_Found_begin_35 (lv_at hl 5 rfl) ?_
    refine va_put (D := D) (ci := 2) (v := .int v) (ty := .int) (C := "DiscMaker$Found") (T := F_Found) (N := 13) hx hb ht9 in_Found t_Found t_Found_ok n_Found hown hK hP hD hS 0 rfl rfl 6 (by decide) (ht9 _ k1237) (fun _ h9 => h9) rfl (by decide +kernel) rfl rfl (Nat.le_of_ble_eq_true rfl) d_Found_begin_37 (fun H locs hP hD hS => ?_)
    have hP : va_P D CL [(h0, .inr (2, [.ref a1, .ref a2, .int x, .int y, .int 0, .int w, .int v, .int mo, .int ow, .int gr, .int nl, .int tl, .int z]))] H := hP
    have hD : va_D A [(h0, .inr (2, [.ref a1, .ref a2, .int x, .int y, .int 0, .int w, .int v, .int mo, .int ow, .int gr, .int nl, .int tl, .int z]))] := hD
    refine lv_aload_n hx hb d_Found_begin_40 rfl (lv_at hl 0 rfl) ?_
    refine lv_iconst (v := 0) hx hb d_Found_begin_41 (by decide) ?_
    refine va_put (D := D) (ci := 2) (v := .int 0) (ty := .int) (C := "DiscMaker$Found") (T := F_Found) (N := 13) hx hb ht9 in_Found t_Found t_Found_ok n_Found hown hK hP hD hS 0 rfl rfl 7 (by decide) (ht9 _ k1240) (fun _ h9 => h9) rfl (by decide +kernel) rfl rfl (Nat.le_of_ble_eq_true rfl) d_Found_begin_42 (fun H locs hP hD hS => ?_)
    have hP : va_P D CL [(h0, .inr (2, [.ref a1, .ref a2, .int x, .int y, .int 0, .int w, .int v, .int 0, .int ow, .int gr, .int nl, .int tl, .int z]))] H := hP
    have hD : va_D A [(h0, .inr (2, [.ref a1, .ref a2, .int x, .int y, .int 0, .int w, .int v, .int 0, .int ow, .int gr, .int nl, .int tl, .int z]))] := hD
    refine lv_aload_n hx hb d_Found_begin_45 rfl (lv_at hl 0 rfl) ?_
    refine lv_iconst (v := 0) hx hb d_Found_begin_46 (by decide) ?_
    refine va_put (D := D) (ci := 2) (v := .int 0) (ty := .int) (C := "DiscMaker$Found") (T := F_Found) (N := 13) hx hb ht9 in_Found t_Found t_Found_ok n_Found hown hK hP hD hS 0 rfl rfl 8 (by decide) (ht9 _ k1242) (fun _ h9 => h9) rfl (by decide +kernel) rfl rfl (Nat.le_of_ble_eq_true rfl) d_Found_begin_47 (fun H locs hP hD hS => ?_)
    have hP : va_P D CL [(h0, .inr (2, [.ref a1, .ref a2, .int x, .int y, .int 0, .int w, .int v, .int 0, .int 0, .int gr, .int nl, .int tl, .int z]))] H := hP
    have hD : va_D A [(h0, .inr (2, [.ref a1, .ref a2, .int x, .int y, .int 0, .int w, .int v, .int 0, .int 0, .int gr, .int nl, .int tl, .int z]))] := hD
    refine lv_aload_n hx hb d_Found_begin_50 rfl (lv_at hl 0 rfl) ?_
    refine lv_iconst (v := 0) hx hb d_Found_begin_51 (by decide) ?_
    refine va_put (D := D) (ci := 2) (v := .int 0) (ty := .int) (C := "DiscMaker$Found") (T := F_Found) (N := 13) hx hb ht9 in_Found t_Found t_Found_ok n_Found hown hK hP hD hS 0 rfl rfl 9 (by decide) (ht9 _ k1244) (fun _ h9 => h9) rfl (by decide +kernel) rfl rfl (Nat.le_of_ble_eq_true rfl) d_Found_begin_52 (fun H locs hP hD hS => ?_)
    have hP : va_P D CL [(h0, .inr (2, [.ref a1, .ref a2, .int x, .int y, .int 0, .int w, .int v, .int 0, .int 0, .int 0, .int nl, .int tl, .int z]))] H := hP
    have hD : va_D A [(h0, .inr (2, [.ref a1, .ref a2, .int x, .int y, .int 0, .int w, .int v, .int 0, .int 0, .int 0, .int nl, .int tl, .int z]))] := hD
    refine lv_aload_n hx hb d_Found_begin_55 rfl (lv_at hl 0 rfl) ?_
    refine lv_iconst (v := 0) hx hb d_Found_begin_56 (by decide) ?_
    refine va_put (D := D) (ci := 2) (v := .int 0) (ty := .int) (C := "DiscMaker$Found") (T := F_Found) (N := 13) hx hb ht9 in_Found t_Found t_Found_ok n_Found hown hK hP hD hS 0 rfl rfl 10 (by decide) (ht9 _ k1246) (fun _ h9 => h9) rfl (by decide +kernel) rfl rfl (Nat.le_of_ble_eq_true rfl) d_Found_begin_57 (fun H locs hP hD hS => ?_)
    have hP : va_P D CL [(h0, .inr (2, [.ref a1, .ref a2, .int x, .int y, .int 0, .int w, .int v, .int 0, .int 0, .int 0, .int 0, .int tl, .int z]))] H := hP
    have hD : va_D A [(h0, .inr (2, [.ref a1, .ref a2, .int x, .int y, .int 0, .int w, .int v, .int 0, .int 0, .int 0, .int 0, .int tl, .int z]))] := hD
    refine lv_aload_n hx hb d_Found_begin_60 rfl (lv_at hl 0 rfl) ?_
    refine lv_iconst (v := 0) hx hb d_Found_begin_61 (by decide) ?_
    refine va_put (D := D) (ci := 2) (v := .int 0) (ty := .int) (C := "DiscMaker$Found") (T := F_Found) (N := 13) hx hb ht9 in_Found t_Found t_Found_ok n_Found hown hK hP hD hS 0 rfl rfl 11 (by decide) (ht9 _ k1249) (fun _ h9 => h9) rfl (by decide +kernel) rfl rfl (Nat.le_of_ble_eq_true rfl) d_Found_begin_62 (fun H locs hP hD hS => ?_)
    have hP : va_P D CL [(h0, .inr (2, [.ref a1, .ref a2, .int x, .int y, .int 0, .int w, .int v, .int 0, .int 0, .int 0, .int 0, .int 0, .int z]))] H := hP
    have hD : va_D A [(h0, .inr (2, [.ref a1, .ref a2, .int x, .int y, .int 0, .int w, .int v, .int 0, .int 0, .int 0, .int 0, .int 0, .int z]))] := hD
    have hP9 := hP.sub (ws' := [(h0, .inr (2, [.ref a1, .ref a2, .int x, .int y, .int 0, .int w, .int v, .int 0, .int 0, .int 0, .int 0, .int 0, .int z]))]) [0] rfl
    have hD9 := hD.sub (ws' := [(h0, .inr (2, [.ref a1, .ref a2, .int x, .int y, .int 0, .int w, .int v, .int 0, .int 0, .int 0, .int 0, .int 0, .int z]))]) [0] (by decide +kernel) rfl
    exact W.vret hx hb hr (fun t ht hW => ⟨⟨0, rfl, (by (try dsimp only); first | assumption | omega | trivial), by rw [ht]; exact hP9, hD9⟩, hS.F ht⟩) hS.2.2 d_Found_begin_65

theorem d_Found_addToName_0 : decode b_Found_addToName 0 = .ok (.aload_n 0, 1) := by decide +kernel
theorem d_Found_addToName_1 : decode b_Found_addToName 1 = .ok (.getfield 47, 3) := by decide +kernel
theorem d_Found_addToName_4 : decode b_Found_addToName 4 = .ok (.aload_n 0, 1) := by decide +kernel
theorem d_Found_addToName_5 : decode b_Found_addToName 5 = .ok (.getfield 9, 3) := by decide +kernel
theorem d_Found_addToName_8 : decode b_Found_addToName 8 = .ok (.arraylength, 1) := by decide +kernel
theorem d_Found_addToName_9 : decode b_Found_addToName 9 = .ok (.if_icmp .ge 14, 3) := by decide +kernel
theorem d_Found_addToName_12 : decode b_Found_addToName 12 = .ok (.aload_n 0, 1) := by decide +kernel
theorem d_Found_addToName_13 : decode b_Found_addToName 13 = .ok (.getfield 9, 3) := by decide +kernel
theorem d_Found_addToName_16 : decode b_Found_addToName 16 = .ok (.aload_n 0, 1) := by decide +kernel
theorem d_Found_addToName_17 : decode b_Found_addToName 17 = .ok (.getfield 47, 3) := by decide +kernel
theorem d_Found_addToName_20 : decode b_Found_addToName 20 = .ok (.iload_n 1, 1) := by decide +kernel
theorem d_Found_addToName_21 : decode b_Found_addToName 21 = .ok (.i2b, 1) := by decide +kernel
theorem d_Found_addToName_22 : decode b_Found_addToName 22 = .ok (.bastore, 1) := by decide +kernel
theorem d_Found_addToName_23 : decode b_Found_addToName 23 = .ok (.aload_n 0, 1) := by decide +kernel
theorem d_Found_addToName_24 : decode b_Found_addToName 24 = .ok (.dup, 1) := by decide +kernel
theorem d_Found_addToName_25 : decode b_Found_addToName 25 = .ok (.getfield 47, 3) := by decide +kernel
theorem d_Found_addToName_28 : decode b_Found_addToName 28 = .ok (.iconst 1, 1) := by decide +kernel
theorem d_Found_addToName_29 : decode b_Found_addToName 29 = .ok (.iadd, 1) := by decide +kernel
theorem d_Found_addToName_30 : decode b_Found_addToName 30 = .ok (.putfield 47, 3) := by decide +kernel
theorem d_Found_addToName_33 : decode b_Found_addToName 33 = .ok (.return_, 1) := by decide +kernel
set_option maxHeartbeats 4000000 in
set_option maxRecDepth 100000 in
theorem c3_addToName (l : Launch) (D : va_G) (cB cI cJ cZ cN cF : ClassId) (sz : Nat) (h0 : Nat) (a1 : Nat) (a2 : Nat) (pa : Int32) (de : Int32) (so : Int32) (si : Int32) (se : Int32) (mo : Int32) (ow : Int32) (gr : Int32) (nl : Int32) (tl : Int32) (mk : Int32) (f1 : Nat → Int32) (x : Int32) (hl0 : 0 ≤ nl.toInt ∧ nl.toInt ≤ 2000000000) : Met l y_Found_addToName w_Found_addToName ({ frames := 0, cells := 0, slots := 0, locals := 0 }) (va_Pc [.ref h0, .int x] (fun U => U.heap.size = sz ∧ va_P D CL [(h0, .inr (2, [.ref a1, .ref a2, .int pa, .int de, .int so, .int si, .int se, .int mo, .int ow, .int gr, .int nl, .int tl, .int mk])), (a1, .inl (cB, 60, .inl f1))] U.heap ∧ va_K D CL (TY cB cI cJ cZ cN cF) U ∧ NN U ∧ va_D (fun _ => True) [(h0, .inr (2, [.ref a1, .ref a2, .int pa, .int de, .int so, .int si, .int se, .int mo, .int ow, .int gr, .int nl, .int tl, .int mk])), (a1, .inl (cB, 60, .inl f1))])) (va_Qv (fun (u : Int32 × (Nat → Int32)) => match u with | (l2, g) => (l2.toInt = nl.toInt + 1)) (fun (u : Int32 × (Nat → Int32)) (t : State) => match u with | (l2, g) => va_P D CL [(h0, .inr (2, [.ref a1, .ref a2, .int pa, .int de, .int so, .int si, .int se, .int mo, .int ow, .int gr, .int l2, .int tl, .int mk])), (a1, .inl (cB, 60, .inl g))] t.heap ∧ va_D (va_A [(h0, .inr (2, [.ref a1, .ref a2, .int pa, .int de, .int so, .int si, .int se, .int mo, .int ow, .int gr, .int nl, .int tl, .int mk])), (a1, .inl (cB, 60, .inl f1))] sz) [(h0, .inr (2, [.ref a1, .ref a2, .int pa, .int de, .int so, .int si, .int se, .int mo, .int ow, .int gr, .int l2, .int tl, .int mk])), (a1, .inl (cB, 60, .inl g))]) (va_A [(h0, .inr (2, [.ref a1, .ref a2, .int pa, .int de, .int so, .int si, .int se, .int mo, .int ow, .int gr, .int nl, .int tl, .int mk])), (a1, .inl (cB, 60, .inl f1))] sz)) 0 0 (va_A [(h0, .inr (2, [.ref a1, .ref a2, .int pa, .int de, .int so, .int si, .int se, .int mo, .int ow, .int gr, .int nl, .int tl, .int mk])), (a1, .inl (cB, 60, .inl f1))] sz) := by
  refine Met.ofW (cc := b_Found_addToName) (maxL := 2) (ret := none) (by decide +kernel) rfl ?_
  intro p e s m args below meth c s₁ B hml hv
  obtain ⟨rfl, hsz, hP, hK, hN, hD0⟩ := hv
  have hx := B.exec
  have hb := B.bytes
  have hr := B.returns
  have hts := atoms_spec (ws := w_Found_addToName) B.pre
  have ht9 := fun (w : Cond) (h : w ∈ lw_g) => hts w (List.mem_cons_of_mem _ h)
  have hown : s.vm.findClass "DiscMaker$Found" = some m.cls := findClass_of_methodNamed B.named
  have hlocks := B.notSynchronized
  subst hsz
  have hD := hD0.self (sz := s.heap.size)
  generalize hAe : va_A [(h0, .inr (2, [.ref a1, .ref a2, .int pa, .int de, .int so, .int si, .int se, .int mo, .int ow, .int gr, .int nl, .int tl, .int mk])), (a1, .inl (cB, 60, .inl f1))] s.heap.size = A at hD ⊢
  have hA : ∀ q : Nat, s.heap.size ≤ q → A q := fun q h => by rw [← hAe]; exact Or.inr h
  have hS : va_S A s.heap s.heap [] := va_S.rf
  have hP : va_P D CL [(h0, .inr (2, [.ref a1, .ref a2, .int pa, .int de, .int so, .int si, .int se, .int mo, .int ow, .int gr, .int nl, .int tl, .int mk])), (a1, .inl (cB, 60, .inl f1))] s.heap := hP
  have hl := lv_entry [.ref h0, .int x] (n := 2) (Nat.le_of_ble_eq_true rfl)
  rw [lg_entry_eq]
  generalize (lg_sl [.ref h0, .int x] ++ List.replicate (2 - (lg_sl [.ref h0, .int x]).length) Slot.unset).toArray = ls at hl ⊢
  have hl : lv_has ls 2 [(0, .ref h0), (1, .int x)] := hl
  have L_m1 : ((-1) : Int32).toInt = (-1) := by decide
  have L_0 : (0 : Int32).toInt = 0 := by decide
  have L_1 : (1 : Int32).toInt = 1 := by decide
  refine lv_aload_n hx hb d_Found_addToName_0 rfl (lv_at hl 0 rfl) ?_
  refine va_get (D := D) (ci := 2) (v := .int nl) (C := "DiscMaker$Found") (T := F_Found) (N := 13) hx hb ht9 in_Found hown hK hP 0 rfl rfl 10 (by decide) (ht9 _ k1246) (fun _ h9 => h9) rfl d_Found_addToName_1 ?_
  refine lv_aload_n hx hb d_Found_addToName_4 rfl (lv_at hl 0 rfl) ?_
  refine va_get (D := D) (ci := 2) (v := .ref a1) (C := "DiscMaker$Found") (T := F_Found) (N := 13) hx hb ht9 in_Found hown hK hP 0 rfl rfl 0 (by decide) (ht9 _ k1223) (fun _ h9 => h9) rfl d_Found_addToName_5 ?_
  refine va_alen (v := 60) hx hb hK hP 1 0 rfl rfl rfl d_Found_addToName_8 ?_
  have L_60 : (60 : Int32).toInt = 60 := by decide
  refine lv_icmp_ge (tgt := 23) hx hb d_Found_addToName_9 (by decide) (fun h_9 => ?_) (fun h_9 => ?_)
  · skip
    have g9_6 : 60 ≤ nl.toInt := (i_le (by decide) rfl).mp h_9
    refine lv_aload_n hx hb d_Found_addToName_23 rfl (lv_at hl 0 rfl) ?_
    refine lv_dup hx hb d_Found_addToName_24 rfl ?_
    refine va_get (D := D) (ci := 2) (v := .int nl) (C := "DiscMaker$Found") (T := F_Found) (N := 13) hx hb ht9 in_Found hown hK hP 0 rfl rfl 10 (by decide) (ht9 _ k1246) (fun _ h9 => h9) rfl d_Found_addToName_25 ?_
    refine lv_iconst (v := 1) hx hb d_Found_addToName_28 (by decide) ?_
    refine lv_iadd hx hb d_Found_addToName_29 ?_
    refine lv_topi (fun v1 e_v1 => ?_)
    have t_v1 : v1.toInt = nl.toInt + 1 := by rw [e_v1]; exact i_add rfl (by decide) (by omega) (by omega)
    refine va_put (D := D) (ci := 2) (v := .int v1) (ty := .int) (C := "DiscMaker$Found") (T := F_Found) (N := 13) hx hb ht9 in_Found t_Found t_Found_ok n_Found hown hK hP hD hS 0 rfl rfl 10 (by decide) (ht9 _ k1246) (fun _ h9 => h9) rfl (by decide +kernel) rfl rfl (Nat.le_of_ble_eq_true rfl) d_Found_addToName_30 (fun H locs hP hD hS => ?_)
    have hP : va_P D CL [(h0, .inr (2, [.ref a1, .ref a2, .int pa, .int de, .int so, .int si, .int se, .int mo, .int ow, .int gr, .int v1, .int tl, .int mk])), (a1, .inl (cB, 60, .inl f1))] H := hP
    have hD : va_D A [(h0, .inr (2, [.ref a1, .ref a2, .int pa, .int de, .int so, .int si, .int se, .int mo, .int ow, .int gr, .int v1, .int tl, .int mk])), (a1, .inl (cB, 60, .inl f1))] := hD
    have hP9 := hP.sub (ws' := [(h0, .inr (2, [.ref a1, .ref a2, .int pa, .int de, .int so, .int si, .int se, .int mo, .int ow, .int gr, .int v1, .int tl, .int mk])), (a1, .inl (cB, 60, .inl f1))]) [0, 1] rfl
    have hD9 := hD.sub (ws' := [(h0, .inr (2, [.ref a1, .ref a2, .int pa, .int de, .int so, .int si, .int se, .int mo, .int ow, .int gr, .int v1, .int tl, .int mk])), (a1, .inl (cB, 60, .inl f1))]) [0, 1] (by decide +kernel) rfl
    exact W.vret hx hb hr (fun t ht hW => ⟨⟨(v1, f1), rfl, (by (try dsimp only); first | assumption | omega | trivial), by rw [ht]; exact hP9, hD9⟩, hS.F ht⟩) hS.2.2 d_Found_addToName_33
  · skip
    have g9_6 : ¬ 60 ≤ nl.toInt := fun h8 => h_9 ((i_le (by decide) rfl).mpr h8)
    refine lv_aload_n hx hb d_Found_addToName_12 rfl (lv_at hl 0 rfl) ?_
    refine va_get (D := D) (ci := 2) (v := .ref a1) (C := "DiscMaker$Found") (T := F_Found) (N := 13) hx hb ht9 in_Found hown hK hP 0 rfl rfl 0 (by decide) (ht9 _ k1223) (fun _ h9 => h9) rfl d_Found_addToName_13 ?_
    refine lv_aload_n hx hb d_Found_addToName_16 rfl (lv_at hl 0 rfl) ?_
    refine va_get (D := D) (ci := 2) (v := .int nl) (C := "DiscMaker$Found") (T := F_Found) (N := 13) hx hb ht9 in_Found hown hK hP 0 rfl rfl 10 (by decide) (ht9 _ k1246) (fun _ h9 => h9) rfl d_Found_addToName_17 ?_
    refine lv_iload_n hx hb d_Found_addToName_20 rfl (lv_at hl 1 rfl) ?_
    refine lv_i2b hx hb d_Found_addToName_21 rfl ?_
    refine lv_topi (fun v2 e_v2 => ?_)
    have t_v2 : (-128) ≤ v2.toInt ∧ v2.toInt ≤ 127 := by rw [e_v2]; exact i_b _
    refine zq_bast hx hb hK hP hD hS 1 0 rfl rfl (vp_in_iff.mpr ⟨by omega, by omega⟩) d_Found_addToName_22 (fun fz3 e_fz3 H locs hP hD hS => ?_)
    have hP : va_P D CL [(h0, .inr (2, [.ref a1, .ref a2, .int pa, .int de, .int so, .int si, .int se, .int mo, .int ow, .int gr, .int nl, .int tl, .int mk])), (a1, .inl (cB, 60, .inl fz3))] H := hP
    have hD : va_D A [(h0, .inr (2, [.ref a1, .ref a2, .int pa, .int de, .int so, .int si, .int se, .int mo, .int ow, .int gr, .int nl, .int tl, .int mk])), (a1, .inl (cB, 60, .inl fz3))] := hD
    refine lv_aload_n hx hb d_Found_addToName_23 rfl (lv_at hl 0 rfl) ?_
    refine lv_dup hx hb d_Found_addToName_24 rfl ?_
    refine va_get (D := D) (ci := 2) (v := .int nl) (C := "DiscMaker$Found") (T := F_Found) (N := 13) hx hb ht9 in_Found hown hK hP 0 rfl rfl 10 (by decide) (ht9 _ k1246) (fun _ h9 => h9) rfl d_Found_addToName_25 ?_
    refine lv_iconst (v := 1) hx hb d_Found_addToName_28 (by decide) ?_
    refine lv_iadd hx hb d_Found_addToName_29 ?_
    refine lv_topi (fun v4 e_v4 => ?_)
    have t_v4 : v4.toInt = nl.toInt + 1 := by rw [e_v4]; exact i_add rfl (by decide) (by omega) (by omega)
    refine va_put (D := D) (ci := 2) (v := .int v4) (ty := .int) (C := "DiscMaker$Found") (T := F_Found) (N := 13) hx hb ht9 in_Found t_Found t_Found_ok n_Found hown hK hP hD hS 0 rfl rfl 10 (by decide) (ht9 _ k1246) (fun _ h9 => h9) rfl (by decide +kernel) rfl rfl (Nat.le_of_ble_eq_true rfl) d_Found_addToName_30 (fun H locs hP hD hS => ?_)
    have hP : va_P D CL [(h0, .inr (2, [.ref a1, .ref a2, .int pa, .int de, .int so, .int si, .int se, .int mo, .int ow, .int gr, .int v4, .int tl, .int mk])), (a1, .inl (cB, 60, .inl fz3))] H := hP
    have hD : va_D A [(h0, .inr (2, [.ref a1, .ref a2, .int pa, .int de, .int so, .int si, .int se, .int mo, .int ow, .int gr, .int v4, .int tl, .int mk])), (a1, .inl (cB, 60, .inl fz3))] := hD
    have hP9 := hP.sub (ws' := [(h0, .inr (2, [.ref a1, .ref a2, .int pa, .int de, .int so, .int si, .int se, .int mo, .int ow, .int gr, .int v4, .int tl, .int mk])), (a1, .inl (cB, 60, .inl fz3))]) [0, 1] rfl
    have hD9 := hD.sub (ws' := [(h0, .inr (2, [.ref a1, .ref a2, .int pa, .int de, .int so, .int si, .int se, .int mo, .int ow, .int gr, .int v4, .int tl, .int mk])), (a1, .inl (cB, 60, .inl fz3))]) [0, 1] (by decide +kernel) rfl
    exact W.vret hx hb hr (fun t ht hW => ⟨⟨(v4, fz3), rfl, (by (try dsimp only); first | assumption | omega | trivial), by rw [ht]; exact hP9, hD9⟩, hS.F ht⟩) hS.2.2 d_Found_addToName_33

theorem d_Found_isNameTooLong_0 : decode b_Found_isNameTooLong 0 = .ok (.aload_n 0, 1) := by decide +kernel
theorem d_Found_isNameTooLong_1 : decode b_Found_isNameTooLong 1 = .ok (.getfield 47, 3) := by decide +kernel
theorem d_Found_isNameTooLong_4 : decode b_Found_isNameTooLong 4 = .ok (.aload_n 0, 1) := by decide +kernel
theorem d_Found_isNameTooLong_5 : decode b_Found_isNameTooLong 5 = .ok (.getfield 9, 3) := by decide +kernel
theorem d_Found_isNameTooLong_8 : decode b_Found_isNameTooLong 8 = .ok (.arraylength, 1) := by decide +kernel
theorem d_Found_isNameTooLong_9 : decode b_Found_isNameTooLong 9 = .ok (.if_icmp .le 7, 3) := by decide +kernel
theorem d_Found_isNameTooLong_12 : decode b_Found_isNameTooLong 12 = .ok (.iconst 1, 1) := by decide +kernel
theorem d_Found_isNameTooLong_13 : decode b_Found_isNameTooLong 13 = .ok (.goto 4, 3) := by decide +kernel
theorem d_Found_isNameTooLong_16 : decode b_Found_isNameTooLong 16 = .ok (.iconst 0, 1) := by decide +kernel
theorem d_Found_isNameTooLong_17 : decode b_Found_isNameTooLong 17 = .ok (.ireturn, 1) := by decide +kernel
set_option maxHeartbeats 4000000 in
set_option maxRecDepth 100000 in
theorem c3_isNameTooLong (l : Launch) (D : va_G) (cB cI cJ cZ cN cF : ClassId) (sz : Nat) (h0 : Nat) (a1 : Nat) (a2 : Nat) (pa : Int32) (de : Int32) (so : Int32) (si : Int32) (se : Int32) (mo : Int32) (ow : Int32) (gr : Int32) (nl : Int32) (tl : Int32) (mk : Int32) (f1 : Nat → Int32) : Met l y_Found_isNameTooLong w_Found_isNameTooLong ({ frames := 0, cells := 0, slots := 0, locals := 0 }) (va_Pc [.ref h0] (fun U => U.heap.size = sz ∧ va_P D CL [(h0, .inr (2, [.ref a1, .ref a2, .int pa, .int de, .int so, .int si, .int se, .int mo, .int ow, .int gr, .int nl, .int tl, .int mk])), (a1, .inl (cB, 60, .inl f1))] U.heap ∧ va_K D CL (TY cB cI cJ cZ cN cF) U ∧ NN U ∧ va_D (fun _ => True) [(h0, .inr (2, [.ref a1, .ref a2, .int pa, .int de, .int so, .int si, .int se, .int mo, .int ow, .int gr, .int nl, .int tl, .int mk])), (a1, .inl (cB, 60, .inl f1))])) (va_Qi (fun (r : Int32) (u : Unit) => (0 ≤ r.toInt ∧ r.toInt ≤ 1) ∧ (r.toInt = 0 → nl.toInt ≤ 60)) (fun (u : Unit) (t : State) => match u with | () => va_P D CL [(h0, .inr (2, [.ref a1, .ref a2, .int pa, .int de, .int so, .int si, .int se, .int mo, .int ow, .int gr, .int nl, .int tl, .int mk])), (a1, .inl (cB, 60, .inl f1))] t.heap ∧ va_D (va_A [(h0, .inr (2, [.ref a1, .ref a2, .int pa, .int de, .int so, .int si, .int se, .int mo, .int ow, .int gr, .int nl, .int tl, .int mk])), (a1, .inl (cB, 60, .inl f1))] sz) [(h0, .inr (2, [.ref a1, .ref a2, .int pa, .int de, .int so, .int si, .int se, .int mo, .int ow, .int gr, .int nl, .int tl, .int mk])), (a1, .inl (cB, 60, .inl f1))]) (va_A [(h0, .inr (2, [.ref a1, .ref a2, .int pa, .int de, .int so, .int si, .int se, .int mo, .int ow, .int gr, .int nl, .int tl, .int mk])), (a1, .inl (cB, 60, .inl f1))] sz)) 0 0 (va_A [(h0, .inr (2, [.ref a1, .ref a2, .int pa, .int de, .int so, .int si, .int se, .int mo, .int ow, .int gr, .int nl, .int tl, .int mk])), (a1, .inl (cB, 60, .inl f1))] sz) := by
  refine Met.ofW (cc := b_Found_isNameTooLong) (maxL := 1) (ret := some .boolean) (by decide +kernel) rfl ?_
  intro p e s m args below meth c s₁ B hml hv
  obtain ⟨rfl, hsz, hP, hK, hN, hD0⟩ := hv
  have hx := B.exec
  have hb := B.bytes
  have hr := B.returns
  have hts := atoms_spec (ws := w_Found_isNameTooLong) B.pre
  have ht9 := fun (w : Cond) (h : w ∈ lw_g) => hts w (List.mem_cons_of_mem _ h)
  have hown : s.vm.findClass "DiscMaker$Found" = some m.cls := findClass_of_methodNamed B.named
  have hlocks := B.notSynchronized
  subst hsz
  have hD := hD0.self (sz := s.heap.size)
  generalize hAe : va_A [(h0, .inr (2, [.ref a1, .ref a2, .int pa, .int de, .int so, .int si, .int se, .int mo, .int ow, .int gr, .int nl, .int tl, .int mk])), (a1, .inl (cB, 60, .inl f1))] s.heap.size = A at hD ⊢
  have hA : ∀ q : Nat, s.heap.size ≤ q → A q := fun q h => by rw [← hAe]; exact Or.inr h
  have hS : va_S A s.heap s.heap [] := va_S.rf
  have hP : va_P D CL [(h0, .inr (2, [.ref a1, .ref a2, .int pa, .int de, .int so, .int si, .int se, .int mo, .int ow, .int gr, .int nl, .int tl, .int mk])), (a1, .inl (cB, 60, .inl f1))] s.heap := hP
  have hl := lv_entry [.ref h0] (n := 1) (Nat.le_of_ble_eq_true rfl)
  rw [lg_entry_eq]
  generalize (lg_sl [.ref h0] ++ List.replicate (1 - (lg_sl [.ref h0]).length) Slot.unset).toArray = ls at hl ⊢
  have hl : lv_has ls 1 [(0, .ref h0)] := hl
  have L_m1 : ((-1) : Int32).toInt = (-1) := by decide
  have L_0 : (0 : Int32).toInt = 0 := by decide
  have L_1 : (1 : Int32).toInt = 1 := by decide
  refine lv_aload_n hx hb d_Found_isNameTooLong_0 rfl (lv_at hl 0 rfl) ?_
  refine va_get (D := D) (ci := 2) (v := .int nl) (C := "DiscMaker$Found") (T := F_Found) (N := 13) hx hb ht9 in_Found hown hK hP 0 rfl rfl 10 (by decide) (ht9 _ k1246) (fun _ h9 => h9) rfl d_Found_isNameTooLong_1 ?_
  refine lv_aload_n hx hb d_Found_isNameTooLong_4 rfl (lv_at hl 0 rfl) ?_
  refine va_get (D := D) (ci := 2) (v := .ref a1) (C := "DiscMaker$Found") (T := F_Found) (N := 13) hx hb ht9 in_Found hown hK hP 0 rfl rfl 0 (by decide) (ht9 _ k1223) (fun _ h9 => h9) rfl d_Found_isNameTooLong_5 ?_
  refine va_alen (v := 60) hx hb hK hP 1 0 rfl rfl rfl d_Found_isNameTooLong_8 ?_
  have L_60 : (60 : Int32).toInt = 60 := by decide
  refine lv_icmp_le (tgt := 16) hx hb d_Found_isNameTooLong_9 (by decide) (fun h_9 => ?_) (fun h_9 => ?_)
  · skip
    have g9_6 : nl.toInt ≤ 60 := (i_le rfl (by decide)).mp h_9
    refine lv_iconst (v := 0) hx hb d_Found_isNameTooLong_16 (by decide) ?_
    have hP9 := hP.sub (ws' := [(h0, .inr (2, [.ref a1, .ref a2, .int pa, .int de, .int so, .int si, .int se, .int mo, .int ow, .int gr, .int nl, .int tl, .int mk])), (a1, .inl (cB, 60, .inl f1))]) [0, 1] rfl
    have hD9 := hD.sub (ws' := [(h0, .inr (2, [.ref a1, .ref a2, .int pa, .int de, .int so, .int si, .int se, .int mo, .int ow, .int gr, .int nl, .int tl, .int mk])), (a1, .inl (cB, 60, .inl f1))]) [0, 1] (by decide +kernel) rfl
    exact W.zret (v := 0) hx hb hr (by first | rfl | decide | exact i_narZ (by omega)) (fun t ht hW => ⟨⟨0, (), rfl, ⟨(by (try dsimp only); first | assumption | omega | trivial), (by (try dsimp only); intro h7; omega)⟩, by rw [ht]; exact hP9, hD9⟩, hS.F ht⟩) hS.2.2 d_Found_isNameTooLong_17
  · skip
    have g9_6 : ¬ nl.toInt ≤ 60 := fun h8 => h_9 ((i_le rfl (by decide)).mpr h8)
    refine lv_iconst (v := 1) hx hb d_Found_isNameTooLong_12 (by decide) ?_
    refine lv_goto (tgt := 17) hx hb d_Found_isNameTooLong_13 (by decide) ?_
    have hP9 := hP.sub (ws' := [(h0, .inr (2, [.ref a1, .ref a2, .int pa, .int de, .int so, .int si, .int se, .int mo, .int ow, .int gr, .int nl, .int tl, .int mk])), (a1, .inl (cB, 60, .inl f1))]) [0, 1] rfl
    have hD9 := hD.sub (ws' := [(h0, .inr (2, [.ref a1, .ref a2, .int pa, .int de, .int so, .int si, .int se, .int mo, .int ow, .int gr, .int nl, .int tl, .int mk])), (a1, .inl (cB, 60, .inl f1))]) [0, 1] (by decide +kernel) rfl
    exact W.zret (v := 1) hx hb hr (by first | rfl | decide | exact i_narZ (by omega)) (fun t ht hW => ⟨⟨1, (), rfl, ⟨(by (try dsimp only); first | assumption | omega | trivial), (by (try dsimp only); intro h7; omega)⟩, by rw [ht]; exact hP9, hD9⟩, hS.F ht⟩) hS.2.2 d_Found_isNameTooLong_17

theorem d_Found_addToTarget_0 : decode b_Found_addToTarget 0 = .ok (.aload_n 0, 1) := by decide +kernel
theorem d_Found_addToTarget_1 : decode b_Found_addToTarget 1 = .ok (.getfield 50, 3) := by decide +kernel
theorem d_Found_addToTarget_4 : decode b_Found_addToTarget 4 = .ok (.aload_n 0, 1) := by decide +kernel
theorem d_Found_addToTarget_5 : decode b_Found_addToTarget 5 = .ok (.getfield 15, 3) := by decide +kernel
theorem d_Found_addToTarget_8 : decode b_Found_addToTarget 8 = .ok (.arraylength, 1) := by decide +kernel
theorem d_Found_addToTarget_9 : decode b_Found_addToTarget 9 = .ok (.if_icmp .ge 14, 3) := by decide +kernel
theorem d_Found_addToTarget_12 : decode b_Found_addToTarget 12 = .ok (.aload_n 0, 1) := by decide +kernel
theorem d_Found_addToTarget_13 : decode b_Found_addToTarget 13 = .ok (.getfield 15, 3) := by decide +kernel
theorem d_Found_addToTarget_16 : decode b_Found_addToTarget 16 = .ok (.aload_n 0, 1) := by decide +kernel
theorem d_Found_addToTarget_17 : decode b_Found_addToTarget 17 = .ok (.getfield 50, 3) := by decide +kernel
theorem d_Found_addToTarget_20 : decode b_Found_addToTarget 20 = .ok (.iload_n 1, 1) := by decide +kernel
theorem d_Found_addToTarget_21 : decode b_Found_addToTarget 21 = .ok (.i2b, 1) := by decide +kernel
theorem d_Found_addToTarget_22 : decode b_Found_addToTarget 22 = .ok (.bastore, 1) := by decide +kernel
theorem d_Found_addToTarget_23 : decode b_Found_addToTarget 23 = .ok (.aload_n 0, 1) := by decide +kernel
theorem d_Found_addToTarget_24 : decode b_Found_addToTarget 24 = .ok (.dup, 1) := by decide +kernel
theorem d_Found_addToTarget_25 : decode b_Found_addToTarget 25 = .ok (.getfield 50, 3) := by decide +kernel
theorem d_Found_addToTarget_28 : decode b_Found_addToTarget 28 = .ok (.iconst 1, 1) := by decide +kernel
theorem d_Found_addToTarget_29 : decode b_Found_addToTarget 29 = .ok (.iadd, 1) := by decide +kernel
theorem d_Found_addToTarget_30 : decode b_Found_addToTarget 30 = .ok (.putfield 50, 3) := by decide +kernel
theorem d_Found_addToTarget_33 : decode b_Found_addToTarget 33 = .ok (.return_, 1) := by decide +kernel
set_option maxHeartbeats 4000000 in
set_option maxRecDepth 100000 in
theorem c3_addToTarget (l : Launch) (D : va_G) (cB cI cJ cZ cN cF : ClassId) (sz : Nat) (h0 : Nat) (a1 : Nat) (a2 : Nat) (pa : Int32) (de : Int32) (so : Int32) (si : Int32) (se : Int32) (mo : Int32) (ow : Int32) (gr : Int32) (nl : Int32) (tl : Int32) (mk : Int32) (f2 : Nat → Int32) (x : Int32) (hl0 : 0 ≤ tl.toInt ∧ tl.toInt ≤ 2000000000) : Met l y_Found_addToTarget w_Found_addToTarget ({ frames := 0, cells := 0, slots := 0, locals := 0 }) (va_Pc [.ref h0, .int x] (fun U => U.heap.size = sz ∧ va_P D CL [(h0, .inr (2, [.ref a1, .ref a2, .int pa, .int de, .int so, .int si, .int se, .int mo, .int ow, .int gr, .int nl, .int tl, .int mk])), (a2, .inl (cB, 400, .inl f2))] U.heap ∧ va_K D CL (TY cB cI cJ cZ cN cF) U ∧ NN U ∧ va_D (fun _ => True) [(h0, .inr (2, [.ref a1, .ref a2, .int pa, .int de, .int so, .int si, .int se, .int mo, .int ow, .int gr, .int nl, .int tl, .int mk])), (a2, .inl (cB, 400, .inl f2))])) (va_Qv (fun (u : Int32 × (Nat → Int32)) => match u with | (l2, g) => (l2.toInt = tl.toInt + 1)) (fun (u : Int32 × (Nat → Int32)) (t : State) => match u with | (l2, g) => va_P D CL [(h0, .inr (2, [.ref a1, .ref a2, .int pa, .int de, .int so, .int si, .int se, .int mo, .int ow, .int gr, .int nl, .int l2, .int mk])), (a2, .inl (cB, 400, .inl g))] t.heap ∧ va_D (va_A [(h0, .inr (2, [.ref a1, .ref a2, .int pa, .int de, .int so, .int si, .int se, .int mo, .int ow, .int gr, .int nl, .int tl, .int mk])), (a2, .inl (cB, 400, .inl f2))] sz) [(h0, .inr (2, [.ref a1, .ref a2, .int pa, .int de, .int so, .int si, .int se, .int mo, .int ow, .int gr, .int nl, .int l2, .int mk])), (a2, .inl (cB, 400, .inl g))]) (va_A [(h0, .inr (2, [.ref a1, .ref a2, .int pa, .int de, .int so, .int si, .int se, .int mo, .int ow, .int gr, .int nl, .int tl, .int mk])), (a2, .inl (cB, 400, .inl f2))] sz)) 0 0 (va_A [(h0, .inr (2, [.ref a1, .ref a2, .int pa, .int de, .int so, .int si, .int se, .int mo, .int ow, .int gr, .int nl, .int tl, .int mk])), (a2, .inl (cB, 400, .inl f2))] sz) := by
  refine Met.ofW (cc := b_Found_addToTarget) (maxL := 2) (ret := none) (by decide +kernel) rfl ?_
  intro p e s m args below meth c s₁ B hml hv
  obtain ⟨rfl, hsz, hP, hK, hN, hD0⟩ := hv
  have hx := B.exec
  have hb := B.bytes
  have hr := B.returns
  have hts := atoms_spec (ws := w_Found_addToTarget) B.pre
  have ht9 := fun (w : Cond) (h : w ∈ lw_g) => hts w (List.mem_cons_of_mem _ h)
  have hown : s.vm.findClass "DiscMaker$Found" = some m.cls := findClass_of_methodNamed B.named
  have hlocks := B.notSynchronized
  subst hsz
  have hD := hD0.self (sz := s.heap.size)
  generalize hAe : va_A [(h0, .inr (2, [.ref a1, .ref a2, .int pa, .int de, .int so, .int si, .int se, .int mo, .int ow, .int gr, .int nl, .int tl, .int mk])), (a2, .inl (cB, 400, .inl f2))] s.heap.size = A at hD ⊢
  have hA : ∀ q : Nat, s.heap.size ≤ q → A q := fun q h => by rw [← hAe]; exact Or.inr h
  have hS : va_S A s.heap s.heap [] := va_S.rf
  have hP : va_P D CL [(h0, .inr (2, [.ref a1, .ref a2, .int pa, .int de, .int so, .int si, .int se, .int mo, .int ow, .int gr, .int nl, .int tl, .int mk])), (a2, .inl (cB, 400, .inl f2))] s.heap := hP
  have hl := lv_entry [.ref h0, .int x] (n := 2) (Nat.le_of_ble_eq_true rfl)
  rw [lg_entry_eq]
  generalize (lg_sl [.ref h0, .int x] ++ List.replicate (2 - (lg_sl [.ref h0, .int x]).length) Slot.unset).toArray = ls at hl ⊢
  have hl : lv_has ls 2 [(0, .ref h0), (1, .int x)] := hl
  have L_m1 : ((-1) : Int32).toInt = (-1) := by decide
  have L_0 : (0 : Int32).toInt = 0 := by decide
  have L_1 : (1 : Int32).toInt = 1 := by decide
  refine lv_aload_n hx hb d_Found_addToTarget_0 rfl (lv_at hl 0 rfl) ?_
  refine va_get (D := D) (ci := 2) (v := .int tl) (C := "DiscMaker$Found") (T := F_Found) (N := 13) hx hb ht9 in_Found hown hK hP 0 rfl rfl 11 (by decide) (ht9 _ k1249) (fun _ h9 => h9) rfl d_Found_addToTarget_1 ?_
  refine lv_aload_n hx hb d_Found_addToTarget_4 rfl (lv_at hl 0 rfl) ?_
  refine va_get (D := D) (ci := 2) (v := .ref a2) (C := "DiscMaker$Found") (T := F_Found) (N := 13) hx hb ht9 in_Found hown hK hP 0 rfl rfl 1 (by decide) (ht9 _ k1225) (fun _ h9 => h9) rfl d_Found_addToTarget_5 ?_
  refine va_alen (v := 400) hx hb hK hP 1 0 rfl rfl rfl d_Found_addToTarget_8 ?_
  have L_400 : (400 : Int32).toInt = 400 := by decide
  refine lv_icmp_ge (tgt := 23) hx hb d_Found_addToTarget_9 (by decide) (fun h_9 => ?_) (fun h_9 => ?_)
  · skip
    have g9_6 : 400 ≤ tl.toInt := (i_le (by decide) rfl).mp h_9
    refine lv_aload_n hx hb d_Found_addToTarget_23 rfl (lv_at hl 0 rfl) ?_
    refine lv_dup hx hb d_Found_addToTarget_24 rfl ?_
    refine va_get (D := D) (ci := 2) (v := .int tl) (C := "DiscMaker$Found") (T := F_Found) (N := 13) hx hb ht9 in_Found hown hK hP 0 rfl rfl 11 (by decide) (ht9 _ k1249) (fun _ h9 => h9) rfl d_Found_addToTarget_25 ?_
    refine lv_iconst (v := 1) hx hb d_Found_addToTarget_28 (by decide) ?_
    refine lv_iadd hx hb d_Found_addToTarget_29 ?_
    refine lv_topi (fun v1 e_v1 => ?_)
    have t_v1 : v1.toInt = tl.toInt + 1 := by rw [e_v1]; exact i_add rfl (by decide) (by omega) (by omega)
    refine va_put (D := D) (ci := 2) (v := .int v1) (ty := .int) (C := "DiscMaker$Found") (T := F_Found) (N := 13) hx hb ht9 in_Found t_Found t_Found_ok n_Found hown hK hP hD hS 0 rfl rfl 11 (by decide) (ht9 _ k1249) (fun _ h9 => h9) rfl (by decide +kernel) rfl rfl (Nat.le_of_ble_eq_true rfl) d_Found_addToTarget_30 (fun H locs hP hD hS => ?_)
    have hP : va_P D CL [(h0, .inr (2, [.ref a1, .ref a2, .int pa, .int de, .int so, .int si, .int se, .int mo, .int ow, .int gr, .int nl, .int v1, .int mk])), (a2, .inl (cB, 400, .inl f2))] H := hP
    have hD : va_D A [(h0, .inr (2, [.ref a1, .ref a2, .int pa, .int de, .int so, .int si, .int se, .int mo, .int ow, .int gr, .int nl, .int v1, .int mk])), (a2, .inl (cB, 400, .inl f2))] := hD
    have hP9 := hP.sub (ws' := [(h0, .inr (2, [.ref a1, .ref a2, .int pa, .int de, .int so, .int si, .int se, .int mo, .int ow, .int gr, .int nl, .int v1, .int mk])), (a2, .inl (cB, 400, .inl f2))]) [0, 1] rfl
    have hD9 := hD.sub (ws' := [(h0, .inr (2, [.ref a1, .ref a2, .int pa, .int de, .int so, .int si, .int se, .int mo, .int ow, .int gr, .int nl, .int v1, .int mk])), (a2, .inl (cB, 400, .inl f2))]) [0, 1] (by decide +kernel) rfl
    exact W.vret hx hb hr (fun t ht hW => ⟨⟨(v1, f2), rfl, (by (try dsimp only); first | assumption | omega | trivial), by rw [ht]; exact hP9, hD9⟩, hS.F ht⟩) hS.2.2 d_Found_addToTarget_33
  · skip
    have g9_6 : ¬ 400 ≤ tl.toInt := fun h8 => h_9 ((i_le (by decide) rfl).mpr h8)
    refine lv_aload_n hx hb d_Found_addToTarget_12 rfl (lv_at hl 0 rfl) ?_
    refine va_get (D := D) (ci := 2) (v := .ref a2) (C := "DiscMaker$Found") (T := F_Found) (N := 13) hx hb ht9 in_Found hown hK hP 0 rfl rfl 1 (by decide) (ht9 _ k1225) (fun _ h9 => h9) rfl d_Found_addToTarget_13 ?_
    refine lv_aload_n hx hb d_Found_addToTarget_16 rfl (lv_at hl 0 rfl) ?_
    refine va_get (D := D) (ci := 2) (v := .int tl) (C := "DiscMaker$Found") (T := F_Found) (N := 13) hx hb ht9 in_Found hown hK hP 0 rfl rfl 11 (by decide) (ht9 _ k1249) (fun _ h9 => h9) rfl d_Found_addToTarget_17 ?_
    refine lv_iload_n hx hb d_Found_addToTarget_20 rfl (lv_at hl 1 rfl) ?_
    refine lv_i2b hx hb d_Found_addToTarget_21 rfl ?_
    refine lv_topi (fun v2 e_v2 => ?_)
    have t_v2 : (-128) ≤ v2.toInt ∧ v2.toInt ≤ 127 := by rw [e_v2]; exact i_b _
    refine zq_bast hx hb hK hP hD hS 1 0 rfl rfl (vp_in_iff.mpr ⟨by omega, by omega⟩) d_Found_addToTarget_22 (fun fz3 e_fz3 H locs hP hD hS => ?_)
    have hP : va_P D CL [(h0, .inr (2, [.ref a1, .ref a2, .int pa, .int de, .int so, .int si, .int se, .int mo, .int ow, .int gr, .int nl, .int tl, .int mk])), (a2, .inl (cB, 400, .inl fz3))] H := hP
    have hD : va_D A [(h0, .inr (2, [.ref a1, .ref a2, .int pa, .int de, .int so, .int si, .int se, .int mo, .int ow, .int gr, .int nl, .int tl, .int mk])), (a2, .inl (cB, 400, .inl fz3))] := hD
    refine lv_aload_n hx hb d_Found_addToTarget_23 rfl (lv_at hl 0 rfl) ?_
    refine lv_dup hx hb d_Found_addToTarget_24 rfl ?_
    refine va_get (D := D) (ci := 2) (v := .int tl) (C := "DiscMaker$Found") (T := F_Found) (N := 13) hx hb ht9 in_Found hown hK hP 0 rfl rfl 11 (by decide) (ht9 _ k1249) (fun _ h9 => h9) rfl d_Found_addToTarget_25 ?_
    refine lv_iconst (v := 1) hx hb d_Found_addToTarget_28 (by decide) ?_
    refine lv_iadd hx hb d_Found_addToTarget_29 ?_
    refine lv_topi (fun v4 e_v4 => ?_)
    have t_v4 : v4.toInt = tl.toInt + 1 := by rw [e_v4]; exact i_add rfl (by decide) (by omega) (by omega)
    refine va_put (D := D) (ci := 2) (v := .int v4) (ty := .int) (C := "DiscMaker$Found") (T := F_Found) (N := 13) hx hb ht9 in_Found t_Found t_Found_ok n_Found hown hK hP hD hS 0 rfl rfl 11 (by decide) (ht9 _ k1249) (fun _ h9 => h9) rfl (by decide +kernel) rfl rfl (Nat.le_of_ble_eq_true rfl) d_Found_addToTarget_30 (fun H locs hP hD hS => ?_)
    have hP : va_P D CL [(h0, .inr (2, [.ref a1, .ref a2, .int pa, .int de, .int so, .int si, .int se, .int mo, .int ow, .int gr, .int nl, .int v4, .int mk])), (a2, .inl (cB, 400, .inl fz3))] H := hP
    have hD : va_D A [(h0, .inr (2, [.ref a1, .ref a2, .int pa, .int de, .int so, .int si, .int se, .int mo, .int ow, .int gr, .int nl, .int v4, .int mk])), (a2, .inl (cB, 400, .inl fz3))] := hD
    have hP9 := hP.sub (ws' := [(h0, .inr (2, [.ref a1, .ref a2, .int pa, .int de, .int so, .int si, .int se, .int mo, .int ow, .int gr, .int nl, .int v4, .int mk])), (a2, .inl (cB, 400, .inl fz3))]) [0, 1] rfl
    have hD9 := hD.sub (ws' := [(h0, .inr (2, [.ref a1, .ref a2, .int pa, .int de, .int so, .int si, .int se, .int mo, .int ow, .int gr, .int nl, .int v4, .int mk])), (a2, .inl (cB, 400, .inl fz3))]) [0, 1] (by decide +kernel) rfl
    exact W.vret hx hb hr (fun t ht hW => ⟨⟨(v4, fz3), rfl, (by (try dsimp only); first | assumption | omega | trivial), by rw [ht]; exact hP9, hD9⟩, hS.F ht⟩) hS.2.2 d_Found_addToTarget_33

theorem d_Found_isTargetTooLong_0 : decode b_Found_isTargetTooLong 0 = .ok (.aload_n 0, 1) := by decide +kernel
theorem d_Found_isTargetTooLong_1 : decode b_Found_isTargetTooLong 1 = .ok (.getfield 50, 3) := by decide +kernel
theorem d_Found_isTargetTooLong_4 : decode b_Found_isTargetTooLong 4 = .ok (.aload_n 0, 1) := by decide +kernel
theorem d_Found_isTargetTooLong_5 : decode b_Found_isTargetTooLong 5 = .ok (.getfield 15, 3) := by decide +kernel
theorem d_Found_isTargetTooLong_8 : decode b_Found_isTargetTooLong 8 = .ok (.arraylength, 1) := by decide +kernel
theorem d_Found_isTargetTooLong_9 : decode b_Found_isTargetTooLong 9 = .ok (.if_icmp .le 7, 3) := by decide +kernel
theorem d_Found_isTargetTooLong_12 : decode b_Found_isTargetTooLong 12 = .ok (.iconst 1, 1) := by decide +kernel
theorem d_Found_isTargetTooLong_13 : decode b_Found_isTargetTooLong 13 = .ok (.goto 4, 3) := by decide +kernel
theorem d_Found_isTargetTooLong_16 : decode b_Found_isTargetTooLong 16 = .ok (.iconst 0, 1) := by decide +kernel
theorem d_Found_isTargetTooLong_17 : decode b_Found_isTargetTooLong 17 = .ok (.ireturn, 1) := by decide +kernel
set_option maxHeartbeats 4000000 in
set_option maxRecDepth 100000 in
theorem c3_isTargetTooLong (l : Launch) (D : va_G) (cB cI cJ cZ cN cF : ClassId) (sz : Nat) (h0 : Nat) (a1 : Nat) (a2 : Nat) (pa : Int32) (de : Int32) (so : Int32) (si : Int32) (se : Int32) (mo : Int32) (ow : Int32) (gr : Int32) (nl : Int32) (tl : Int32) (mk : Int32) (f2 : Nat → Int32) : Met l y_Found_isTargetTooLong w_Found_isTargetTooLong ({ frames := 0, cells := 0, slots := 0, locals := 0 }) (va_Pc [.ref h0] (fun U => U.heap.size = sz ∧ va_P D CL [(h0, .inr (2, [.ref a1, .ref a2, .int pa, .int de, .int so, .int si, .int se, .int mo, .int ow, .int gr, .int nl, .int tl, .int mk])), (a2, .inl (cB, 400, .inl f2))] U.heap ∧ va_K D CL (TY cB cI cJ cZ cN cF) U ∧ NN U ∧ va_D (fun _ => True) [(h0, .inr (2, [.ref a1, .ref a2, .int pa, .int de, .int so, .int si, .int se, .int mo, .int ow, .int gr, .int nl, .int tl, .int mk])), (a2, .inl (cB, 400, .inl f2))])) (va_Qi (fun (r : Int32) (u : Unit) => (0 ≤ r.toInt ∧ r.toInt ≤ 1) ∧ (r.toInt = 0 → tl.toInt ≤ 400)) (fun (u : Unit) (t : State) => match u with | () => va_P D CL [(h0, .inr (2, [.ref a1, .ref a2, .int pa, .int de, .int so, .int si, .int se, .int mo, .int ow, .int gr, .int nl, .int tl, .int mk])), (a2, .inl (cB, 400, .inl f2))] t.heap ∧ va_D (va_A [(h0, .inr (2, [.ref a1, .ref a2, .int pa, .int de, .int so, .int si, .int se, .int mo, .int ow, .int gr, .int nl, .int tl, .int mk])), (a2, .inl (cB, 400, .inl f2))] sz) [(h0, .inr (2, [.ref a1, .ref a2, .int pa, .int de, .int so, .int si, .int se, .int mo, .int ow, .int gr, .int nl, .int tl, .int mk])), (a2, .inl (cB, 400, .inl f2))]) (va_A [(h0, .inr (2, [.ref a1, .ref a2, .int pa, .int de, .int so, .int si, .int se, .int mo, .int ow, .int gr, .int nl, .int tl, .int mk])), (a2, .inl (cB, 400, .inl f2))] sz)) 0 0 (va_A [(h0, .inr (2, [.ref a1, .ref a2, .int pa, .int de, .int so, .int si, .int se, .int mo, .int ow, .int gr, .int nl, .int tl, .int mk])), (a2, .inl (cB, 400, .inl f2))] sz) := by
  refine Met.ofW (cc := b_Found_isTargetTooLong) (maxL := 1) (ret := some .boolean) (by decide +kernel) rfl ?_
  intro p e s m args below meth c s₁ B hml hv
  obtain ⟨rfl, hsz, hP, hK, hN, hD0⟩ := hv
  have hx := B.exec
  have hb := B.bytes
  have hr := B.returns
  have hts := atoms_spec (ws := w_Found_isTargetTooLong) B.pre
  have ht9 := fun (w : Cond) (h : w ∈ lw_g) => hts w (List.mem_cons_of_mem _ h)
  have hown : s.vm.findClass "DiscMaker$Found" = some m.cls := findClass_of_methodNamed B.named
  have hlocks := B.notSynchronized
  subst hsz
  have hD := hD0.self (sz := s.heap.size)
  generalize hAe : va_A [(h0, .inr (2, [.ref a1, .ref a2, .int pa, .int de, .int so, .int si, .int se, .int mo, .int ow, .int gr, .int nl, .int tl, .int mk])), (a2, .inl (cB, 400, .inl f2))] s.heap.size = A at hD ⊢
  have hA : ∀ q : Nat, s.heap.size ≤ q → A q := fun q h => by rw [← hAe]; exact Or.inr h
  have hS : va_S A s.heap s.heap [] := va_S.rf
  have hP : va_P D CL [(h0, .inr (2, [.ref a1, .ref a2, .int pa, .int de, .int so, .int si, .int se, .int mo, .int ow, .int gr, .int nl, .int tl, .int mk])), (a2, .inl (cB, 400, .inl f2))] s.heap := hP
  have hl := lv_entry [.ref h0] (n := 1) (Nat.le_of_ble_eq_true rfl)
  rw [lg_entry_eq]
  generalize (lg_sl [.ref h0] ++ List.replicate (1 - (lg_sl [.ref h0]).length) Slot.unset).toArray = ls at hl ⊢
  have hl : lv_has ls 1 [(0, .ref h0)] := hl
  have L_m1 : ((-1) : Int32).toInt = (-1) := by decide
  have L_0 : (0 : Int32).toInt = 0 := by decide
  have L_1 : (1 : Int32).toInt = 1 := by decide
  refine lv_aload_n hx hb d_Found_isTargetTooLong_0 rfl (lv_at hl 0 rfl) ?_
  refine va_get (D := D) (ci := 2) (v := .int tl) (C := "DiscMaker$Found") (T := F_Found) (N := 13) hx hb ht9 in_Found hown hK hP 0 rfl rfl 11 (by decide) (ht9 _ k1249) (fun _ h9 => h9) rfl d_Found_isTargetTooLong_1 ?_
  refine lv_aload_n hx hb d_Found_isTargetTooLong_4 rfl (lv_at hl 0 rfl) ?_
  refine va_get (D := D) (ci := 2) (v := .ref a2) (C := "DiscMaker$Found") (T := F_Found) (N := 13) hx hb ht9 in_Found hown hK hP 0 rfl rfl 1 (by decide) (ht9 _ k1225) (fun _ h9 => h9) rfl d_Found_isTargetTooLong_5 ?_
  refine va_alen (v := 400) hx hb hK hP 1 0 rfl rfl rfl d_Found_isTargetTooLong_8 ?_
  have L_400 : (400 : Int32).toInt = 400 := by decide
  refine lv_icmp_le (tgt := 16) hx hb d_Found_isTargetTooLong_9 (by decide) (fun h_9 => ?_) (fun h_9 => ?_)
  · skip
    have g9_6 : tl.toInt ≤ 400 := (i_le rfl (by decide)).mp h_9
    refine lv_iconst (v := 0) hx hb d_Found_isTargetTooLong_16 (by decide) ?_
    have hP9 := hP.sub (ws' := [(h0, .inr (2, [.ref a1, .ref a2, .int pa, .int de, .int so, .int si, .int se, .int mo, .int ow, .int gr, .int nl, .int tl, .int mk])), (a2, .inl (cB, 400, .inl f2))]) [0, 1] rfl
    have hD9 := hD.sub (ws' := [(h0, .inr (2, [.ref a1, .ref a2, .int pa, .int de, .int so, .int si, .int se, .int mo, .int ow, .int gr, .int nl, .int tl, .int mk])), (a2, .inl (cB, 400, .inl f2))]) [0, 1] (by decide +kernel) rfl
    exact W.zret (v := 0) hx hb hr (by first | rfl | decide | exact i_narZ (by omega)) (fun t ht hW => ⟨⟨0, (), rfl, ⟨(by (try dsimp only); first | assumption | omega | trivial), (by (try dsimp only); intro h7; omega)⟩, by rw [ht]; exact hP9, hD9⟩, hS.F ht⟩) hS.2.2 d_Found_isTargetTooLong_17
  · skip
    have g9_6 : ¬ tl.toInt ≤ 400 := fun h8 => h_9 ((i_le rfl (by decide)).mpr h8)
    refine lv_iconst (v := 1) hx hb d_Found_isTargetTooLong_12 (by decide) ?_
    refine lv_goto (tgt := 17) hx hb d_Found_isTargetTooLong_13 (by decide) ?_
    have hP9 := hP.sub (ws' := [(h0, .inr (2, [.ref a1, .ref a2, .int pa, .int de, .int so, .int si, .int se, .int mo, .int ow, .int gr, .int nl, .int tl, .int mk])), (a2, .inl (cB, 400, .inl f2))]) [0, 1] rfl
    have hD9 := hD.sub (ws' := [(h0, .inr (2, [.ref a1, .ref a2, .int pa, .int de, .int so, .int si, .int se, .int mo, .int ow, .int gr, .int nl, .int tl, .int mk])), (a2, .inl (cB, 400, .inl f2))]) [0, 1] (by decide +kernel) rfl
    exact W.zret (v := 1) hx hb hr (by first | rfl | decide | exact i_narZ (by omega)) (fun t ht hW => ⟨⟨1, (), rfl, ⟨(by (try dsimp only); first | assumption | omega | trivial), (by (try dsimp only); intro h7; omega)⟩, by rw [ht]; exact hP9, hD9⟩, hS.F ht⟩) hS.2.2 d_Found_isTargetTooLong_17

theorem d_Found_number_0 : decode b_Found_number 0 = .ok (.iload_n 1, 1) := by decide +kernel
theorem d_Found_number_1 : decode b_Found_number 1 = .ok (.tableswitch 87 0 7 #[47, 52, 57, 62, 67, 72, 77, 82], 47) := by decide +kernel
theorem d_Found_number_48 : decode b_Found_number 48 = .ok (.aload_n 0, 1) := by decide +kernel
theorem d_Found_number_49 : decode b_Found_number 49 = .ok (.getfield 18, 3) := by decide +kernel
theorem d_Found_number_52 : decode b_Found_number 52 = .ok (.ireturn, 1) := by decide +kernel
theorem d_Found_number_53 : decode b_Found_number 53 = .ok (.aload_n 0, 1) := by decide +kernel
theorem d_Found_number_54 : decode b_Found_number 54 = .ok (.getfield 25, 3) := by decide +kernel
theorem d_Found_number_57 : decode b_Found_number 57 = .ok (.ireturn, 1) := by decide +kernel
theorem d_Found_number_58 : decode b_Found_number 58 = .ok (.aload_n 0, 1) := by decide +kernel
theorem d_Found_number_59 : decode b_Found_number 59 = .ok (.getfield 32, 3) := by decide +kernel
theorem d_Found_number_62 : decode b_Found_number 62 = .ok (.ireturn, 1) := by decide +kernel
theorem d_Found_number_63 : decode b_Found_number 63 = .ok (.aload_n 0, 1) := by decide +kernel
theorem d_Found_number_64 : decode b_Found_number 64 = .ok (.getfield 35, 3) := by decide +kernel
theorem d_Found_number_67 : decode b_Found_number 67 = .ok (.ireturn, 1) := by decide +kernel
theorem d_Found_number_68 : decode b_Found_number 68 = .ok (.aload_n 0, 1) := by decide +kernel
theorem d_Found_number_69 : decode b_Found_number 69 = .ok (.getfield 38, 3) := by decide +kernel
theorem d_Found_number_72 : decode b_Found_number 72 = .ok (.ireturn, 1) := by decide +kernel
theorem d_Found_number_73 : decode b_Found_number 73 = .ok (.aload_n 0, 1) := by decide +kernel
theorem d_Found_number_74 : decode b_Found_number 74 = .ok (.getfield 41, 3) := by decide +kernel
theorem d_Found_number_77 : decode b_Found_number 77 = .ok (.ireturn, 1) := by decide +kernel
theorem d_Found_number_78 : decode b_Found_number 78 = .ok (.aload_n 0, 1) := by decide +kernel
theorem d_Found_number_79 : decode b_Found_number 79 = .ok (.getfield 44, 3) := by decide +kernel
theorem d_Found_number_82 : decode b_Found_number 82 = .ok (.ireturn, 1) := by decide +kernel
theorem d_Found_number_83 : decode b_Found_number 83 = .ok (.aload_n 0, 1) := by decide +kernel
theorem d_Found_number_84 : decode b_Found_number 84 = .ok (.getfield 47, 3) := by decide +kernel
theorem d_Found_number_87 : decode b_Found_number 87 = .ok (.ireturn, 1) := by decide +kernel
theorem d_Found_number_88 : decode b_Found_number 88 = .ok (.aload_n 0, 1) := by decide +kernel
theorem d_Found_number_89 : decode b_Found_number 89 = .ok (.getfield 50, 3) := by decide +kernel
theorem d_Found_number_92 : decode b_Found_number 92 = .ok (.ireturn, 1) := by decide +kernel
set_option maxHeartbeats 4000000 in
set_option maxRecDepth 100000 in
theorem c3_number (l : Launch) (D : va_G) (cB cI cJ cZ cN cF : ClassId) (sz : Nat) (h0 : Nat) (a1 : Nat) (a2 : Nat) (pa : Int32) (de : Int32) (so : Int32) (si : Int32) (se : Int32) (mo : Int32) (ow : Int32) (gr : Int32) (nl : Int32) (tl : Int32) (mk : Int32) (x : Int32) : Met l y_Found_number w_Found_number ({ frames := 0, cells := 0, slots := 0, locals := 0 }) (va_Pc [.ref h0, .int x] (fun U => U.heap.size = sz ∧ va_P D CL [(h0, .inr (2, [.ref a1, .ref a2, .int pa, .int de, .int so, .int si, .int se, .int mo, .int ow, .int gr, .int nl, .int tl, .int mk]))] U.heap ∧ va_K D CL (TY cB cI cJ cZ cN cF) U ∧ NN U ∧ va_D (fun _ => True) [(h0, .inr (2, [.ref a1, .ref a2, .int pa, .int de, .int so, .int si, .int se, .int mo, .int ow, .int gr, .int nl, .int tl, .int mk]))])) (va_Qi (fun (r : Int32) (u : Unit) => True) (fun (u : Unit) (t : State) => match u with | () => va_P D CL [(h0, .inr (2, [.ref a1, .ref a2, .int pa, .int de, .int so, .int si, .int se, .int mo, .int ow, .int gr, .int nl, .int tl, .int mk]))] t.heap ∧ va_D (va_A [(h0, .inr (2, [.ref a1, .ref a2, .int pa, .int de, .int so, .int si, .int se, .int mo, .int ow, .int gr, .int nl, .int tl, .int mk]))] sz) [(h0, .inr (2, [.ref a1, .ref a2, .int pa, .int de, .int so, .int si, .int se, .int mo, .int ow, .int gr, .int nl, .int tl, .int mk]))]) (va_A [(h0, .inr (2, [.ref a1, .ref a2, .int pa, .int de, .int so, .int si, .int se, .int mo, .int ow, .int gr, .int nl, .int tl, .int mk]))] sz)) 0 0 (va_A [(h0, .inr (2, [.ref a1, .ref a2, .int pa, .int de, .int so, .int si, .int se, .int mo, .int ow, .int gr, .int nl, .int tl, .int mk]))] sz) := by
  refine Met.ofW (cc := b_Found_number) (maxL := 2) (ret := some .int) (by decide +kernel) rfl ?_
  intro p e s m args below meth c s₁ B hml hv
  obtain ⟨rfl, hsz, hP, hK, hN, hD0⟩ := hv
  have hx := B.exec
  have hb := B.bytes
  have hr := B.returns
  have hts := atoms_spec (ws := w_Found_number) B.pre
  have ht9 := fun (w : Cond) (h : w ∈ lw_g) => hts w (List.mem_cons_of_mem _ h)
  have hown : s.vm.findClass "DiscMaker$Found" = some m.cls := findClass_of_methodNamed B.named
  have hlocks := B.notSynchronized
  subst hsz
  have hD := hD0.self (sz := s.heap.size)
  generalize hAe : va_A [(h0, .inr (2, [.ref a1, .ref a2, .int pa, .int de, .int so, .int si, .int se, .int mo, .int ow, .int gr, .int nl, .int tl, .int mk]))] s.heap.size = A at hD ⊢
  have hA : ∀ q : Nat, s.heap.size ≤ q → A q := fun q h => by rw [← hAe]; exact Or.inr h
  have hS : va_S A s.heap s.heap [] := va_S.rf
  have hP : va_P D CL [(h0, .inr (2, [.ref a1, .ref a2, .int pa, .int de, .int so, .int si, .int se, .int mo, .int ow, .int gr, .int nl, .int tl, .int mk]))] s.heap := hP
  have hl := lv_entry [.ref h0, .int x] (n := 2) (Nat.le_of_ble_eq_true rfl)
  rw [lg_entry_eq]
  generalize (lg_sl [.ref h0, .int x] ++ List.replicate (2 - (lg_sl [.ref h0, .int x]).length) Slot.unset).toArray = ls at hl ⊢
  have hl : lv_has ls 2 [(0, .ref h0), (1, .int x)] := hl
  have L_m1 : ((-1) : Int32).toInt = (-1) := by decide
  have L_0 : (0 : Int32).toInt = 0 := by decide
  have L_1 : (1 : Int32).toInt = 1 := by decide
  refine lv_iload_n hx hb d_Found_number_0 rfl (lv_at hl 1 rfl) ?_
  rcases (show x.toInt = 0 ∨ x.toInt = 1 ∨ x.toInt = 2 ∨ x.toInt = 3 ∨ x.toInt = 4 ∨ x.toInt = 5 ∨ x.toInt = 6 ∨ x.toInt = 7 ∨ (x.toInt < 0 ∨ 7 < x.toInt) by omega) with h_9 | h_9 | h_9 | h_9 | h_9 | h_9 | h_9 | h_9 | h_9
  · skip
    refine lv_tableIn (off := 47) (tgt := 48) hx hb d_Found_number_1 (by omega) (by omega) (by rw [h_9]; rfl) (by decide) ?_
    refine lv_aload_n hx hb d_Found_number_48 rfl (lv_at hl 0 rfl) ?_
    refine va_get (D := D) (ci := 2) (v := .int pa) (C := "DiscMaker$Found") (T := F_Found) (N := 13) hx hb ht9 in_Found hown hK hP 0 rfl rfl 2 (by decide) (ht9 _ k1227) (fun _ h9 => h9) rfl d_Found_number_49 ?_
    have hP9 := hP.sub (ws' := [(h0, .inr (2, [.ref a1, .ref a2, .int pa, .int de, .int so, .int si, .int se, .int mo, .int ow, .int gr, .int nl, .int tl, .int mk]))]) [0] rfl
    have hD9 := hD.sub (ws' := [(h0, .inr (2, [.ref a1, .ref a2, .int pa, .int de, .int so, .int si, .int se, .int mo, .int ow, .int gr, .int nl, .int tl, .int mk]))]) [0] (by decide +kernel) rfl
    exact W.iret (v := pa) hx hb hr (fun t ht hW => ⟨⟨pa, (), rfl, trivial, by rw [ht]; exact hP9, hD9⟩, hS.F ht⟩) hS.2.2 d_Found_number_52
  · skip
    refine lv_tableIn (off := 52) (tgt := 53) hx hb d_Found_number_1 (by omega) (by omega) (by rw [h_9]; rfl) (by decide) ?_
    refine lv_aload_n hx hb d_Found_number_53 rfl (lv_at hl 0 rfl) ?_
    refine va_get (D := D) (ci := 2) (v := .int so) (C := "DiscMaker$Found") (T := F_Found) (N := 13) hx hb ht9 in_Found hown hK hP 0 rfl rfl 4 (by decide) (ht9 _ k1230) (fun _ h9 => h9) rfl d_Found_number_54 ?_
    have hP9 := hP.sub (ws' := [(h0, .inr (2, [.ref a1, .ref a2, .int pa, .int de, .int so, .int si, .int se, .int mo, .int ow, .int gr, .int nl, .int tl, .int mk]))]) [0] rfl
    have hD9 := hD.sub (ws' := [(h0, .inr (2, [.ref a1, .ref a2, .int pa, .int de, .int so, .int si, .int se, .int mo, .int ow, .int gr, .int nl, .int tl, .int mk]))]) [0] (by decide +kernel) rfl
    exact W.iret (v := so) hx hb hr (fun t ht hW => ⟨⟨so, (), rfl, trivial, by rw [ht]; exact hP9, hD9⟩, hS.F ht⟩) hS.2.2 d_Found_number_57
  · skip
    refine lv_tableIn (off := 57) (tgt := 58) hx hb d_Found_number_1 (by omega) (by omega) (by rw [h_9]; rfl) (by decide) ?_
    refine lv_aload_n hx hb d_Found_number_58 rfl (lv_at hl 0 rfl) ?_
    refine va_get (D := D) (ci := 2) (v := .int si) (C := "DiscMaker$Found") (T := F_Found) (N := 13) hx hb ht9 in_Found hown hK hP 0 rfl rfl 5 (by decide) (ht9 _ k1234) (fun _ h9 => h9) rfl d_Found_number_59 ?_
    have hP9 := hP.sub (ws' := [(h0, .inr (2, [.ref a1, .ref a2, .int pa, .int de, .int so, .int si, .int se, .int mo, .int ow, .int gr, .int nl, .int tl, .int mk]))]) [0] rfl
    have hD9 := hD.sub (ws' := [(h0, .inr (2, [.ref a1, .ref a2, .int pa, .int de, .int so, .int si, .int se, .int mo, .int ow, .int gr, .int nl, .int tl, .int mk]))]) [0] (by decide +kernel) rfl
    exact W.iret (v := si) hx hb hr (fun t ht hW => ⟨⟨si, (), rfl, trivial, by rw [ht]; exact hP9, hD9⟩, hS.F ht⟩) hS.2.2 d_Found_number_62
  · skip
    refine lv_tableIn (off := 62) (tgt := 63) hx hb d_Found_number_1 (by omega) (by omega) (by rw [h_9]; rfl) (by decide) ?_
    refine lv_aload_n hx hb d_Found_number_63 rfl (lv_at hl 0 rfl) ?_
    refine va_get (D := D) (ci := 2) (v := .int se) (C := "DiscMaker$Found") (T := F_Found) (N := 13) hx hb ht9 in_Found hown hK hP 0 rfl rfl 6 (by decide) (ht9 _ k1237) (fun _ h9 => h9) rfl d_Found_number_64 ?_
    have hP9 := hP.sub (ws' := [(h0, .inr (2, [.ref a1, .ref a2, .int pa, .int de, .int so, .int si, .int se, .int mo, .int ow, .int gr, .int nl, .int tl, .int mk]))]) [0] rfl
    have hD9 := hD.sub (ws' := [(h0, .inr (2, [.ref a1, .ref a2, .int pa, .int de, .int so, .int si, .int se, .int mo, .int ow, .int gr, .int nl, .int tl, .int mk]))]) [0] (by decide +kernel) rfl
    exact W.iret (v := se) hx hb hr (fun t ht hW => ⟨⟨se, (), rfl, trivial, by rw [ht]; exact hP9, hD9⟩, hS.F ht⟩) hS.2.2 d_Found_number_67
  · skip
    refine lv_tableIn (off := 67) (tgt := 68) hx hb d_Found_number_1 (by omega) (by omega) (by rw [h_9]; rfl) (by decide) ?_
    refine lv_aload_n hx hb d_Found_number_68 rfl (lv_at hl 0 rfl) ?_
    refine va_get (D := D) (ci := 2) (v := .int mo) (C := "DiscMaker$Found") (T := F_Found) (N := 13) hx hb ht9 in_Found hown hK hP 0 rfl rfl 7 (by decide) (ht9 _ k1240) (fun _ h9 => h9) rfl d_Found_number_69 ?_
    have hP9 := hP.sub (ws' := [(h0, .inr (2, [.ref a1, .ref a2, .int pa, .int de, .int so, .int si, .int se, .int mo, .int ow, .int gr, .int nl, .int tl, .int mk]))]) [0] rfl
    have hD9 := hD.sub (ws' := [(h0, .inr (2, [.ref a1, .ref a2, .int pa, .int de, .int so, .int si, .int se, .int mo, .int ow, .int gr, .int nl, .int tl, .int mk]))]) [0] (by decide +kernel) rfl
    exact W.iret (v := mo) hx hb hr (fun t ht hW => ⟨⟨mo, (), rfl, trivial, by rw [ht]; exact hP9, hD9⟩, hS.F ht⟩) hS.2.2 d_Found_number_72
  · skip
    refine lv_tableIn (off := 72) (tgt := 73) hx hb d_Found_number_1 (by omega) (by omega) (by rw [h_9]; rfl) (by decide) ?_
    refine lv_aload_n hx hb d_Found_number_73 rfl (lv_at hl 0 rfl) ?_
    refine va_get (D := D) (ci := 2) (v := .int ow) (C := "DiscMaker$Found") (T := F_Found) (N := 13) hx hb ht9 in_Found hown hK hP 0 rfl rfl 8 (by decide) (ht9 _ k1242) (fun _ h9 => h9) rfl d_Found_number_74 ?_
    have hP9 := hP.sub (ws' := [(h0, .inr (2, [.ref a1, .ref a2, .int pa, .int de, .int so, .int si, .int se, .int mo, .int ow, .int gr, .int nl, .int tl, .int mk]))]) [0] rfl
    have hD9 := hD.sub (ws' := [(h0, .inr (2, [.ref a1, .ref a2, .int pa, .int de, .int so, .int si, .int se, .int mo, .int ow, .int gr, .int nl, .int tl, .int mk]))]) [0] (by decide +kernel) rfl
    exact W.iret (v := ow) hx hb hr (fun t ht hW => ⟨⟨ow, (), rfl, trivial, by rw [ht]; exact hP9, hD9⟩, hS.F ht⟩) hS.2.2 d_Found_number_77
  · skip
    refine lv_tableIn (off := 77) (tgt := 78) hx hb d_Found_number_1 (by omega) (by omega) (by rw [h_9]; rfl) (by decide) ?_
    refine lv_aload_n hx hb d_Found_number_78 rfl (lv_at hl 0 rfl) ?_
    refine va_get (D := D) (ci := 2) (v := .int gr) (C := "DiscMaker$Found") (T := F_Found) (N := 13) hx hb ht9 in_Found hown hK hP 0 rfl rfl 9 (by decide) (ht9 _ k1244) (fun _ h9 => h9) rfl d_Found_number_79 ?_
    have hP9 := hP.sub (ws' := [(h0, .inr (2, [.ref a1, .ref a2, .int pa, .int de, .int so, .int si, .int se, .int mo, .int ow, .int gr, .int nl, .int tl, .int mk]))]) [0] rfl
    have hD9 := hD.sub (ws' := [(h0, .inr (2, [.ref a1, .ref a2, .int pa, .int de, .int so, .int si, .int se, .int mo, .int ow, .int gr, .int nl, .int tl, .int mk]))]) [0] (by decide +kernel) rfl
    exact W.iret (v := gr) hx hb hr (fun t ht hW => ⟨⟨gr, (), rfl, trivial, by rw [ht]; exact hP9, hD9⟩, hS.F ht⟩) hS.2.2 d_Found_number_82
  · skip
    refine lv_tableIn (off := 82) (tgt := 83) hx hb d_Found_number_1 (by omega) (by omega) (by rw [h_9]; rfl) (by decide) ?_
    refine lv_aload_n hx hb d_Found_number_83 rfl (lv_at hl 0 rfl) ?_
    refine va_get (D := D) (ci := 2) (v := .int nl) (C := "DiscMaker$Found") (T := F_Found) (N := 13) hx hb ht9 in_Found hown hK hP 0 rfl rfl 10 (by decide) (ht9 _ k1246) (fun _ h9 => h9) rfl d_Found_number_84 ?_
    have hP9 := hP.sub (ws' := [(h0, .inr (2, [.ref a1, .ref a2, .int pa, .int de, .int so, .int si, .int se, .int mo, .int ow, .int gr, .int nl, .int tl, .int mk]))]) [0] rfl
    have hD9 := hD.sub (ws' := [(h0, .inr (2, [.ref a1, .ref a2, .int pa, .int de, .int so, .int si, .int se, .int mo, .int ow, .int gr, .int nl, .int tl, .int mk]))]) [0] (by decide +kernel) rfl
    exact W.iret (v := nl) hx hb hr (fun t ht hW => ⟨⟨nl, (), rfl, trivial, by rw [ht]; exact hP9, hD9⟩, hS.F ht⟩) hS.2.2 d_Found_number_87
  · skip
    refine lv_tableOut (tgt := 88) hx hb d_Found_number_1 h_9 (by decide) ?_
    refine lv_aload_n hx hb d_Found_number_88 rfl (lv_at hl 0 rfl) ?_
    refine va_get (D := D) (ci := 2) (v := .int tl) (C := "DiscMaker$Found") (T := F_Found) (N := 13) hx hb ht9 in_Found hown hK hP 0 rfl rfl 11 (by decide) (ht9 _ k1249) (fun _ h9 => h9) rfl d_Found_number_89 ?_
    have hP9 := hP.sub (ws' := [(h0, .inr (2, [.ref a1, .ref a2, .int pa, .int de, .int so, .int si, .int se, .int mo, .int ow, .int gr, .int nl, .int tl, .int mk]))]) [0] rfl
    have hD9 := hD.sub (ws' := [(h0, .inr (2, [.ref a1, .ref a2, .int pa, .int de, .int so, .int si, .int se, .int mo, .int ow, .int gr, .int nl, .int tl, .int mk]))]) [0] (by decide +kernel) rfl
    exact W.iret (v := tl) hx hb hr (fun t ht hW => ⟨⟨tl, (), rfl, trivial, by rw [ht]; exact hP9, hD9⟩, hS.F ht⟩) hS.2.2 d_Found_number_92
