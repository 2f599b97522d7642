theorem d_Text_addFour_0 : decode b_Text_addFour 0 = .ok (.bipush 24, 2) := by decide +kernel
theorem d_Text_addFour_2 : decode b_Text_addFour 2 = .ok (.istore_n 2, 1) := by decide +kernel
theorem d_Text_addFour_3 : decode b_Text_addFour 3 = .ok (.iload_n 2, 1) := by decide +kernel
theorem d_Text_addFour_4 : decode b_Text_addFour 4 = .ok (.ifCond .lt 32, 3) := by decide +kernel
theorem d_Text_addFour_7 : decode b_Text_addFour 7 = .ok (.aload_n 0, 1) := by decide +kernel
theorem d_Text_addFour_8 : decode b_Text_addFour 8 = .ok (.getfield 9, 3) := by decide +kernel
theorem d_Text_addFour_11 : decode b_Text_addFour 11 = .ok (.aload_n 0, 1) := by decide +kernel
theorem d_Text_addFour_12 : decode b_Text_addFour 12 = .ok (.getfield 15, 3) := by decide +kernel
theorem d_Text_addFour_15 : decode b_Text_addFour 15 = .ok (.iload_n 1, 1) := by decide +kernel
theorem d_Text_addFour_16 : decode b_Text_addFour 16 = .ok (.iload_n 2, 1) := by decide +kernel
theorem d_Text_addFour_17 : decode b_Text_addFour 17 = .ok (.ishr, 1) := by decide +kernel
theorem d_Text_addFour_18 : decode b_Text_addFour 18 = .ok (.i2b, 1) := by decide +kernel
theorem d_Text_addFour_19 : decode b_Text_addFour 19 = .ok (.bastore, 1) := by decide +kernel
theorem d_Text_addFour_20 : decode b_Text_addFour 20 = .ok (.aload_n 0, 1) := by decide +kernel
theorem d_Text_addFour_21 : decode b_Text_addFour 21 = .ok (.dup, 1) := by decide +kernel
theorem d_Text_addFour_22 : decode b_Text_addFour 22 = .ok (.getfield 15, 3) := by decide +kernel
theorem d_Text_addFour_25 : decode b_Text_addFour 25 = .ok (.iconst 1, 1) := by decide +kernel
theorem d_Text_addFour_26 : decode b_Text_addFour 26 = .ok (.iadd, 1) := by decide +kernel
theorem d_Text_addFour_27 : decode b_Text_addFour 27 = .ok (.putfield 15, 3) := by decide +kernel
theorem d_Text_addFour_30 : decode b_Text_addFour 30 = .ok (.iinc 2 (-8), 3) := by decide +kernel
theorem d_Text_addFour_33 : decode b_Text_addFour 33 = .ok (.goto (-30), 3) := by decide +kernel
theorem d_Text_addFour_36 : decode b_Text_addFour 36 = .ok (.return_, 1) := by decide +kernel
set_option maxHeartbeats 4000000 in
set_option maxRecDepth 100000 in
theorem c3_addFour (l : Launch) (D : va_G) (cB cI cJ cZ cN cF : ClassId) (sz : Nat) (h0 : Nat) (q : Nat) (L : Int32) (f : Nat → Int32) (x : Int32) (hL : 0 ≤ L.toInt ∧ L.toInt + 4 ≤ 400) (hB : Rg (-128) 127 400 f) : Met l y_Text_addFour w_Text_addFour ({ frames := 0, cells := 0, slots := 0, locals := 0 }) (va_Pc [.ref h0, .int x] (fun U => U.heap.size = sz ∧ va_P D CL [(h0, .inr (9, [.ref q, .int L])), (q, .inl (cB, 400, .inl f))] U.heap ∧ va_K D CL (TY cB cI cJ cZ cN cF) U ∧ NN U ∧ va_D (fun _ => True) [(h0, .inr (9, [.ref q, .int L])), (q, .inl (cB, 400, .inl f))])) (va_Qv (fun (u : Int32 × (Nat → Int32)) => match u with | (L2, g) => (L2.toInt = L.toInt + 4) ∧ (Rg (-128) 127 400 g) ∧ (T4 f g L.toNatClampNeg x)) (fun (u : Int32 × (Nat → Int32)) (t : State) => match u with | (L2, g) => va_P D CL [(h0, .inr (9, [.ref q, .int L2])), (q, .inl (cB, 400, .inl g))] t.heap ∧ va_D (va_A [(h0, .inr (9, [.ref q, .int L])), (q, .inl (cB, 400, .inl f))] sz) [(h0, .inr (9, [.ref q, .int L2])), (q, .inl (cB, 400, .inl g))]) (va_A [(h0, .inr (9, [.ref q, .int L])), (q, .inl (cB, 400, .inl f))] sz)) 0 0 (va_A [(h0, .inr (9, [.ref q, .int L])), (q, .inl (cB, 400, .inl f))] sz) := by
  refine Met.ofW (cc := b_Text_addFour) (maxL := 3) (ret := none) (by decide +kernel) rfl ?_
  intro p e s m args below meth c s₁ B hml hv
  obtain ⟨rfl, hsz, hP, hK, hN, hD0⟩ := hv
  have hx := B.exec
  have hb := B.bytes
  have hr := B.returns
  have hts := atoms_spec (ws := w_Text_addFour) B.pre
  have ht9 := fun (w : Cond) (h : w ∈ lw_g) => hts w (List.mem_cons_of_mem _ h)
  have hown : s.vm.findClass "DiscMaker$Text" = some m.cls := findClass_of_methodNamed B.named
  have hlocks := B.notSynchronized
  subst hsz
  have hD := hD0.self (sz := s.heap.size)
  generalize hAe : va_A [(h0, .inr (9, [.ref q, .int L])), (q, .inl (cB, 400, .inl f))] s.heap.size = A at hD ⊢
  have hA : ∀ q : Nat, s.heap.size ≤ q → A q := fun q h => by rw [← hAe]; exact Or.inr h
  have hS : va_S A s.heap s.heap [] := va_S.rf
  have hP : va_P D CL [(h0, .inr (9, [.ref q, .int L])), (q, .inl (cB, 400, .inl f))] s.heap := hP
  have hl := lv_entry [.ref h0, .int x] (n := 3) (Nat.le_of_ble_eq_true rfl)
  rw [lg_entry_eq]
  generalize (lg_sl [.ref h0, .int x] ++ List.replicate (3 - (lg_sl [.ref h0, .int x]).length) Slot.unset).toArray = ls at hl ⊢
  have hl : lv_has ls 3 [(0, .ref h0), (1, .int x)] := hl
  have L_m8 : ((-8) : Int32).toInt = (-8) := by decide
  have L_m1 : ((-1) : Int32).toInt = (-1) := by decide
  have L_0 : (0 : Int32).toInt = 0 := by decide
  have L_1 : (1 : Int32).toInt = 1 := by decide
  have L_8 : (8 : Int32).toInt = 8 := by decide
  have L_16 : (16 : Int32).toInt = 16 := by decide
  have L_24 : (24 : Int32).toInt = 24 := by decide
  refine lv_bipush (v := 24) hx hb d_Text_addFour_0 (by decide) ?_
  refine lv_istore_n hx hb d_Text_addFour_2 rfl hl (by decide) rfl (fun ls hl => ?_)
  have hl : lv_has ls 3 [(2, .int 24), (0, .ref h0), (1, .int x)] := hl
  refine lv_iload_n hx hb d_Text_addFour_3 rfl (lv_at hl 0 rfl) ?_
  refine lv_if_lt (tgt := 36) hx hb d_Text_addFour_4 (by decide) (fun h_9 => absurd h_9 (by decide)) (fun _ => ?_)
  refine lv_aload_n hx hb d_Text_addFour_7 rfl (lv_at hl 1 rfl) ?_
  refine va_get (D := D) (ci := 9) (v := .ref q) (C := "DiscMaker$Text") (T := F_Text) (N := 2) hx hb ht9 in_Text hown hK hP 0 rfl rfl 0 (by decide) (ht9 _ k157) (fun _ h9 => h9) rfl d_Text_addFour_8 ?_
  refine lv_aload_n hx hb d_Text_addFour_11 rfl (lv_at hl 1 rfl) ?_
  refine va_get (D := D) (ci := 9) (v := .int L) (C := "DiscMaker$Text") (T := F_Text) (N := 2) hx hb ht9 in_Text hown hK hP 0 rfl rfl 1 (by decide) (ht9 _ k158) (fun _ h9 => h9) rfl d_Text_addFour_12 ?_
  refine lv_iload_n hx hb d_Text_addFour_15 rfl (lv_at hl 2 rfl) ?_
  refine lv_iload_n hx hb d_Text_addFour_16 rfl (lv_at hl 0 rfl) ?_
  refine lv_ishr hx hb d_Text_addFour_17 ?_
  refine lv_topi (fun v1 e_v1 => ?_)
  have t_v1 : v1.toInt = x.toInt / 16777216 := by rw [e_v1]; exact i_shr (k := 24) rfl (by decide) (by decide)
  refine lv_i2b hx hb d_Text_addFour_18 rfl ?_
  refine lv_topi (fun v2 e_v2 => ?_)
  have t_v2 : (-128) ≤ v2.toInt ∧ v2.toInt ≤ 127 := by rw [e_v2]; exact i_b _
  refine zq_bast hx hb hK hP hD hS 1 0 rfl rfl (vp_in_iff.mpr ⟨by omega, by omega⟩) d_Text_addFour_19 (fun fz3 e_fz3 H locs hP hD hS => ?_)
  have hP : va_P D CL [(h0, .inr (9, [.ref q, .int L])), (q, .inl (cB, 400, .inl fz3))] H := hP
  have hD : va_D A [(h0, .inr (9, [.ref q, .int L])), (q, .inl (cB, 400, .inl fz3))] := hD
  have R_fz3 : Rg (-128) 127 400 fz3 := Rg_updB e_fz3 hB (by decide) (by decide)
  refine lv_aload_n hx hb d_Text_addFour_20 rfl (lv_at hl 1 rfl) ?_
  refine lv_dup hx hb d_Text_addFour_21 rfl ?_
  refine va_get (D := D) (ci := 9) (v := .int L) (C := "DiscMaker$Text") (T := F_Text) (N := 2) hx hb ht9 in_Text hown hK hP 0 rfl rfl 1 (by decide) (ht9 _ k158) (fun _ h9 => h9) rfl d_Text_addFour_22 ?_
  refine lv_iconst (v := 1) hx hb d_Text_addFour_25 (by decide) ?_
  refine lv_iadd hx hb d_Text_addFour_26 ?_
  refine lv_topi (fun v4 e_v4 => ?_)
  have t_v4 : v4.toInt = L.toInt + 1 := by rw [e_v4]; exact i_add rfl (by decide) (by omega) (by omega)
  refine va_put (D := D) (ci := 9) (v := .int v4) (ty := .int) (C := "DiscMaker$Text") (T := F_Text) (N := 2) hx hb ht9 in_Text t_Text t_Text_ok n_Text hown hK hP hD hS 0 rfl rfl 1 (by decide) (ht9 _ k158) (fun _ h9 => h9) rfl (by decide +kernel) rfl rfl (Nat.le_of_ble_eq_true rfl) d_Text_addFour_27 (fun H locs hP hD hS => ?_)
  have hP : va_P D CL [(h0, .inr (9, [.ref q, .int v4])), (q, .inl (cB, 400, .inl fz3))] H := hP
  have hD : va_D A [(h0, .inr (9, [.ref q, .int v4])), (q, .inl (cB, 400, .inl fz3))] := hD
  refine lv_iinc (v := 16) hx hb d_Text_addFour_30 hl (k := 0) rfl (by decide) (by decide +kernel) rfl (fun ls hl => ?_)
  have hl : lv_has ls 3 [(2, .int 16), (0, .ref h0), (1, .int x)] := hl
  refine lv_goto (tgt := 3) hx hb d_Text_addFour_33 (by decide) ?_
  refine lv_iload_n hx hb d_Text_addFour_3 rfl (lv_at hl 0 rfl) ?_
  refine lv_if_lt (tgt := 36) hx hb d_Text_addFour_4 (by decide) (fun h_9 => absurd h_9 (by decide)) (fun _ => ?_)
  refine lv_aload_n hx hb d_Text_addFour_7 rfl (lv_at hl 1 rfl) ?_
  refine va_get (D := D) (ci := 9) (v := .ref q) (C := "DiscMaker$Text") (T := F_Text) (N := 2) hx hb ht9 in_Text hown hK hP 0 rfl rfl 0 (by decide) (ht9 _ k157) (fun _ h9 => h9) rfl d_Text_addFour_8 ?_
  refine lv_aload_n hx hb d_Text_addFour_11 rfl (lv_at hl 1 rfl) ?_
  refine va_get (D := D) (ci := 9) (v := .int v4) (C := "DiscMaker$Text") (T := F_Text) (N := 2) hx hb ht9 in_Text hown hK hP 0 rfl rfl 1 (by decide) (ht9 _ k158) (fun _ h9 => h9) rfl d_Text_addFour_12 ?_
  refine lv_iload_n hx hb d_Text_addFour_15 rfl (lv_at hl 2 rfl) ?_
  refine lv_iload_n hx hb d_Text_addFour_16 rfl (lv_at hl 0 rfl) ?_
  refine lv_ishr hx hb d_Text_addFour_17 ?_
  refine lv_topi (fun v5 e_v5 => ?_)
  have t_v5 : v5.toInt = x.toInt / 65536 := by rw [e_v5]; exact i_shr (k := 16) rfl (by decide) (by decide)
  refine lv_i2b hx hb d_Text_addFour_18 rfl ?_
  refine lv_topi (fun v6 e_v6 => ?_)
  have t_v6 : (-128) ≤ v6.toInt ∧ v6.toInt ≤ 127 := by rw [e_v6]; exact i_b _
  refine zq_bast hx hb hK hP hD hS 1 0 rfl rfl (vp_in_iff.mpr ⟨by omega, by omega⟩) d_Text_addFour_19 (fun fz7 e_fz7 H locs hP hD hS => ?_)
  have hP : va_P D CL [(h0, .inr (9, [.ref q, .int v4])), (q, .inl (cB, 400, .inl fz7))] H := hP
  have hD : va_D A [(h0, .inr (9, [.ref q, .int v4])), (q, .inl (cB, 400, .inl fz7))] := hD
  have R_fz7 : Rg (-128) 127 400 fz7 := Rg_updB e_fz7 R_fz3 (by decide) (by decide)
  refine lv_aload_n hx hb d_Text_addFour_20 rfl (lv_at hl 1 rfl) ?_
  refine lv_dup hx hb d_Text_addFour_21 rfl ?_
  refine va_get (D := D) (ci := 9) (v := .int v4) (C := "DiscMaker$Text") (T := F_Text) (N := 2) hx hb ht9 in_Text hown hK hP 0 rfl rfl 1 (by decide) (ht9 _ k158) (fun _ h9 => h9) rfl d_Text_addFour_22 ?_
  refine lv_iconst (v := 1) hx hb d_Text_addFour_25 (by decide) ?_
  refine lv_iadd hx hb d_Text_addFour_26 ?_
  refine lv_topi (fun v8 e_v8 => ?_)
  have t_v8 : v8.toInt = v4.toInt + 1 := by rw [e_v8]; exact i_add rfl (by decide) (by omega) (by omega)
  refine va_put (D := D) (ci := 9) (v := .int v8) (ty := .int) (C := "DiscMaker$Text") (T := F_Text) (N := 2) hx hb ht9 in_Text t_Text t_Text_ok n_Text hown hK hP hD hS 0 rfl rfl 1 (by decide) (ht9 _ k158) (fun _ h9 => h9) rfl (by decide +kernel) rfl rfl (Nat.le_of_ble_eq_true rfl) d_Text_addFour_27 (fun H locs hP hD hS => ?_)
  have hP : va_P D CL [(h0, .inr (9, [.ref q, .int v8])), (q, .inl (cB, 400, .inl fz7))] H := hP
  have hD : va_D A [(h0, .inr (9, [.ref q, .int v8])), (q, .inl (cB, 400, .inl fz7))] := hD
  refine lv_iinc (v := 8) hx hb d_Text_addFour_30 hl (k := 0) rfl (by decide) (by decide +kernel) rfl (fun ls hl => ?_)
  have hl : lv_has ls 3 [(2, .int 8), (0, .ref h0), (1, .int x)] := hl
  refine lv_goto (tgt := 3) hx hb d_Text_addFour_33 (by decide) ?_
  refine lv_iload_n hx hb d_Text_addFour_3 rfl (lv_at hl 0 rfl) ?_
  refine lv_if_lt (tgt := 36) hx hb d_Text_addFour_4 (by decide) (fun h_9 => absurd h_9 (by decide)) (fun _ => ?_)
  refine lv_aload_n hx hb d_Text_addFour_7 rfl (lv_at hl 1 rfl) ?_
  refine va_get (D := D) (ci := 9) (v := .ref q) (C := "DiscMaker$Text") (T := F_Text) (N := 2) hx hb ht9 in_Text hown hK hP 0 rfl rfl 0 (by decide) (ht9 _ k157) (fun _ h9 => h9) rfl d_Text_addFour_8 ?_
  refine lv_aload_n hx hb d_Text_addFour_11 rfl (lv_at hl 1 rfl) ?_
  refine va_get (D := D) (ci := 9) (v := .int v8) (C := "DiscMaker$Text") (T := F_Text) (N := 2) hx hb ht9 in_Text hown hK hP 0 rfl rfl 1 (by decide) (ht9 _ k158) (fun _ h9 => h9) rfl d_Text_addFour_12 ?_
  refine lv_iload_n hx hb d_Text_addFour_15 rfl (lv_at hl 2 rfl) ?_
  refine lv_iload_n hx hb d_Text_addFour_16 rfl (lv_at hl 0 rfl) ?_
  refine lv_ishr hx hb d_Text_addFour_17 ?_
  refine lv_topi (fun v9 e_v9 => ?_)
  have t_v9 : v9.toInt = x.toInt / 256 := by rw [e_v9]; exact i_shr (k := 8) rfl (by decide) (by decide)
  refine lv_i2b hx hb d_Text_addFour_18 rfl ?_
  refine lv_topi (fun v10 e_v10 => ?_)
  have t_v10 : (-128) ≤ v10.toInt ∧ v10.toInt ≤ 127 := by rw [e_v10]; exact i_b _
  refine zq_bast hx hb hK hP hD hS 1 0 rfl rfl (vp_in_iff.mpr ⟨by omega, by omega⟩) d_Text_addFour_19 (fun fz11 e_fz11 H locs hP hD hS => ?_)
  have hP : va_P D CL [(h0, .inr (9, [.ref q, .int v8])), (q, .inl (cB, 400, .inl fz11))] H := hP
  have hD : va_D A [(h0, .inr (9, [.ref q, .int v8])), (q, .inl (cB, 400, .inl fz11))] := hD
  have R_fz11 : Rg (-128) 127 400 fz11 := Rg_updB e_fz11 R_fz7 (by decide) (by decide)
  refine lv_aload_n hx hb d_Text_addFour_20 rfl (lv_at hl 1 rfl) ?_
  refine lv_dup hx hb d_Text_addFour_21 rfl ?_
  refine va_get (D := D) (ci := 9) (v := .int v8) (C := "DiscMaker$Text") (T := F_Text) (N := 2) hx hb ht9 in_Text hown hK hP 0 rfl rfl 1 (by decide) (ht9 _ k158) (fun _ h9 => h9) rfl d_Text_addFour_22 ?_
  refine lv_iconst (v := 1) hx hb d_Text_addFour_25 (by decide) ?_
  refine lv_iadd hx hb d_Text_addFour_26 ?_
  refine lv_topi (fun v12 e_v12 => ?_)
  have t_v12 : v12.toInt = v8.toInt + 1 := by rw [e_v12]; exact i_add rfl (by decide) (by omega) (by omega)
  refine va_put (D := D) (ci := 9) (v := .int v12) (ty := .int) (C := "DiscMaker$Text") (T := F_Text) (N := 2) hx hb ht9 in_Text t_Text t_Text_ok n_Text hown hK hP hD hS 0 rfl rfl 1 (by decide) (ht9 _ k158) (fun _ h9 => h9) rfl (by decide +kernel) rfl rfl (Nat.le_of_ble_eq_true rfl) d_Text_addFour_27 (fun H locs hP hD hS => ?_)
  have hP : va_P D CL [(h0, .inr (9, [.ref q, .int v12])), (q, .inl (cB, 400, .inl fz11))] H := hP
  have hD : va_D A [(h0, .inr (9, [.ref q, .int v12])), (q, .inl (cB, 400, .inl fz11))] := hD
  refine lv_iinc (v := 0) hx hb d_Text_addFour_30 hl (k := 0) rfl (by decide) (by decide +kernel) rfl (fun ls hl => ?_)
  have hl : lv_has ls 3 [(2, .int 0), (0, .ref h0), (1, .int x)] := hl
  refine lv_goto (tgt := 3) hx hb d_Text_addFour_33 (by decide) ?_
  refine lv_iload_n hx hb d_Text_addFour_3 rfl (lv_at hl 0 rfl) ?_
  refine lv_if_lt (tgt := 36) hx hb d_Text_addFour_4 (by decide) (fun h_9 => absurd h_9 (by decide)) (fun _ => ?_)
  refine lv_aload_n hx hb d_Text_addFour_7 rfl (lv_at hl 1 rfl) ?_
  refine va_get (D := D) (ci := 9) (v := .ref q) (C := "DiscMaker$Text") (T := F_Text) (N := 2) hx hb ht9 in_Text hown hK hP 0 rfl rfl 0 (by decide) (ht9 _ k157) (fun _ h9 => h9) rfl d_Text_addFour_8 ?_
  refine lv_aload_n hx hb d_Text_addFour_11 rfl (lv_at hl 1 rfl) ?_
  refine va_get (D := D) (ci := 9) (v := .int v12) (C := "DiscMaker$Text") (T := F_Text) (N := 2) hx hb ht9 in_Text hown hK hP 0 rfl rfl 1 (by decide) (ht9 _ k158) (fun _ h9 => h9) rfl d_Text_addFour_12 ?_
  refine lv_iload_n hx hb d_Text_addFour_15 rfl (lv_at hl 2 rfl) ?_
  refine lv_iload_n hx hb d_Text_addFour_16 rfl (lv_at hl 0 rfl) ?_
  refine lv_ishr hx hb d_Text_addFour_17 ?_
  refine lv_topi (fun v13 e_v13 => ?_)
  have t_v13 : v13.toInt = x.toInt / 1 := by rw [e_v13]; exact i_shr (k := 0) rfl (by decide) (by decide)
  refine lv_i2b hx hb d_Text_addFour_18 rfl ?_
  refine lv_topi (fun v14 e_v14 => ?_)
  have t_v14 : (-128) ≤ v14.toInt ∧ v14.toInt ≤ 127 := by rw [e_v14]; exact i_b _
  refine zq_bast hx hb hK hP hD hS 1 0 rfl rfl (vp_in_iff.mpr ⟨by omega, by omega⟩) d_Text_addFour_19 (fun fz15 e_fz15 H locs hP hD hS => ?_)
  have hP : va_P D CL [(h0, .inr (9, [.ref q, .int v12])), (q, .inl (cB, 400, .inl fz15))] H := hP
  have hD : va_D A [(h0, .inr (9, [.ref q, .int v12])), (q, .inl (cB, 400, .inl fz15))] := hD
  have R_fz15 : Rg (-128) 127 400 fz15 := Rg_updB e_fz15 R_fz11 (by decide) (by decide)
  refine lv_aload_n hx hb d_Text_addFour_20 rfl (lv_at hl 1 rfl) ?_
  refine lv_dup hx hb d_Text_addFour_21 rfl ?_
  refine va_get (D := D) (ci := 9) (v := .int v12) (C := "DiscMaker$Text") (T := F_Text) (N := 2) hx hb ht9 in_Text hown hK hP 0 rfl rfl 1 (by decide) (ht9 _ k158) (fun _ h9 => h9) rfl d_Text_addFour_22 ?_
  refine lv_iconst (v := 1) hx hb d_Text_addFour_25 (by decide) ?_
  refine lv_iadd hx hb d_Text_addFour_26 ?_
  refine lv_topi (fun v16 e_v16 => ?_)
  have t_v16 : v16.toInt = v12.toInt + 1 := by rw [e_v16]; exact i_add rfl (by decide) (by omega) (by omega)
  refine va_put (D := D) (ci := 9) (v := .int v16) (ty := .int) (C := "DiscMaker$Text") (T := F_Text) (N := 2) hx hb ht9 in_Text t_Text t_Text_ok n_Text hown hK hP hD hS 0 rfl rfl 1 (by decide) (ht9 _ k158) (fun _ h9 => h9) rfl (by decide +kernel) rfl rfl (Nat.le_of_ble_eq_true rfl) d_Text_addFour_27 (fun H locs hP hD hS => ?_)
  have hP : va_P D CL [(h0, .inr (9, [.ref q, .int v16])), (q, .inl (cB, 400, .inl fz15))] H := hP
  have hD : va_D A [(h0, .inr (9, [.ref q, .int v16])), (q, .inl (cB, 400, .inl fz15))] := hD
  refine lv_iinc (v := (-8)) hx hb d_Text_addFour_30 hl (k := 0) rfl (by decide) (by decide +kernel) rfl (fun ls hl => ?_)
  have hl : lv_has ls 3 [(2, .int (-8)), (0, .ref h0), (1, .int x)] := hl
  refine lv_goto (tgt := 3) hx hb d_Text_addFour_33 (by decide) ?_
  refine lv_iload_n hx hb d_Text_addFour_3 rfl (lv_at hl 0 rfl) ?_
  refine lv_if_lt (tgt := 36) hx hb d_Text_addFour_4 (by decide) (fun _ => ?_) (fun h_9 => absurd (by decide) h_9)
  have hP9 := hP.sub (ws' := [(h0, .inr (9, [.ref q, .int v16])), (q, .inl (cB, 400, .inl fz15))]) [0, 1] rfl
  have hD9 := hD.sub (ws' := [(h0, .inr (9, [.ref q, .int v16])), (q, .inl (cB, 400, .inl fz15))]) [0, 1] (by decide +kernel) rfl
  exact W.vret hx hb hr (fun t ht hW => ⟨⟨(v16, fz15), rfl, ⟨(by (try dsimp only); first | assumption | omega | trivial), R_fz15, (T4_of e_fz3 e_fz7 e_fz11 e_fz15 (by have h8 := i_cl (a := v4) (by omega); have h7 := i_cl (a := L) (by omega); omega) (by have h8 := i_cl (a := v8) (by omega); have h7 := i_cl (a := L) (by omega); omega) (by have h8 := i_cl (a := v12) (by omega); have h7 := i_cl (a := L) (by omega); omega) (by unfold sb; rw [e_v2, e_v1]) (by unfold sb; rw [e_v6, e_v5]) (by unfold sb; rw [e_v10, e_v9]) (by unfold sb; rw [e_v14, e_v13]))⟩, by rw [ht]; exact hP9, hD9⟩, hS.F ht⟩) hS.2.2 d_Text_addFour_36

theorem d_Text_append_0 : decode b_Text_append 0 = .ok (.aload_n 0, 1) := by decide +kernel
theorem d_Text_append_1 : decode b_Text_append 1 = .ok (.getfield 15, 3) := by decide +kernel
theorem d_Text_append_4 : decode b_Text_append 4 = .ok (.bipush 20, 2) := by decide +kernel
theorem d_Text_append_6 : decode b_Text_append 6 = .ok (.iadd, 1) := by decide +kernel
theorem d_Text_append_7 : decode b_Text_append 7 = .ok (.sipush 400, 3) := by decide +kernel
theorem d_Text_append_10 : decode b_Text_append 10 = .ok (.if_icmp .le 5, 3) := by decide +kernel
theorem d_Text_append_13 : decode b_Text_append 13 = .ok (.iconst 0, 1) := by decide +kernel
theorem d_Text_append_14 : decode b_Text_append 14 = .ok (.ireturn, 1) := by decide +kernel
theorem d_Text_append_15 : decode b_Text_append 15 = .ok (.aload_n 0, 1) := by decide +kernel
theorem d_Text_append_16 : decode b_Text_append 16 = .ok (.iload_n 1, 1) := by decide +kernel
theorem d_Text_append_17 : decode b_Text_append 17 = .ok (.invokevirtual 19, 3) := by decide +kernel
theorem d_Text_append_20 : decode b_Text_append 20 = .ok (.aload_n 0, 1) := by decide +kernel
theorem d_Text_append_21 : decode b_Text_append 21 = .ok (.iload_n 2, 1) := by decide +kernel
theorem d_Text_append_22 : decode b_Text_append 22 = .ok (.invokevirtual 19, 3) := by decide +kernel
theorem d_Text_append_25 : decode b_Text_append 25 = .ok (.aload_n 0, 1) := by decide +kernel
theorem d_Text_append_26 : decode b_Text_append 26 = .ok (.iload_n 3, 1) := by decide +kernel
theorem d_Text_append_27 : decode b_Text_append 27 = .ok (.invokevirtual 19, 3) := by decide +kernel
theorem d_Text_append_30 : decode b_Text_append 30 = .ok (.aload_n 0, 1) := by decide +kernel
theorem d_Text_append_31 : decode b_Text_append 31 = .ok (.iload 4, 2) := by decide +kernel
theorem d_Text_append_33 : decode b_Text_append 33 = .ok (.invokevirtual 19, 3) := by decide +kernel
theorem d_Text_append_36 : decode b_Text_append 36 = .ok (.aload_n 0, 1) := by decide +kernel
theorem d_Text_append_37 : decode b_Text_append 37 = .ok (.iload 5, 2) := by decide +kernel
theorem d_Text_append_39 : decode b_Text_append 39 = .ok (.invokevirtual 19, 3) := by decide +kernel
theorem d_Text_append_42 : decode b_Text_append 42 = .ok (.iconst 1, 1) := by decide +kernel
theorem d_Text_append_43 : decode b_Text_append 43 = .ok (.ireturn, 1) := by decide +kernel
set_option maxHeartbeats 4000000 in
set_option maxRecDepth 100000 in
theorem c3_append (l : Launch) (D : va_G) (cB cI cJ cZ cN cF : ClassId) (sz : Nat) (h0 : Nat) (q : Nat) (L : Int32) (f : Nat → Int32) (x1 : Int32) (x2 : Int32) (x3 : Int32) (x4 : Int32) (x5 : Int32) (hL : 0 ≤ L.toInt ∧ L.toInt ≤ 400) (hB : Rg (-128) 127 400 f) : Met l y_Text_append w_Text_append ({ frames := 1, cells := 0, slots := 0, locals := 28 }) (va_Pc [.ref h0, .int x1, .int x2, .int x3, .int x4, .int x5] (fun U => U.heap.size = sz ∧ va_P D CL [(h0, .inr (9, [.ref q, .int L])), (q, .inl (cB, 400, .inl f))] U.heap ∧ va_K D CL (TY cB cI cJ cZ cN cF) U ∧ NN U ∧ va_D (fun _ => True) [(h0, .inr (9, [.ref q, .int L])), (q, .inl (cB, 400, .inl f))])) (va_Qi (fun (r : Int32) (u : Int32 × (Nat → Int32)) => match u with | (L2, g) => ((400 < L.toInt + 20 ∧ r.toInt = 0 ∧ L2.toInt = L.toInt) ∨ (L.toInt + 20 ≤ 400 ∧ r.toInt = 1 ∧ L2.toInt = L.toInt + 20)) ∧ (Rg (-128) 127 400 g) ∧ (L.toInt + 20 ≤ 400 → FT f g L.toNatClampNeg 20 x1 x2 x3 x4 x5) ∧ (400 < L.toInt + 20 → g = f)) (fun (u : Int32 × (Nat → Int32)) (t : State) => match u with | (L2, g) => va_P D CL [(h0, .inr (9, [.ref q, .int L2])), (q, .inl (cB, 400, .inl g))] t.heap ∧ va_D (va_A [(h0, .inr (9, [.ref q, .int L])), (q, .inl (cB, 400, .inl f))] sz) [(h0, .inr (9, [.ref q, .int L2])), (q, .inl (cB, 400, .inl g))]) (va_A [(h0, .inr (9, [.ref q, .int L])), (q, .inl (cB, 400, .inl f))] sz)) 0 0 (va_A [(h0, .inr (9, [.ref q, .int L])), (q, .inl (cB, 400, .inl f))] sz) := by
  refine Met.ofW (cc := b_Text_append) (maxL := 6) (ret := some .boolean) (by decide +kernel) rfl ?_
  intro p e s m args below meth c s₁ B hml hv
  obtain ⟨rfl, hsz, hP, hK, hN, hD0⟩ := hv
  have hx := B.exec
  have hb := B.bytes
  have hr := B.returns
  have hts := atoms_spec (ws := w_Text_append) B.pre
  have ht9 := fun (w : Cond) (h : w ∈ lw_g) => hts w (List.mem_cons_of_mem _ h)
  have hown : s.vm.findClass "DiscMaker$Text" = some m.cls := findClass_of_methodNamed B.named
  have hlocks := B.notSynchronized
  subst hsz
  have hD := hD0.self (sz := s.heap.size)
  generalize hAe : va_A [(h0, .inr (9, [.ref q, .int L])), (q, .inl (cB, 400, .inl f))] s.heap.size = A at hD ⊢
  have hA : ∀ q : Nat, s.heap.size ≤ q → A q := fun q h => by rw [← hAe]; exact Or.inr h
  have hS : va_S A s.heap s.heap [] := va_S.rf
  have hP : va_P D CL [(h0, .inr (9, [.ref q, .int L])), (q, .inl (cB, 400, .inl f))] s.heap := hP
  have hl := lv_entry [.ref h0, .int x1, .int x2, .int x3, .int x4, .int x5] (n := 6) (Nat.le_of_ble_eq_true rfl)
  rw [lg_entry_eq]
  generalize (lg_sl [.ref h0, .int x1, .int x2, .int x3, .int x4, .int x5] ++ List.replicate (6 - (lg_sl [.ref h0, .int x1, .int x2, .int x3, .int x4, .int x5]).length) Slot.unset).toArray = ls at hl ⊢
  have hl : lv_has ls 6 [(0, .ref h0), (1, .int x1), (2, .int x2), (3, .int x3), (4, .int x4), (5, .int x5)] := hl
  have L_m1 : ((-1) : Int32).toInt = (-1) := by decide
  have L_0 : (0 : Int32).toInt = 0 := by decide
  have L_1 : (1 : Int32).toInt = 1 := by decide
  have L_20 : (20 : Int32).toInt = 20 := by decide
  have L_400 : (400 : Int32).toInt = 400 := by decide
  refine lv_aload_n hx hb d_Text_append_0 rfl (lv_at hl 0 rfl) ?_
  refine va_get (D := D) (ci := 9) (v := .int L) (C := "DiscMaker$Text") (T := F_Text) (N := 2) hx hb ht9 in_Text hown hK hP 0 rfl rfl 1 (by decide) (ht9 _ k158) (fun _ h9 => h9) rfl d_Text_append_1 ?_
  refine lv_bipush (v := 20) hx hb d_Text_append_4 (by decide) ?_
  refine lv_iadd hx hb d_Text_append_6 ?_
  refine lv_topi (fun v1 e_v1 => ?_)
  have t_v1 : v1.toInt = L.toInt + 20 := by rw [e_v1]; exact i_add rfl (by decide) (by omega) (by omega)
  refine lv_sipush (v := 400) hx hb d_Text_append_7 (by decide) ?_
  refine lv_icmp_le (tgt := 15) hx hb d_Text_append_10 (by decide) (fun h_9 => ?_) (fun h_9 => ?_)
  · skip
    have g10_6 : v1.toInt ≤ 400 := (i_le rfl (by decide)).mp h_9
    refine lv_aload_n hx hb d_Text_append_15 rfl (lv_at hl 0 rfl) ?_
    refine lv_iload_n hx hb d_Text_append_16 rfl (lv_at hl 1 rfl) ?_
    have hPc := hP.sub (ws' := [(h0, .inr (9, [.ref q, .int L])), (q, .inl (cB, 400, .inl f))]) [0, 1] rfl
    have hDc := hD.sub (ws' := [(h0, .inr (9, [.ref q, .int L])), (q, .inl (cB, 400, .inl f))]) [0, 1] (by decide +kernel) rfl
    have hFc := va_free (wc := [(h0, .inr (9, [.ref q, .int L])), (q, .inl (cB, 400, .inl f))]) hD hS hA [0, 1] rfl
    have hkc : 0 ≤ 0 := by decide
    have hks : 0 ≤ 0 := by decide
    refine va_callv (va_runV (C := "DiscMaker$Text") (As := [.int x1]) (rest := []) ⟨hx, hb, hml, hown, hts⟩ (c3_addFour l D cB cI cJ cZ cN cF s.heap.size h0 q L f x1 (by (try dsimp only); first | assumption | omega | trivial) (by (try dsimp only); first | assumption | omega | trivial)) (cwV 1 hts (lg_goodV k455 k457 k0 k116 kc_Text_addFour) rfl rfl rfl (by decide +kernel) ⟨Nat.le_of_ble_eq_true rfl, Nat.le_of_ble_eq_true rfl⟩) ⟨fun a U g mk q => by obtain ⟨q0, q1, qP, qK, qN, qD⟩ := q; exact ⟨q0, q1, qP, va_K.moved (u := U) (U := U.calling g mk a) (Vm.Alike.refl U.vm) qK, qN.calling, qD⟩, va_recv hK hP (ci := 9) (q0 := 0) rfl rfl, fun U hU hW => ⟨rfl, by rw [hU], by rw [hU]; exact hPc, va_K.moved hW.alike hK, NN.warm hW hN, hDc.weaken (fun _ _ _ _ => trivial)⟩⟩ rfl rfl hl.1 rfl (lv_room (Nat.le_of_ble_eq_true rfl)) d_Text_append_17 ⟨hkc, hks⟩) hS (fun q _ h => hFc q h) hFc (fun u t H1 locs ht hvm hp_r2 hB hz1 hk1 hS => ?_)
    obtain ⟨L2_3, g_4⟩ := u
    obtain ⟨hP1, hD1⟩ := hB
    rw [ht] at hP1
    obtain ⟨hP, hD⟩ := va_join (wr := []) (w1 := [(h0, .inr (9, [.ref q, .int L2_3])), (q, .inl (cB, 400, .inl g_4))]) hP hD [0, 1] [] rfl rfl (by decide +kernel) (by decide +kernel) hk1 hFc hP1 hD1
    clear hPc hDc hFc hP1 hD1 hk1 hz1 hkc hks
    generalize H1 = H at hP hS ⊢
    have hP : va_P D CL [(h0, .inr (9, [.ref q, .int L2_3])), (q, .inl (cB, 400, .inl g_4))] H := hP
    have hD : va_D A [(h0, .inr (9, [.ref q, .int L2_3])), (q, .inl (cB, 400, .inl g_4))] := hD
    try dsimp only at hp_r2
    obtain ⟨hE_5, hB2_6, hT_7⟩ := hp_r2
    refine lv_aload_n hx hb d_Text_append_20 rfl (lv_at hl 0 rfl) ?_
    refine lv_iload_n hx hb d_Text_append_21 rfl (lv_at hl 2 rfl) ?_
    have hPc := hP.sub (ws' := [(h0, .inr (9, [.ref q, .int L2_3])), (q, .inl (cB, 400, .inl g_4))]) [0, 1] rfl
    have hDc := hD.sub (ws' := [(h0, .inr (9, [.ref q, .int L2_3])), (q, .inl (cB, 400, .inl g_4))]) [0, 1] (by decide +kernel) rfl
    have hFc := va_free (wc := [(h0, .inr (9, [.ref q, .int L2_3])), (q, .inl (cB, 400, .inl g_4))]) hD hS hA [0, 1] rfl
    have hkc : 0 ≤ 0 := by decide
    have hks : 0 ≤ 0 := by decide
    refine va_callv (va_runV (C := "DiscMaker$Text") (As := [.int x2]) (rest := []) ⟨hx, hb, hml, hown, hts⟩ (c3_addFour l D cB cI cJ cZ cN cF H.size h0 q L2_3 g_4 x2 (by (try dsimp only); first | assumption | omega | trivial) (by (try dsimp only); first | assumption | omega | trivial)) (cwV 1 hts (lg_goodV k455 k457 k0 k116 kc_Text_addFour) rfl rfl rfl (by decide +kernel) ⟨Nat.le_of_ble_eq_true rfl, Nat.le_of_ble_eq_true rfl⟩) ⟨fun a U g mk q => by obtain ⟨q0, q1, qP, qK, qN, qD⟩ := q; exact ⟨q0, q1, qP, va_K.moved (u := U) (U := U.calling g mk a) (Vm.Alike.refl U.vm) qK, qN.calling, qD⟩, va_recv hK hP (ci := 9) (q0 := 0) rfl rfl, fun U hU hW => ⟨rfl, by rw [hU], by rw [hU]; exact hPc, va_K.moved hW.alike hK, NN.warm hW hN, hDc.weaken (fun _ _ _ _ => trivial)⟩⟩ rfl rfl hl.1 rfl (lv_room (Nat.le_of_ble_eq_true rfl)) d_Text_append_22 ⟨hkc, hks⟩) hS (fun q _ h => hFc q h) hFc (fun u t H1 locs ht hvm hp_r8 hB hz1 hk1 hS => ?_)
    obtain ⟨L2_9, g_10⟩ := u
    obtain ⟨hP1, hD1⟩ := hB
    rw [ht] at hP1
    obtain ⟨hP, hD⟩ := va_join (wr := []) (w1 := [(h0, .inr (9, [.ref q, .int L2_9])), (q, .inl (cB, 400, .inl g_10))]) hP hD [0, 1] [] rfl rfl (by decide +kernel) (by decide +kernel) hk1 hFc hP1 hD1
    clear hPc hDc hFc hP1 hD1 hk1 hz1 hkc hks
    generalize H1 = H at hP hS ⊢
    have hP : va_P D CL [(h0, .inr (9, [.ref q, .int L2_9])), (q, .inl (cB, 400, .inl g_10))] H := hP
    have hD : va_D A [(h0, .inr (9, [.ref q, .int L2_9])), (q, .inl (cB, 400, .inl g_10))] := hD
    try dsimp only at hp_r8
    obtain ⟨hE_11, hB2_12, hT_13⟩ := hp_r8
    refine lv_aload_n hx hb d_Text_append_25 rfl (lv_at hl 0 rfl) ?_
    refine lv_iload_n hx hb d_Text_append_26 rfl (lv_at hl 3 rfl) ?_
    have hPc := hP.sub (ws' := [(h0, .inr (9, [.ref q, .int L2_9])), (q, .inl (cB, 400, .inl g_10))]) [0, 1] rfl
    have hDc := hD.sub (ws' := [(h0, .inr (9, [.ref q, .int L2_9])), (q, .inl (cB, 400, .inl g_10))]) [0, 1] (by decide +kernel) rfl
    have hFc := va_free (wc := [(h0, .inr (9, [.ref q, .int L2_9])), (q, .inl (cB, 400, .inl g_10))]) hD hS hA [0, 1] rfl
    have hkc : 0 ≤ 0 := by decide
    have hks : 0 ≤ 0 := by decide
    refine va_callv (va_runV (C := "DiscMaker$Text") (As := [.int x3]) (rest := []) ⟨hx, hb, hml, hown, hts⟩ (c3_addFour l D cB cI cJ cZ cN cF H.size h0 q L2_9 g_10 x3 (by (try dsimp only); first | assumption | omega | trivial) (by (try dsimp only); first | assumption | omega | trivial)) (cwV 1 hts (lg_goodV k455 k457 k0 k116 kc_Text_addFour) rfl rfl rfl (by decide +kernel) ⟨Nat.le_of_ble_eq_true rfl, Nat.le_of_ble_eq_true rfl⟩) ⟨fun a U g mk q => by obtain ⟨q0, q1, qP, qK, qN, qD⟩ := q; exact ⟨q0, q1, qP, va_K.moved (u := U) (U := U.calling g mk a) (Vm.Alike.refl U.vm) qK, qN.calling, qD⟩, va_recv hK hP (ci := 9) (q0 := 0) rfl rfl, fun U hU hW => ⟨rfl, by rw [hU], by rw [hU]; exact hPc, va_K.moved hW.alike hK, NN.warm hW hN, hDc.weaken (fun _ _ _ _ => trivial)⟩⟩ rfl rfl hl.1 rfl (lv_room (Nat.le_of_ble_eq_true rfl)) d_Text_append_27 ⟨hkc, hks⟩) hS (fun q _ h => hFc q h) hFc (fun u t H1 locs ht hvm hp_r14 hB hz1 hk1 hS => ?_)
    obtain ⟨L2_15, g_16⟩ := u
    obtain ⟨hP1, hD1⟩ := hB
    rw [ht] at hP1
    obtain ⟨hP, hD⟩ := va_join (wr := []) (w1 := [(h0, .inr (9, [.ref q, .int L2_15])), (q, .inl (cB, 400, .inl g_16))]) hP hD [0, 1] [] rfl rfl (by decide +kernel) (by decide +kernel) hk1 hFc hP1 hD1
    clear hPc hDc hFc hP1 hD1 hk1 hz1 hkc hks
    generalize H1 = H at hP hS ⊢
    have hP : va_P D CL [(h0, .inr (9, [.ref q, .int L2_15])), (q, .inl (cB, 400, .inl g_16))] H := hP
    have hD : va_D A [(h0, .inr (9, [.ref q, .int L2_15])), (q, .inl (cB, 400, .inl g_16))] := hD
    try dsimp only at hp_r14
    obtain ⟨hE_17, hB2_18, hT_19⟩ := hp_r14
    refine lv_aload_n hx hb d_Text_append_30 rfl (lv_at hl 0 rfl) ?_
    refine lv_iload hx hb d_Text_append_31 (lv_at hl 4 rfl) ?_
    have hPc := hP.sub (ws' := [(h0, .inr (9, [.ref q, .int L2_15])), (q, .inl (cB, 400, .inl g_16))]) [0, 1] rfl
    have hDc := hD.sub (ws' := [(h0, .inr (9, [.ref q, .int L2_15])), (q, .inl (cB, 400, .inl g_16))]) [0, 1] (by decide +kernel) rfl
    have hFc := va_free (wc := [(h0, .inr (9, [.ref q, .int L2_15])), (q, .inl (cB, 400, .inl g_16))]) hD hS hA [0, 1] rfl
    have hkc : 0 ≤ 0 := by decide
    have hks : 0 ≤ 0 := by decide
    refine va_callv (va_runV (C := "DiscMaker$Text") (As := [.int x4]) (rest := []) ⟨hx, hb, hml, hown, hts⟩ (c3_addFour l D cB cI cJ cZ cN cF H.size h0 q L2_15 g_16 x4 (by (try dsimp only); first | assumption | omega | trivial) (by (try dsimp only); first | assumption | omega | trivial)) (cwV 1 hts (lg_goodV k455 k457 k0 k116 kc_Text_addFour) rfl rfl rfl (by decide +kernel) ⟨Nat.le_of_ble_eq_true rfl, Nat.le_of_ble_eq_true rfl⟩) ⟨fun a U g mk q => by obtain ⟨q0, q1, qP, qK, qN, qD⟩ := q; exact ⟨q0, q1, qP, va_K.moved (u := U) (U := U.calling g mk a) (Vm.Alike.refl U.vm) qK, qN.calling, qD⟩, va_recv hK hP (ci := 9) (q0 := 0) rfl rfl, fun U hU hW => ⟨rfl, by rw [hU], by rw [hU]; exact hPc, va_K.moved hW.alike hK, NN.warm hW hN, hDc.weaken (fun _ _ _ _ => trivial)⟩⟩ rfl rfl hl.1 rfl (lv_room (Nat.le_of_ble_eq_true rfl)) d_Text_append_33 ⟨hkc, hks⟩) hS (fun q _ h => hFc q h) hFc (fun u t H1 locs ht hvm hp_r20 hB hz1 hk1 hS => ?_)
    obtain ⟨L2_21, g_22⟩ := u
    obtain ⟨hP1, hD1⟩ := hB
    rw [ht] at hP1
    obtain ⟨hP, hD⟩ := va_join (wr := []) (w1 := [(h0, .inr (9, [.ref q, .int L2_21])), (q, .inl (cB, 400, .inl g_22))]) hP hD [0, 1] [] rfl rfl (by decide +kernel) (by decide +kernel) hk1 hFc hP1 hD1
    clear hPc hDc hFc hP1 hD1 hk1 hz1 hkc hks
    generalize H1 = H at hP hS ⊢
    have hP : va_P D CL [(h0, .inr (9, [.ref q, .int L2_21])), (q, .inl (cB, 400, .inl g_22))] H := hP
    have hD : va_D A [(h0, .inr (9, [.ref q, .int L2_21])), (q, .inl (cB, 400, .inl g_22))] := hD
    try dsimp only at hp_r20
    obtain ⟨hE_23, hB2_24, hT_25⟩ := hp_r20
    refine lv_aload_n hx hb d_Text_append_36 rfl (lv_at hl 0 rfl) ?_
    refine lv_iload hx hb d_Text_append_37 (lv_at hl 5 rfl) ?_
    have hPc := hP.sub (ws' := [(h0, .inr (9, [.ref q, .int L2_21])), (q, .inl (cB, 400, .inl g_22))]) [0, 1] rfl
    have hDc := hD.sub (ws' := [(h0, .inr (9, [.ref q, .int L2_21])), (q, .inl (cB, 400, .inl g_22))]) [0, 1] (by decide +kernel) rfl
    have hFc := va_free (wc := [(h0, .inr (9, [.ref q, .int L2_21])), (q, .inl (cB, 400, .inl g_22))]) hD hS hA [0, 1] rfl
    have hkc : 0 ≤ 0 := by decide
    have hks : 0 ≤ 0 := by decide
    refine va_callv (va_runV (C := "DiscMaker$Text") (As := [.int x5]) (rest := []) ⟨hx, hb, hml, hown, hts⟩ (c3_addFour l D cB cI cJ cZ cN cF H.size h0 q L2_21 g_22 x5 (by (try dsimp only); first | assumption | omega | trivial) (by (try dsimp only); first | assumption | omega | trivial)) (cwV 1 hts (lg_goodV k455 k457 k0 k116 kc_Text_addFour) rfl rfl rfl (by decide +kernel) ⟨Nat.le_of_ble_eq_true rfl, Nat.le_of_ble_eq_true rfl⟩) ⟨fun a U g mk q => by obtain ⟨q0, q1, qP, qK, qN, qD⟩ := q; exact ⟨q0, q1, qP, va_K.moved (u := U) (U := U.calling g mk a) (Vm.Alike.refl U.vm) qK, qN.calling, qD⟩, va_recv hK hP (ci := 9) (q0 := 0) rfl rfl, fun U hU hW => ⟨rfl, by rw [hU], by rw [hU]; exact hPc, va_K.moved hW.alike hK, NN.warm hW hN, hDc.weaken (fun _ _ _ _ => trivial)⟩⟩ rfl rfl hl.1 rfl (lv_room (Nat.le_of_ble_eq_true rfl)) d_Text_append_39 ⟨hkc, hks⟩) hS (fun q _ h => hFc q h) hFc (fun u t H1 locs ht hvm hp_r26 hB hz1 hk1 hS => ?_)
    obtain ⟨L2_27, g_28⟩ := u
    obtain ⟨hP1, hD1⟩ := hB
    rw [ht] at hP1
    obtain ⟨hP, hD⟩ := va_join (wr := []) (w1 := [(h0, .inr (9, [.ref q, .int L2_27])), (q, .inl (cB, 400, .inl g_28))]) hP hD [0, 1] [] rfl rfl (by decide +kernel) (by decide +kernel) hk1 hFc hP1 hD1
    clear hPc hDc hFc hP1 hD1 hk1 hz1 hkc hks
    generalize H1 = H at hP hS ⊢
    have hP : va_P D CL [(h0, .inr (9, [.ref q, .int L2_27])), (q, .inl (cB, 400, .inl g_28))] H := hP
    have hD : va_D A [(h0, .inr (9, [.ref q, .int L2_27])), (q, .inl (cB, 400, .inl g_28))] := hD
    try dsimp only at hp_r26
    obtain ⟨hE_29, hB2_30, hT_31⟩ := hp_r26
    refine lv_iconst (v := 1) hx hb d_Text_append_42 (by decide) ?_
    have hP9 := hP.sub (ws' := [(h0, .inr (9, [.ref q, .int L2_27])), (q, .inl (cB, 400, .inl g_28))]) [0, 1] rfl
    have hD9 := hD.sub (ws' := [(h0, .inr (9, [.ref q, .int L2_27])), (q, .inl (cB, 400, .inl g_28))]) [0, 1] (by decide +kernel) rfl
    exact W.zret (v := 1) hx hb hr (by first | rfl | decide | exact i_narZ (by omega)) (fun t ht hW => ⟨⟨1, (L2_27, g_28), rfl, ⟨(by (try dsimp only); first | assumption | omega | trivial), hB2_30, (fun _ => FT_of hT_7 hT_13 hT_19 hT_25 hT_31 (by have h8 := i_cl (a := L2_3) (by omega); have h7 := i_cl (a := L) (by omega); omega) (by have h8 := i_cl (a := L2_9) (by omega); have h7 := i_cl (a := L) (by omega); omega) (by have h8 := i_cl (a := L2_15) (by omega); have h7 := i_cl (a := L) (by omega); omega) (by have h8 := i_cl (a := L2_21) (by omega); have h7 := i_cl (a := L) (by omega); omega)), (by (try dsimp only); intro h7; exfalso; omega)⟩, by rw [ht]; exact hP9, hD9⟩, hS.F ht⟩) hS.2.2 d_Text_append_43
  · skip
    have g10_6 : ¬ v1.toInt ≤ 400 := fun h8 => h_9 ((i_le rfl (by decide)).mpr h8)
    refine lv_iconst (v := 0) hx hb d_Text_append_13 (by decide) ?_
    have hP9 := hP.sub (ws' := [(h0, .inr (9, [.ref q, .int L])), (q, .inl (cB, 400, .inl f))]) [0, 1] rfl
    have hD9 := hD.sub (ws' := [(h0, .inr (9, [.ref q, .int L])), (q, .inl (cB, 400, .inl f))]) [0, 1] (by decide +kernel) rfl
    exact W.zret (v := 0) hx hb hr (by first | rfl | decide | exact i_narZ (by omega)) (fun t ht hW => ⟨⟨0, (L, f), rfl, ⟨(by (try dsimp only); first | assumption | omega | trivial), hB, (by (try dsimp only); intro h7; exfalso; omega), (fun _ => rfl)⟩, by rw [ht]; exact hP9, hD9⟩, hS.F ht⟩) hS.2.2 d_Text_append_14

theorem d_Text_shorten_0 : decode b_Text_shorten 0 = .ok (.iload_n 1, 1) := by decide +kernel
theorem d_Text_shorten_1 : decode b_Text_shorten 1 = .ok (.ifCond .lt 11, 3) := by decide +kernel
theorem d_Text_shorten_4 : decode b_Text_shorten 4 = .ok (.iload_n 1, 1) := by decide +kernel
theorem d_Text_shorten_5 : decode b_Text_shorten 5 = .ok (.aload_n 0, 1) := by decide +kernel
theorem d_Text_shorten_6 : decode b_Text_shorten 6 = .ok (.getfield 15, 3) := by decide +kernel
theorem d_Text_shorten_9 : decode b_Text_shorten 9 = .ok (.if_icmp .le 5, 3) := by decide +kernel
theorem d_Text_shorten_12 : decode b_Text_shorten 12 = .ok (.iconst 0, 1) := by decide +kernel
theorem d_Text_shorten_13 : decode b_Text_shorten 13 = .ok (.ireturn, 1) := by decide +kernel
theorem d_Text_shorten_14 : decode b_Text_shorten 14 = .ok (.aload_n 0, 1) := by decide +kernel
theorem d_Text_shorten_15 : decode b_Text_shorten 15 = .ok (.iload_n 1, 1) := by decide +kernel
theorem d_Text_shorten_16 : decode b_Text_shorten 16 = .ok (.putfield 15, 3) := by decide +kernel
theorem d_Text_shorten_19 : decode b_Text_shorten 19 = .ok (.iconst 1, 1) := by decide +kernel
theorem d_Text_shorten_20 : decode b_Text_shorten 20 = .ok (.ireturn, 1) := by decide +kernel
set_option maxHeartbeats 4000000 in
set_option maxRecDepth 100000 in
theorem c3_Text_shorten (l : Launch) (D : va_G) (cB cI cJ cZ cN cF : ClassId) (sz : Nat) (h0 : Nat) (q : Nat) (L : Int32) (f : Nat → Int32) (x : Int32) (hL : 0 ≤ L.toInt ∧ L.toInt ≤ 400) : Met l y_Text_shorten w_Text_shorten ({ frames := 0, cells := 0, slots := 0, locals := 0 }) (va_Pc [.ref h0, .int x] (fun U => U.heap.size = sz ∧ va_P D CL [(h0, .inr (9, [.ref q, .int L])), (q, .inl (cB, 400, .inl f))] U.heap ∧ va_K D CL (TY cB cI cJ cZ cN cF) U ∧ NN U ∧ va_D (fun _ => True) [(h0, .inr (9, [.ref q, .int L])), (q, .inl (cB, 400, .inl f))])) (va_Qi (fun (r : Int32) (u : Int32) => match u with | L2 => ((r.toInt = 0 ∧ L2.toInt = L.toInt ∧ (x.toInt < 0 ∨ L.toInt < x.toInt)) ∨ (r.toInt = 1 ∧ L2.toInt = x.toInt ∧ 0 ≤ x.toInt ∧ x.toInt ≤ L.toInt))) (fun (u : Int32) (t : State) => match u with | L2 => va_P D CL [(h0, .inr (9, [.ref q, .int L2])), (q, .inl (cB, 400, .inl f))] t.heap ∧ va_D (va_A [(h0, .inr (9, [.ref q, .int L])), (q, .inl (cB, 400, .inl f))] sz) [(h0, .inr (9, [.ref q, .int L2])), (q, .inl (cB, 400, .inl f))]) (va_A [(h0, .inr (9, [.ref q, .int L])), (q, .inl (cB, 400, .inl f))] sz)) 0 0 (va_A [(h0, .inr (9, [.ref q, .int L])), (q, .inl (cB, 400, .inl f))] sz) := by
  refine Met.ofW (cc := b_Text_shorten) (maxL := 2) (ret := some .boolean) (by decide +kernel) rfl ?_
  intro p e s m args below meth c s₁ B hml hv
  obtain ⟨rfl, hsz, hP, hK, hN, hD0⟩ := hv
  have hx := B.exec
  have hb := B.bytes
  have hr := B.returns
  have hts := atoms_spec (ws := w_Text_shorten) B.pre
  have ht9 := fun (w : Cond) (h : w ∈ lw_g) => hts w (List.mem_cons_of_mem _ h)
  have hown : s.vm.findClass "DiscMaker$Text" = some m.cls := findClass_of_methodNamed B.named
  have hlocks := B.notSynchronized
  subst hsz
  have hD := hD0.self (sz := s.heap.size)
  generalize hAe : va_A [(h0, .inr (9, [.ref q, .int L])), (q, .inl (cB, 400, .inl f))] s.heap.size = A at hD ⊢
  have hA : ∀ q : Nat, s.heap.size ≤ q → A q := fun q h => by rw [← hAe]; exact Or.inr h
  have hS : va_S A s.heap s.heap [] := va_S.rf
  have hP : va_P D CL [(h0, .inr (9, [.ref q, .int L])), (q, .inl (cB, 400, .inl f))] s.heap := hP
  have hl := lv_entry [.ref h0, .int x] (n := 2) (Nat.le_of_ble_eq_true rfl)
  rw [lg_entry_eq]
  generalize (lg_sl [.ref h0, .int x] ++ List.replicate (2 - (lg_sl [.ref h0, .int x]).length) Slot.unset).toArray = ls at hl ⊢
  have hl : lv_has ls 2 [(0, .ref h0), (1, .int x)] := hl
  have L_m1 : ((-1) : Int32).toInt = (-1) := by decide
  have L_0 : (0 : Int32).toInt = 0 := by decide
  have L_1 : (1 : Int32).toInt = 1 := by decide
  refine lv_iload_n hx hb d_Text_shorten_0 rfl (lv_at hl 1 rfl) ?_
  refine lv_if_lt (tgt := 12) hx hb d_Text_shorten_1 (by decide) (fun h_9 => ?_) (fun h_9 => ?_)
  · skip
    have g1_2 : x.toInt < 0 := (i_lt rfl (by decide)).mp h_9
    refine lv_iconst (v := 0) hx hb d_Text_shorten_12 (by decide) ?_
    have hP9 := hP.sub (ws' := [(h0, .inr (9, [.ref q, .int L])), (q, .inl (cB, 400, .inl f))]) [0, 1] rfl
    have hD9 := hD.sub (ws' := [(h0, .inr (9, [.ref q, .int L])), (q, .inl (cB, 400, .inl f))]) [0, 1] (by decide +kernel) rfl
    exact W.zret (v := 0) hx hb hr (by first | rfl | decide | exact i_narZ (by omega)) (fun t ht hW => ⟨⟨0, L, rfl, (by (try dsimp only); first | assumption | omega | trivial), by rw [ht]; exact hP9, hD9⟩, hS.F ht⟩) hS.2.2 d_Text_shorten_13
  · skip
    have g1_2 : ¬ x.toInt < 0 := fun h8 => h_9 ((i_lt rfl (by decide)).mpr h8)
    refine lv_iload_n hx hb d_Text_shorten_4 rfl (lv_at hl 1 rfl) ?_
    refine lv_aload_n hx hb d_Text_shorten_5 rfl (lv_at hl 0 rfl) ?_
    refine va_get (D := D) (ci := 9) (v := .int L) (C := "DiscMaker$Text") (T := F_Text) (N := 2) hx hb ht9 in_Text hown hK hP 0 rfl rfl 1 (by decide) (ht9 _ k158) (fun _ h9 => h9) rfl d_Text_shorten_6 ?_
    refine lv_icmp_le (tgt := 14) hx hb d_Text_shorten_9 (by decide) (fun h_9 => ?_) (fun h_9 => ?_)
    · skip
      have g9_8 : x.toInt ≤ L.toInt := (i_le rfl rfl).mp h_9
      refine lv_aload_n hx hb d_Text_shorten_14 rfl (lv_at hl 0 rfl) ?_
      refine lv_iload_n hx hb d_Text_shorten_15 rfl (lv_at hl 1 rfl) ?_
      refine va_put (D := D) (ci := 9) (v := .int x) (ty := .int) (C := "DiscMaker$Text") (T := F_Text) (N := 2) hx hb ht9 in_Text t_Text t_Text_ok n_Text hown hK hP hD hS 0 rfl rfl 1 (by decide) (ht9 _ k158) (fun _ h9 => h9) rfl (by decide +kernel) rfl rfl (Nat.le_of_ble_eq_true rfl) d_Text_shorten_16 (fun H locs hP hD hS => ?_)
      have hP : va_P D CL [(h0, .inr (9, [.ref q, .int x])), (q, .inl (cB, 400, .inl f))] H := hP
      have hD : va_D A [(h0, .inr (9, [.ref q, .int x])), (q, .inl (cB, 400, .inl f))] := hD
      refine lv_iconst (v := 1) hx hb d_Text_shorten_19 (by decide) ?_
      have hP9 := hP.sub (ws' := [(h0, .inr (9, [.ref q, .int x])), (q, .inl (cB, 400, .inl f))]) [0, 1] rfl
      have hD9 := hD.sub (ws' := [(h0, .inr (9, [.ref q, .int x])), (q, .inl (cB, 400, .inl f))]) [0, 1] (by decide +kernel) rfl
      exact W.zret (v := 1) hx hb hr (by first | rfl | decide | exact i_narZ (by omega)) (fun t ht hW => ⟨⟨1, x, rfl, (by (try dsimp only); first | assumption | omega | trivial), by rw [ht]; exact hP9, hD9⟩, hS.F ht⟩) hS.2.2 d_Text_shorten_20
    · skip
      have g9_8 : ¬ x.toInt ≤ L.toInt := fun h8 => h_9 ((i_le rfl rfl).mpr h8)
      refine lv_iconst (v := 0) hx hb d_Text_shorten_12 (by decide) ?_
      have hP9 := hP.sub (ws' := [(h0, .inr (9, [.ref q, .int L])), (q, .inl (cB, 400, .inl f))]) [0, 1] rfl
      have hD9 := hD.sub (ws' := [(h0, .inr (9, [.ref q, .int L])), (q, .inl (cB, 400, .inl f))]) [0, 1] (by decide +kernel) rfl
      exact W.zret (v := 0) hx hb hr (by first | rfl | decide | exact i_narZ (by omega)) (fun t ht hW => ⟨⟨0, L, rfl, (by (try dsimp only); first | assumption | omega | trivial), by rw [ht]; exact hP9, hD9⟩, hS.F ht⟩) hS.2.2 d_Text_shorten_13

theorem d_Text_useUp_0 : decode b_Text_useUp 0 = .ok (.aload_n 0, 1) := by decide +kernel
theorem d_Text_useUp_1 : decode b_Text_useUp 1 = .ok (.getfield 15, 3) := by decide +kernel
theorem d_Text_useUp_4 : decode b_Text_useUp 4 = .ok (.istore_n 1, 1) := by decide +kernel
theorem d_Text_useUp_5 : decode b_Text_useUp 5 = .ok (.aload_n 0, 1) := by decide +kernel
theorem d_Text_useUp_6 : decode b_Text_useUp 6 = .ok (.iconst 0, 1) := by decide +kernel
theorem d_Text_useUp_7 : decode b_Text_useUp 7 = .ok (.putfield 15, 3) := by decide +kernel
theorem d_Text_useUp_10 : decode b_Text_useUp 10 = .ok (.iload_n 1, 1) := by decide +kernel
theorem d_Text_useUp_11 : decode b_Text_useUp 11 = .ok (.ireturn, 1) := by decide +kernel
set_option maxHeartbeats 4000000 in
set_option maxRecDepth 100000 in
theorem c3_useUp (l : Launch) (D : va_G) (cB cI cJ cZ cN cF : ClassId) (sz : Nat) (h0 : Nat) (q : Nat) (L : Int32) (f : Nat → Int32) : Met l y_Text_useUp w_Text_useUp ({ frames := 0, cells := 0, slots := 0, locals := 0 }) (va_Pc [.ref h0] (fun U => U.heap.size = sz ∧ va_P D CL [(h0, .inr (9, [.ref q, .int L])), (q, .inl (cB, 400, .inl f))] U.heap ∧ va_K D CL (TY cB cI cJ cZ cN cF) U ∧ NN U ∧ va_D (fun _ => True) [(h0, .inr (9, [.ref q, .int L])), (q, .inl (cB, 400, .inl f))])) (va_Qi (fun (r : Int32) (u : Unit) => (r = L)) (fun (u : Unit) (t : State) => match u with | () => va_P D CL [(h0, .inr (9, [.ref q, .int 0])), (q, .inl (cB, 400, .inl f))] t.heap ∧ va_D (va_A [(h0, .inr (9, [.ref q, .int L])), (q, .inl (cB, 400, .inl f))] sz) [(h0, .inr (9, [.ref q, .int 0])), (q, .inl (cB, 400, .inl f))]) (va_A [(h0, .inr (9, [.ref q, .int L])), (q, .inl (cB, 400, .inl f))] sz)) 0 0 (va_A [(h0, .inr (9, [.ref q, .int L])), (q, .inl (cB, 400, .inl f))] sz) := by
  refine Met.ofW (cc := b_Text_useUp) (maxL := 2) (ret := some .int) (by decide +kernel) rfl ?_
  intro p e s m args below meth c s₁ B hml hv
  obtain ⟨rfl, hsz, hP, hK, hN, hD0⟩ := hv
  have hx := B.exec
  have hb := B.bytes
  have hr := B.returns
  have hts := atoms_spec (ws := w_Text_useUp) B.pre
  have ht9 := fun (w : Cond) (h : w ∈ lw_g) => hts w (List.mem_cons_of_mem _ h)
  have hown : s.vm.findClass "DiscMaker$Text" = some m.cls := findClass_of_methodNamed B.named
  have hlocks := B.notSynchronized
  subst hsz
  have hD := hD0.self (sz := s.heap.size)
  generalize hAe : va_A [(h0, .inr (9, [.ref q, .int L])), (q, .inl (cB, 400, .inl f))] s.heap.size = A at hD ⊢
  have hA : ∀ q : Nat, s.heap.size ≤ q → A q := fun q h => by rw [← hAe]; exact Or.inr h
  have hS : va_S A s.heap s.heap [] := va_S.rf
  have hP : va_P D CL [(h0, .inr (9, [.ref q, .int L])), (q, .inl (cB, 400, .inl f))] s.heap := hP
  have hl := lv_entry [.ref h0] (n := 2) (Nat.le_of_ble_eq_true rfl)
  rw [lg_entry_eq]
  generalize (lg_sl [.ref h0] ++ List.replicate (2 - (lg_sl [.ref h0]).length) Slot.unset).toArray = ls at hl ⊢
  have hl : lv_has ls 2 [(0, .ref h0)] := hl
  have L_m1 : ((-1) : Int32).toInt = (-1) := by decide
  have L_0 : (0 : Int32).toInt = 0 := by decide
  have L_1 : (1 : Int32).toInt = 1 := by decide
  refine lv_aload_n hx hb d_Text_useUp_0 rfl (lv_at hl 0 rfl) ?_
  refine va_get (D := D) (ci := 9) (v := .int L) (C := "DiscMaker$Text") (T := F_Text) (N := 2) hx hb ht9 in_Text hown hK hP 0 rfl rfl 1 (by decide) (ht9 _ k158) (fun _ h9 => h9) rfl d_Text_useUp_1 ?_
  refine lv_istore_n hx hb d_Text_useUp_4 rfl hl (by decide) rfl (fun ls hl => ?_)
  have hl : lv_has ls 2 [(1, .int L), (0, .ref h0)] := hl
  refine lv_aload_n hx hb d_Text_useUp_5 rfl (lv_at hl 1 rfl) ?_
  refine lv_iconst (v := 0) hx hb d_Text_useUp_6 (by decide) ?_
  refine va_put (D := D) (ci := 9) (v := .int 0) (ty := .int) (C := "DiscMaker$Text") (T := F_Text) (N := 2) hx hb ht9 in_Text t_Text t_Text_ok n_Text hown hK hP hD hS 0 rfl rfl 1 (by decide) (ht9 _ k158) (fun _ h9 => h9) rfl (by decide +kernel) rfl rfl (Nat.le_of_ble_eq_true rfl) d_Text_useUp_7 (fun H locs hP hD hS => ?_)
  have hP : va_P D CL [(h0, .inr (9, [.ref q, .int 0])), (q, .inl (cB, 400, .inl f))] H := hP
  have hD : va_D A [(h0, .inr (9, [.ref q, .int 0])), (q, .inl (cB, 400, .inl f))] := hD
  refine lv_iload_n hx hb d_Text_useUp_10 rfl (lv_at hl 0 rfl) ?_
  have hP9 := hP.sub (ws' := [(h0, .inr (9, [.ref q, .int 0])), (q, .inl (cB, 400, .inl f))]) [0, 1] rfl
  have hD9 := hD.sub (ws' := [(h0, .inr (9, [.ref q, .int 0])), (q, .inl (cB, 400, .inl f))]) [0, 1] (by decide +kernel) rfl
  exact W.iret (v := L) hx hb hr (fun t ht hW => ⟨⟨L, (), rfl, rfl, by rw [ht]; exact hP9, hD9⟩, hS.F ht⟩) hS.2.2 d_Text_useUp_11

theorem d_Text_findZero_0 : decode b_Text_findZero 0 = .ok (.iconst 0, 1) := by decide +kernel
theorem d_Text_findZero_1 : decode b_Text_findZero 1 = .ok (.istore_n 2, 1) := by decide +kernel
theorem d_Text_findZero_2 : decode b_Text_findZero 2 = .ok (.iload_n 2, 1) := by decide +kernel
theorem d_Text_findZero_3 : decode b_Text_findZero 3 = .ok (.iload_n 1, 1) := by decide +kernel
theorem d_Text_findZero_4 : decode b_Text_findZero 4 = .ok (.if_icmp .ge 20, 3) := by decide +kernel
theorem d_Text_findZero_7 : decode b_Text_findZero 7 = .ok (.aload_n 0, 1) := by decide +kernel
theorem d_Text_findZero_8 : decode b_Text_findZero 8 = .ok (.getfield 9, 3) := by decide +kernel
theorem d_Text_findZero_11 : decode b_Text_findZero 11 = .ok (.iload_n 2, 1) := by decide +kernel
theorem d_Text_findZero_12 : decode b_Text_findZero 12 = .ok (.baload, 1) := by decide +kernel
theorem d_Text_findZero_13 : decode b_Text_findZero 13 = .ok (.ifCond .ne 5, 3) := by decide +kernel
theorem d_Text_findZero_16 : decode b_Text_findZero 16 = .ok (.iload_n 2, 1) := by decide +kernel
theorem d_Text_findZero_17 : decode b_Text_findZero 17 = .ok (.ireturn, 1) := by decide +kernel
theorem d_Text_findZero_18 : decode b_Text_findZero 18 = .ok (.iinc 2 1, 3) := by decide +kernel
theorem d_Text_findZero_21 : decode b_Text_findZero 21 = .ok (.goto (-19), 3) := by decide +kernel
theorem d_Text_findZero_24 : decode b_Text_findZero 24 = .ok (.iload_n 1, 1) := by decide +kernel
theorem d_Text_findZero_25 : decode b_Text_findZero 25 = .ok (.ireturn, 1) := by decide +kernel
set_option maxHeartbeats 4000000 in
set_option maxRecDepth 100000 in
theorem c3_findZero (l : Launch) (D : va_G) (cB cI cJ cZ cN cF : ClassId) (sz : Nat) (h0 : Nat) (q : Nat) (L : Int32) (f : Nat → Int32) (x : Int32) (hx : 0 ≤ x.toInt ∧ x.toInt ≤ 400) : Met l y_Text_findZero w_Text_findZero ({ frames := 0, cells := 0, slots := 0, locals := 0 }) (va_Pc [.ref h0, .int x] (fun U => U.heap.size = sz ∧ va_P D CL [(h0, .inr (9, [.ref q, .int L])), (q, .inl (cB, 400, .inl f))] U.heap ∧ va_K D CL (TY cB cI cJ cZ cN cF) U ∧ NN U ∧ va_D (fun _ => True) [(h0, .inr (9, [.ref q, .int L])), (q, .inl (cB, 400, .inl f))])) (va_Qi (fun (r : Int32) (u : Unit) => (0 ≤ r.toInt ∧ r.toInt ≤ x.toInt) ∧ (FZ f x.toInt r.toInt)) (fun (u : Unit) (t : State) => match u with | () => va_P D CL [(h0, .inr (9, [.ref q, .int L])), (q, .inl (cB, 400, .inl f))] t.heap ∧ va_D (va_A [(h0, .inr (9, [.ref q, .int L])), (q, .inl (cB, 400, .inl f))] sz) [(h0, .inr (9, [.ref q, .int L])), (q, .inl (cB, 400, .inl f))]) (va_A [(h0, .inr (9, [.ref q, .int L])), (q, .inl (cB, 400, .inl f))] sz)) 0 0 (va_A [(h0, .inr (9, [.ref q, .int L])), (q, .inl (cB, 400, .inl f))] sz) := by
  refine Met.ofW (cc := b_Text_findZero) (maxL := 3) (ret := some .int) (by decide +kernel) rfl ?_
  intro p e s m args below meth c s₁ B hml hv
  obtain ⟨rfl, hsz, hP, hK, hN, hD0⟩ := hv
  have hx := B.exec
  have hb := B.bytes
  have hr := B.returns
  have hts := atoms_spec (ws := w_Text_findZero) B.pre
  have ht9 := fun (w : Cond) (h : w ∈ lw_g) => hts w (List.mem_cons_of_mem _ h)
  have hown : s.vm.findClass "DiscMaker$Text" = some m.cls := findClass_of_methodNamed B.named
  have hlocks := B.notSynchronized
  subst hsz
  have hD := hD0.self (sz := s.heap.size)
  generalize hAe : va_A [(h0, .inr (9, [.ref q, .int L])), (q, .inl (cB, 400, .inl f))] s.heap.size = A at hD ⊢
  have hA : ∀ q : Nat, s.heap.size ≤ q → A q := fun q h => by rw [← hAe]; exact Or.inr h
  have hS : va_S A s.heap s.heap [] := va_S.rf
  have hP : va_P D CL [(h0, .inr (9, [.ref q, .int L])), (q, .inl (cB, 400, .inl f))] s.heap := hP
  have hl := lv_entry [.ref h0, .int x] (n := 3) (Nat.le_of_ble_eq_true rfl)
  rw [lg_entry_eq]
  generalize (lg_sl [.ref h0, .int x] ++ List.replicate (3 - (lg_sl [.ref h0, .int x]).length) Slot.unset).toArray = ls at hl ⊢
  have hl : lv_has ls 3 [(0, .ref h0), (1, .int x)] := hl
  have L_m1 : ((-1) : Int32).toInt = (-1) := by decide
  have L_0 : (0 : Int32).toInt = 0 := by decide
  have L_1 : (1 : Int32).toInt = 1 := by decide
  refine lv_iconst (v := 0) hx hb d_Text_findZero_0 (by decide) ?_
  refine lv_istore_n hx hb d_Text_findZero_1 rfl hl (by decide) rfl (fun ls hl => ?_)
  have hl : lv_has ls 3 [(2, .int 0), (0, .ref h0), (1, .int x)] := hl
  refine zz_labM (B := fun (lk : Nat) (K : Heap → List Loc → Array Slot → List Value → Prop) => ∀ (kx : Int32) (H : Heap) (locs : List Loc) (ls : Array Slot), lk = (x.toInt - kx.toInt).toNat → (0 ≤ kx.toInt ∧ kx.toInt ≤ x.toInt) → (∀ j : Nat, (j : Int) < kx.toInt → (f j).toInt ≠ 0) → va_P D CL [(h0, .inr (9, [.ref q, .int L])), (q, .inl (cB, 400, .inl f))] H → va_D A [(h0, .inr (9, [.ref q, .int L])), (q, .inl (cB, 400, .inl f))] → va_S A s.heap H locs → lv_has ls 3 [(0, .ref h0), (1, .int x), (2, .int kx)] → K H locs ls []) 2 ?_ ?_
  · skip
    intro lk ih2 kx H locs ls hm2 e1 e2 hP hD hS hl
    refine lv_iload_n hx hb d_Text_findZero_2 rfl (lv_at hl 2 rfl) ?_
    refine lv_iload_n hx hb d_Text_findZero_3 rfl (lv_at hl 1 rfl) ?_
    refine lv_icmp_ge (tgt := 24) hx hb d_Text_findZero_4 (by decide) (fun h_9 => ?_) (fun h_9 => ?_)
    · skip
      have g4_5 : x.toInt ≤ kx.toInt := (i_le rfl rfl).mp h_9
      refine lv_iload_n hx hb d_Text_findZero_24 rfl (lv_at hl 1 rfl) ?_
      have hP9 := hP.sub (ws' := [(h0, .inr (9, [.ref q, .int L])), (q, .inl (cB, 400, .inl f))]) [0, 1] rfl
      have hD9 := hD.sub (ws' := [(h0, .inr (9, [.ref q, .int L])), (q, .inl (cB, 400, .inl f))]) [0, 1] (by decide +kernel) rfl
      exact W.iret (v := x) hx hb hr (fun t ht hW => ⟨⟨x, (), rfl, ⟨(by (try dsimp only); first | assumption | omega | trivial), ⟨by omega, fun j hj => e2 j (by omega), fun h7 => by exfalso; omega⟩⟩, by rw [ht]; exact hP9, hD9⟩, hS.F ht⟩) hS.2.2 d_Text_findZero_25
    · skip
      have g4_5 : ¬ x.toInt ≤ kx.toInt := fun h8 => h_9 ((i_le rfl rfl).mpr h8)
      refine lv_aload_n hx hb d_Text_findZero_7 rfl (lv_at hl 0 rfl) ?_
      refine va_get (D := D) (ci := 9) (v := .ref q) (C := "DiscMaker$Text") (T := F_Text) (N := 2) hx hb ht9 in_Text hown hK hP 0 rfl rfl 0 (by decide) (ht9 _ k157) (fun _ h9 => h9) rfl d_Text_findZero_8 ?_
      refine lv_iload_n hx hb d_Text_findZero_11 rfl (lv_at hl 2 rfl) ?_
      refine va_bald hx hb hK hP 1 0 rfl rfl (vp_in_iff.mpr ⟨by omega, by omega⟩) d_Text_findZero_12 ?_
      refine lv_topi (fun v1 e_v1 => ?_)
      refine lv_if_ne (tgt := 18) hx hb d_Text_findZero_13 (by decide) (fun h_9 => ?_) (fun h_9 => ?_)
      · skip
        have g13_12 : ¬ v1.toInt = 0 := fun h8 => h_9 ((i_eq rfl (by decide)).mpr h8)
        obtain ⟨v2, e_v2⟩ : ∃ z : Int32, z = kx + 1 := ⟨_, rfl⟩
        refine lv_iinc (v := v2) hx hb d_Text_findZero_18 hl (k := 2) rfl e_v2.symm (by decide +kernel) rfl (fun ls hl => ?_)
        have t_v2 : v2.toInt = kx.toInt + 1 := by rw [e_v2]; exact i_add rfl (by decide) (by omega) (by omega)
        have hl : lv_has ls 3 [(2, .int v2), (0, .ref h0), (1, .int x)] := hl
        refine lv_goto (tgt := 2) hx hb d_Text_findZero_21 (by decide) ?_
        have hP := hP.sub (ws' := [(h0, .inr (9, [.ref q, .int L])), (q, .inl (cB, 400, .inl f))]) [0, 1] rfl
        have hD := hD.sub (ws' := [(h0, .inr (9, [.ref q, .int L])), (q, .inl (cB, 400, .inl f))]) [0, 1] (by decide +kernel) rfl
        have hl := lv_sub hl [1, 2, 0] rfl
        exact ih2 _ (by first | omega | (dsimp only; omega)) v2 _ _ _ rfl ((by (try dsimp only); first | assumption | omega | trivial)) ((fun j hj => (Decidable.em (j = kx.toNatClampNeg)).elim (fun e => by subst e; rw [← e_v1]; omega) (fun e => e2 j (by have := i_cl (a := kx) (by omega); omega)))) hP hD hS hl
      · skip
        have g13_12 : v1.toInt = 0 := (i_eq rfl (by decide)).mp h_9
        refine lv_iload_n hx hb d_Text_findZero_16 rfl (lv_at hl 2 rfl) ?_
        have hP9 := hP.sub (ws' := [(h0, .inr (9, [.ref q, .int L])), (q, .inl (cB, 400, .inl f))]) [0, 1] rfl
        have hD9 := hD.sub (ws' := [(h0, .inr (9, [.ref q, .int L])), (q, .inl (cB, 400, .inl f))]) [0, 1] (by decide +kernel) rfl
        exact W.iret (v := kx) hx hb hr (fun t ht hW => ⟨⟨kx, (), rfl, ⟨(by (try dsimp only); first | assumption | omega | trivial), ⟨by omega, e2, fun _ => by (have h8 : v1.toInt = 0 := by omega); rw [e_v1] at h8; exact h8⟩⟩, by rw [ht]; exact hP9, hD9⟩, hS.F ht⟩) hS.2.2 d_Text_findZero_17
  · skip
    intro kk2
    have hP := hP.sub (ws' := [(h0, .inr (9, [.ref q, .int L])), (q, .inl (cB, 400, .inl f))]) [0, 1] rfl
    have hD := hD.sub (ws' := [(h0, .inr (9, [.ref q, .int L])), (q, .inl (cB, 400, .inl f))]) [0, 1] (by decide +kernel) rfl
    have hl := lv_sub hl [1, 2, 0] rfl
    exact kk2 _ 0 _ _ _ rfl ((by (try dsimp only); first | assumption | omega | trivial)) ((fun j hj => absurd hj (by omega))) hP hD hS hl
