theorem d_Bytes_put_0 : decode b_Bytes_put 0 = .ok (.iload_n 1, 1) := by decide +kernel
theorem d_Bytes_put_1 : decode b_Bytes_put 1 = .ok (.ifCond .lt 19, 3) := by decide +kernel
theorem d_Bytes_put_4 : decode b_Bytes_put 4 = .ok (.iload_n 1, 1) := by decide +kernel
theorem d_Bytes_put_5 : decode b_Bytes_put 5 = .ok (.aload_n 0, 1) := by decide +kernel
theorem d_Bytes_put_6 : decode b_Bytes_put 6 = .ok (.getfield 25, 3) := by decide +kernel
theorem d_Bytes_put_9 : decode b_Bytes_put 9 = .ok (.if_icmp .ge 11, 3) := by decide +kernel
theorem d_Bytes_put_12 : decode b_Bytes_put 12 = .ok (.aload_n 0, 1) := by decide +kernel
theorem d_Bytes_put_13 : decode b_Bytes_put 13 = .ok (.getfield 7, 3) := by decide +kernel
theorem d_Bytes_put_16 : decode b_Bytes_put 16 = .ok (.iload_n 1, 1) := by decide +kernel
theorem d_Bytes_put_17 : decode b_Bytes_put 17 = .ok (.iload_n 2, 1) := by decide +kernel
theorem d_Bytes_put_18 : decode b_Bytes_put 18 = .ok (.i2b, 1) := by decide +kernel
theorem d_Bytes_put_19 : decode b_Bytes_put 19 = .ok (.bastore, 1) := by decide +kernel
theorem d_Bytes_put_20 : decode b_Bytes_put 20 = .ok (.return_, 1) := by decide +kernel
set_option maxHeartbeats 4000000 in
set_option maxRecDepth 100000 in
theorem c3_put (l : Launch) (D : va_G) (cB cI cJ cZ cN cF : ClassId) (sz : Nat) (h0 : Nat) (q : Nat) (n : Nat) (L : Int32) (f : Nat → Int32) (x : Int32) (y : Int32) (hL : 0 ≤ L.toInt ∧ L.toInt ≤ n) (hn : n ≤ 3000000) : Met l y_Bytes_put w_Bytes_put ({ frames := 0, cells := 0, slots := 0, locals := 0 }) (va_Pc [.ref h0, .int x, .int y] (fun U => U.heap.size = sz ∧ va_P D CL [(h0, .inr (1, [.ref q, .int L])), (q, .inl (cB, n, .inl f))] U.heap ∧ va_K D CL (TY cB cI cJ cZ cN cF) U ∧ NN U ∧ va_D (fun _ => True) [(h0, .inr (1, [.ref q, .int L])), (q, .inl (cB, n, .inl f))])) (va_Qv (fun (u : (Nat → Int32)) => True) (fun (u : (Nat → Int32)) (t : State) => match u with | g => va_P D CL [(h0, .inr (1, [.ref q, .int L])), (q, .inl (cB, n, .inl g))] t.heap ∧ va_D (va_A [(h0, .inr (1, [.ref q, .int L])), (q, .inl (cB, n, .inl f))] sz) [(h0, .inr (1, [.ref q, .int L])), (q, .inl (cB, n, .inl g))]) (va_A [(h0, .inr (1, [.ref q, .int L])), (q, .inl (cB, n, .inl f))] sz)) 0 0 (va_A [(h0, .inr (1, [.ref q, .int L])), (q, .inl (cB, n, .inl f))] sz) := by
  refine Met.ofW (cc := b_Bytes_put) (maxL := 3) (ret := none) (by decide +kernel) rfl ?_
  intro p e s m args below meth c s₁ B hml hv
  obtain ⟨rfl, hsz, hP, hK, hN, hD0⟩ := hv
  have hx := B.exec
  have hb := B.bytes
  have hr := B.returns
  have hts := atoms_spec (ws := w_Bytes_put) B.pre
  have ht9 := fun (w : Cond) (h : w ∈ lw_g) => hts w (List.mem_cons_of_mem _ h)
  have hown : s.vm.findClass "DiscMaker$Bytes" = some m.cls := findClass_of_methodNamed B.named
  have hlocks := B.notSynchronized
  subst hsz
  have hD := hD0.self (sz := s.heap.size)
  generalize hAe : va_A [(h0, .inr (1, [.ref q, .int L])), (q, .inl (cB, n, .inl f))] s.heap.size = A at hD ⊢
  have hA : ∀ q : Nat, s.heap.size ≤ q → A q := fun q h => by rw [← hAe]; exact Or.inr h
  have hS : va_S A s.heap s.heap [] := va_S.rf
  have hP : va_P D CL [(h0, .inr (1, [.ref q, .int L])), (q, .inl (cB, n, .inl f))] s.heap := hP
  have hl := lv_entry [.ref h0, .int x, .int y] (n := 3) (Nat.le_of_ble_eq_true rfl)
  rw [lg_entry_eq]
  generalize (lg_sl [.ref h0, .int x, .int y] ++ List.replicate (3 - (lg_sl [.ref h0, .int x, .int y]).length) Slot.unset).toArray = ls at hl ⊢
  have hl : lv_has ls 3 [(0, .ref h0), (1, .int x), (2, .int y)] := hl
  have L_m1 : ((-1) : Int32).toInt = (-1) := by decide
  have L_0 : (0 : Int32).toInt = 0 := by decide
  have L_1 : (1 : Int32).toInt = 1 := by decide
  refine lv_iload_n hx hb d_Bytes_put_0 rfl (lv_at hl 1 rfl) ?_
  refine lv_if_lt (tgt := 20) hx hb d_Bytes_put_1 (by decide) (fun h_9 => ?_) (fun h_9 => ?_)
  · skip
    have g1_2 : x.toInt < 0 := (i_lt rfl (by decide)).mp h_9
    have hP9 := hP.sub (ws' := [(h0, .inr (1, [.ref q, .int L])), (q, .inl (cB, n, .inl f))]) [0, 1] rfl
    have hD9 := hD.sub (ws' := [(h0, .inr (1, [.ref q, .int L])), (q, .inl (cB, n, .inl f))]) [0, 1] (by decide +kernel) rfl
    exact W.vret hx hb hr (fun t ht hW => ⟨⟨f, rfl, trivial, by rw [ht]; exact hP9, hD9⟩, hS.F ht⟩) hS.2.2 d_Bytes_put_20
  · skip
    have g1_2 : ¬ x.toInt < 0 := fun h8 => h_9 ((i_lt rfl (by decide)).mpr h8)
    refine lv_iload_n hx hb d_Bytes_put_4 rfl (lv_at hl 1 rfl) ?_
    refine lv_aload_n hx hb d_Bytes_put_5 rfl (lv_at hl 0 rfl) ?_
    refine va_get (D := D) (ci := 1) (v := .int L) (C := "DiscMaker$Bytes") (T := F_Bytes) (N := 2) hx hb ht9 in_Bytes hown hK hP 0 rfl rfl 1 (by decide) (ht9 _ k258) (fun _ h9 => h9) rfl d_Bytes_put_6 ?_
    refine lv_icmp_ge (tgt := 20) hx hb d_Bytes_put_9 (by decide) (fun h_9 => ?_) (fun h_9 => ?_)
    · skip
      have g9_7 : L.toInt ≤ x.toInt := (i_le rfl rfl).mp h_9
      have hP9 := hP.sub (ws' := [(h0, .inr (1, [.ref q, .int L])), (q, .inl (cB, n, .inl f))]) [0, 1] rfl
      have hD9 := hD.sub (ws' := [(h0, .inr (1, [.ref q, .int L])), (q, .inl (cB, n, .inl f))]) [0, 1] (by decide +kernel) rfl
      exact W.vret hx hb hr (fun t ht hW => ⟨⟨f, rfl, trivial, by rw [ht]; exact hP9, hD9⟩, hS.F ht⟩) hS.2.2 d_Bytes_put_20
    · skip
      have g9_7 : ¬ L.toInt ≤ x.toInt := fun h8 => h_9 ((i_le rfl rfl).mpr h8)
      refine lv_aload_n hx hb d_Bytes_put_12 rfl (lv_at hl 0 rfl) ?_
      refine va_get (D := D) (ci := 1) (v := .ref q) (C := "DiscMaker$Bytes") (T := F_Bytes) (N := 2) hx hb ht9 in_Bytes hown hK hP 0 rfl rfl 0 (by decide) (ht9 _ k256) (fun _ h9 => h9) rfl d_Bytes_put_13 ?_
      refine lv_iload_n hx hb d_Bytes_put_16 rfl (lv_at hl 1 rfl) ?_
      refine lv_iload_n hx hb d_Bytes_put_17 rfl (lv_at hl 2 rfl) ?_
      refine lv_i2b hx hb d_Bytes_put_18 rfl ?_
      refine lv_topi (fun v1 e_v1 => ?_)
      have t_v1 : (-128) ≤ v1.toInt ∧ v1.toInt ≤ 127 := by rw [e_v1]; exact i_b _
      refine zq_bast hx hb hK hP hD hS 1 0 rfl rfl (vp_in_iff.mpr ⟨by omega, by omega⟩) d_Bytes_put_19 (fun fz2 e_fz2 H locs hP hD hS => ?_)
      have hP : va_P D CL [(h0, .inr (1, [.ref q, .int L])), (q, .inl (cB, n, .inl fz2))] H := hP
      have hD : va_D A [(h0, .inr (1, [.ref q, .int L])), (q, .inl (cB, n, .inl fz2))] := hD
      have hP9 := hP.sub (ws' := [(h0, .inr (1, [.ref q, .int L])), (q, .inl (cB, n, .inl fz2))]) [0, 1] rfl
      have hD9 := hD.sub (ws' := [(h0, .inr (1, [.ref q, .int L])), (q, .inl (cB, n, .inl fz2))]) [0, 1] (by decide +kernel) rfl
      exact W.vret hx hb hr (fun t ht hW => ⟨⟨fz2, rfl, trivial, by rw [ht]; exact hP9, hD9⟩, hS.F ht⟩) hS.2.2 d_Bytes_put_20

theorem d_Bytes_at_0 : decode b_Bytes_at 0 = .ok (.iload_n 1, 1) := by decide +kernel
theorem d_Bytes_at_1 : decode b_Bytes_at 1 = .ok (.ifCond .lt 24, 3) := by decide +kernel
theorem d_Bytes_at_4 : decode b_Bytes_at 4 = .ok (.iload_n 1, 1) := by decide +kernel
theorem d_Bytes_at_5 : decode b_Bytes_at 5 = .ok (.aload_n 0, 1) := by decide +kernel
theorem d_Bytes_at_6 : decode b_Bytes_at 6 = .ok (.getfield 25, 3) := by decide +kernel
theorem d_Bytes_at_9 : decode b_Bytes_at 9 = .ok (.if_icmp .ge 16, 3) := by decide +kernel
theorem d_Bytes_at_12 : decode b_Bytes_at 12 = .ok (.aload_n 0, 1) := by decide +kernel
theorem d_Bytes_at_13 : decode b_Bytes_at 13 = .ok (.getfield 7, 3) := by decide +kernel
theorem d_Bytes_at_16 : decode b_Bytes_at 16 = .ok (.iload_n 1, 1) := by decide +kernel
theorem d_Bytes_at_17 : decode b_Bytes_at 17 = .ok (.baload, 1) := by decide +kernel
theorem d_Bytes_at_18 : decode b_Bytes_at 18 = .ok (.sipush 255, 3) := by decide +kernel
theorem d_Bytes_at_21 : decode b_Bytes_at 21 = .ok (.iand, 1) := by decide +kernel
theorem d_Bytes_at_22 : decode b_Bytes_at 22 = .ok (.goto 4, 3) := by decide +kernel
theorem d_Bytes_at_25 : decode b_Bytes_at 25 = .ok (.iconst 0, 1) := by decide +kernel
theorem d_Bytes_at_26 : decode b_Bytes_at 26 = .ok (.ireturn, 1) := by decide +kernel
set_option maxHeartbeats 4000000 in
set_option maxRecDepth 100000 in
theorem c3_at (l : Launch) (D : va_G) (cB cI cJ cZ cN cF : ClassId) (sz : Nat) (h0 : Nat) (q : Nat) (n : Nat) (L : Int32) (f : Nat → Int32) (x : Int32) (hL : 0 ≤ L.toInt ∧ L.toInt ≤ n) (hn : n ≤ 3000000) : Met l y_Bytes_at w_Bytes_at ({ frames := 0, cells := 0, slots := 0, locals := 0 }) (va_Pc [.ref h0, .int x] (fun U => U.heap.size = sz ∧ va_P D CL [(h0, .inr (1, [.ref q, .int L])), (q, .inl (cB, n, .inl f))] U.heap ∧ va_K D CL (TY cB cI cJ cZ cN cF) U ∧ NN U ∧ va_D (fun _ => True) [(h0, .inr (1, [.ref q, .int L])), (q, .inl (cB, n, .inl f))])) (va_Qi (fun (r : Int32) (u : Unit) => (0 ≤ r.toInt ∧ r.toInt ≤ 255) ∧ (r = atB f L x)) (fun (u : Unit) (t : State) => match u with | () => va_P D CL [(h0, .inr (1, [.ref q, .int L])), (q, .inl (cB, n, .inl f))] t.heap ∧ va_D (va_A [(h0, .inr (1, [.ref q, .int L])), (q, .inl (cB, n, .inl f))] sz) [(h0, .inr (1, [.ref q, .int L])), (q, .inl (cB, n, .inl f))]) (va_A [(h0, .inr (1, [.ref q, .int L])), (q, .inl (cB, n, .inl f))] sz)) 0 0 (va_A [(h0, .inr (1, [.ref q, .int L])), (q, .inl (cB, n, .inl f))] sz) := by
  refine Met.ofW (cc := b_Bytes_at) (maxL := 2) (ret := some .int) (by decide +kernel) rfl ?_
  intro p e s m args below meth c s₁ B hml hv
  obtain ⟨rfl, hsz, hP, hK, hN, hD0⟩ := hv
  have hx := B.exec
  have hb := B.bytes
  have hr := B.returns
  have hts := atoms_spec (ws := w_Bytes_at) B.pre
  have ht9 := fun (w : Cond) (h : w ∈ lw_g) => hts w (List.mem_cons_of_mem _ h)
  have hown : s.vm.findClass "DiscMaker$Bytes" = some m.cls := findClass_of_methodNamed B.named
  have hlocks := B.notSynchronized
  subst hsz
  have hD := hD0.self (sz := s.heap.size)
  generalize hAe : va_A [(h0, .inr (1, [.ref q, .int L])), (q, .inl (cB, n, .inl f))] s.heap.size = A at hD ⊢
  have hA : ∀ q : Nat, s.heap.size ≤ q → A q := fun q h => by rw [← hAe]; exact Or.inr h
  have hS : va_S A s.heap s.heap [] := va_S.rf
  have hP : va_P D CL [(h0, .inr (1, [.ref q, .int L])), (q, .inl (cB, n, .inl f))] s.heap := hP
  have hl := lv_entry [.ref h0, .int x] (n := 2) (Nat.le_of_ble_eq_true rfl)
  rw [lg_entry_eq]
  generalize (lg_sl [.ref h0, .int x] ++ List.replicate (2 - (lg_sl [.ref h0, .int x]).length) Slot.unset).toArray = ls at hl ⊢
  have hl : lv_has ls 2 [(0, .ref h0), (1, .int x)] := hl
  have L_m1 : ((-1) : Int32).toInt = (-1) := by decide
  have L_0 : (0 : Int32).toInt = 0 := by decide
  have L_1 : (1 : Int32).toInt = 1 := by decide
  have L_255 : (255 : Int32).toInt = 255 := by decide
  refine lv_iload_n hx hb d_Bytes_at_0 rfl (lv_at hl 1 rfl) ?_
  refine lv_if_lt (tgt := 25) hx hb d_Bytes_at_1 (by decide) (fun h_9 => ?_) (fun h_9 => ?_)
  · skip
    have g1_2 : x.toInt < 0 := (i_lt rfl (by decide)).mp h_9
    refine lv_iconst (v := 0) hx hb d_Bytes_at_25 (by decide) ?_
    have hP9 := hP.sub (ws' := [(h0, .inr (1, [.ref q, .int L])), (q, .inl (cB, n, .inl f))]) [0, 1] rfl
    have hD9 := hD.sub (ws' := [(h0, .inr (1, [.ref q, .int L])), (q, .inl (cB, n, .inl f))]) [0, 1] (by decide +kernel) rfl
    exact W.iret (v := 0) hx hb hr (fun t ht hW => ⟨⟨0, (), rfl, ⟨(by (try dsimp only); first | assumption | omega | trivial), (by (try dsimp only); unfold atB; first | (rw [if_pos (by omega)]; subst_vars; rfl) | (rw [if_neg (by omega)]))⟩, by rw [ht]; exact hP9, hD9⟩, hS.F ht⟩) hS.2.2 d_Bytes_at_26
  · skip
    have g1_2 : ¬ x.toInt < 0 := fun h8 => h_9 ((i_lt rfl (by decide)).mpr h8)
    refine lv_iload_n hx hb d_Bytes_at_4 rfl (lv_at hl 1 rfl) ?_
    refine lv_aload_n hx hb d_Bytes_at_5 rfl (lv_at hl 0 rfl) ?_
    refine va_get (D := D) (ci := 1) (v := .int L) (C := "DiscMaker$Bytes") (T := F_Bytes) (N := 2) hx hb ht9 in_Bytes hown hK hP 0 rfl rfl 1 (by decide) (ht9 _ k258) (fun _ h9 => h9) rfl d_Bytes_at_6 ?_
    refine lv_icmp_ge (tgt := 25) hx hb d_Bytes_at_9 (by decide) (fun h_9 => ?_) (fun h_9 => ?_)
    · skip
      have g9_8 : L.toInt ≤ x.toInt := (i_le rfl rfl).mp h_9
      refine lv_iconst (v := 0) hx hb d_Bytes_at_25 (by decide) ?_
      have hP9 := hP.sub (ws' := [(h0, .inr (1, [.ref q, .int L])), (q, .inl (cB, n, .inl f))]) [0, 1] rfl
      have hD9 := hD.sub (ws' := [(h0, .inr (1, [.ref q, .int L])), (q, .inl (cB, n, .inl f))]) [0, 1] (by decide +kernel) rfl
      exact W.iret (v := 0) hx hb hr (fun t ht hW => ⟨⟨0, (), rfl, ⟨(by (try dsimp only); first | assumption | omega | trivial), (by (try dsimp only); unfold atB; first | (rw [if_pos (by omega)]; subst_vars; rfl) | (rw [if_neg (by omega)]))⟩, by rw [ht]; exact hP9, hD9⟩, hS.F ht⟩) hS.2.2 d_Bytes_at_26
    · skip
      have g9_8 : ¬ L.toInt ≤ x.toInt := fun h8 => h_9 ((i_le rfl rfl).mpr h8)
      refine lv_aload_n hx hb d_Bytes_at_12 rfl (lv_at hl 0 rfl) ?_
      refine va_get (D := D) (ci := 1) (v := .ref q) (C := "DiscMaker$Bytes") (T := F_Bytes) (N := 2) hx hb ht9 in_Bytes hown hK hP 0 rfl rfl 0 (by decide) (ht9 _ k256) (fun _ h9 => h9) rfl d_Bytes_at_13 ?_
      refine lv_iload_n hx hb d_Bytes_at_16 rfl (lv_at hl 1 rfl) ?_
      refine va_bald hx hb hK hP 1 0 rfl rfl (vp_in_iff.mpr ⟨by omega, by omega⟩) d_Bytes_at_17 ?_
      refine lv_topi (fun v1 e_v1 => ?_)
      refine lv_sipush (v := 255) hx hb d_Bytes_at_18 (by decide) ?_
      refine lv_iand hx hb d_Bytes_at_21 ?_
      refine lv_topi (fun v2 e_v2 => ?_)
      have t_v2 : 0 ≤ v2.toInt ∧ v2.toInt ≤ 255 := by rw [e_v2]; exact i_and (by decide) (by decide)
      refine lv_goto (tgt := 26) hx hb d_Bytes_at_22 (by decide) ?_
      have hP9 := hP.sub (ws' := [(h0, .inr (1, [.ref q, .int L])), (q, .inl (cB, n, .inl f))]) [0, 1] rfl
      have hD9 := hD.sub (ws' := [(h0, .inr (1, [.ref q, .int L])), (q, .inl (cB, n, .inl f))]) [0, 1] (by decide +kernel) rfl
      exact W.iret (v := v2) hx hb hr (fun t ht hW => ⟨⟨v2, (), rfl, ⟨(by (try dsimp only); first | assumption | omega | trivial), (by (try dsimp only); unfold atB; first | (rw [if_pos (by omega)]; subst_vars; rfl) | (rw [if_neg (by omega)]))⟩, by rw [ht]; exact hP9, hD9⟩, hS.F ht⟩) hS.2.2 d_Bytes_at_26

theorem d_Bytes_has_0 : decode b_Bytes_has 0 = .ok (.iload_n 1, 1) := by decide +kernel
theorem d_Bytes_has_1 : decode b_Bytes_has 1 = .ok (.ifCond .lt 15, 3) := by decide +kernel
theorem d_Bytes_has_4 : decode b_Bytes_has 4 = .ok (.iload_n 1, 1) := by decide +kernel
theorem d_Bytes_has_5 : decode b_Bytes_has 5 = .ok (.aload_n 0, 1) := by decide +kernel
theorem d_Bytes_has_6 : decode b_Bytes_has 6 = .ok (.getfield 25, 3) := by decide +kernel
theorem d_Bytes_has_9 : decode b_Bytes_has 9 = .ok (.if_icmp .ge 7, 3) := by decide +kernel
theorem d_Bytes_has_12 : decode b_Bytes_has 12 = .ok (.iconst 1, 1) := by decide +kernel
theorem d_Bytes_has_13 : decode b_Bytes_has 13 = .ok (.goto 4, 3) := by decide +kernel
theorem d_Bytes_has_16 : decode b_Bytes_has 16 = .ok (.iconst 0, 1) := by decide +kernel
theorem d_Bytes_has_17 : decode b_Bytes_has 17 = .ok (.ireturn, 1) := by decide +kernel
set_option maxHeartbeats 4000000 in
set_option maxRecDepth 100000 in
theorem c3_has (l : Launch) (D : va_G) (cB cI cJ cZ cN cF : ClassId) (sz : Nat) (h0 : Nat) (q : Nat) (n : Nat) (L : Int32) (f : Nat → Int32) (x : Int32) : Met l y_Bytes_has w_Bytes_has ({ frames := 0, cells := 0, slots := 0, locals := 0 }) (va_Pc [.ref h0, .int x] (fun U => U.heap.size = sz ∧ va_P D CL [(h0, .inr (1, [.ref q, .int L])), (q, .inl (cB, n, .inl f))] U.heap ∧ va_K D CL (TY cB cI cJ cZ cN cF) U ∧ NN U ∧ va_D (fun _ => True) [(h0, .inr (1, [.ref q, .int L])), (q, .inl (cB, n, .inl f))])) (va_Qi (fun (r : Int32) (u : Unit) => (0 ≤ r.toInt ∧ r.toInt ≤ 1) ∧ (r.toInt ≠ 0 → 0 ≤ x.toInt ∧ x.toInt < L.toInt)) (fun (u : Unit) (t : State) => match u with | () => va_P D CL [(h0, .inr (1, [.ref q, .int L])), (q, .inl (cB, n, .inl f))] t.heap ∧ va_D (va_A [(h0, .inr (1, [.ref q, .int L])), (q, .inl (cB, n, .inl f))] sz) [(h0, .inr (1, [.ref q, .int L])), (q, .inl (cB, n, .inl f))]) (va_A [(h0, .inr (1, [.ref q, .int L])), (q, .inl (cB, n, .inl f))] sz)) 0 0 (va_A [(h0, .inr (1, [.ref q, .int L])), (q, .inl (cB, n, .inl f))] sz) := by
  refine Met.ofW (cc := b_Bytes_has) (maxL := 2) (ret := some .boolean) (by decide +kernel) rfl ?_
  intro p e s m args below meth c s₁ B hml hv
  obtain ⟨rfl, hsz, hP, hK, hN, hD0⟩ := hv
  have hx := B.exec
  have hb := B.bytes
  have hr := B.returns
  have hts := atoms_spec (ws := w_Bytes_has) B.pre
  have ht9 := fun (w : Cond) (h : w ∈ lw_g) => hts w (List.mem_cons_of_mem _ h)
  have hown : s.vm.findClass "DiscMaker$Bytes" = some m.cls := findClass_of_methodNamed B.named
  have hlocks := B.notSynchronized
  subst hsz
  have hD := hD0.self (sz := s.heap.size)
  generalize hAe : va_A [(h0, .inr (1, [.ref q, .int L])), (q, .inl (cB, n, .inl f))] s.heap.size = A at hD ⊢
  have hA : ∀ q : Nat, s.heap.size ≤ q → A q := fun q h => by rw [← hAe]; exact Or.inr h
  have hS : va_S A s.heap s.heap [] := va_S.rf
  have hP : va_P D CL [(h0, .inr (1, [.ref q, .int L])), (q, .inl (cB, n, .inl f))] s.heap := hP
  have hl := lv_entry [.ref h0, .int x] (n := 2) (Nat.le_of_ble_eq_true rfl)
  rw [lg_entry_eq]
  generalize (lg_sl [.ref h0, .int x] ++ List.replicate (2 - (lg_sl [.ref h0, .int x]).length) Slot.unset).toArray = ls at hl ⊢
  have hl : lv_has ls 2 [(0, .ref h0), (1, .int x)] := hl
  have L_m1 : ((-1) : Int32).toInt = (-1) := by decide
  have L_0 : (0 : Int32).toInt = 0 := by decide
  have L_1 : (1 : Int32).toInt = 1 := by decide
  refine lv_iload_n hx hb d_Bytes_has_0 rfl (lv_at hl 1 rfl) ?_
  refine lv_if_lt (tgt := 16) hx hb d_Bytes_has_1 (by decide) (fun h_9 => ?_) (fun h_9 => ?_)
  · skip
    have g1_2 : x.toInt < 0 := (i_lt rfl (by decide)).mp h_9
    refine lv_iconst (v := 0) hx hb d_Bytes_has_16 (by decide) ?_
    have hP9 := hP.sub (ws' := [(h0, .inr (1, [.ref q, .int L])), (q, .inl (cB, n, .inl f))]) [0, 1] rfl
    have hD9 := hD.sub (ws' := [(h0, .inr (1, [.ref q, .int L])), (q, .inl (cB, n, .inl f))]) [0, 1] (by decide +kernel) rfl
    exact W.zret (v := 0) hx hb hr (by first | rfl | decide | exact i_narZ (by omega)) (fun t ht hW => ⟨⟨0, (), rfl, ⟨(by (try dsimp only); first | assumption | omega | trivial), (by (try dsimp only); intro h7; omega)⟩, by rw [ht]; exact hP9, hD9⟩, hS.F ht⟩) hS.2.2 d_Bytes_has_17
  · skip
    have g1_2 : ¬ x.toInt < 0 := fun h8 => h_9 ((i_lt rfl (by decide)).mpr h8)
    refine lv_iload_n hx hb d_Bytes_has_4 rfl (lv_at hl 1 rfl) ?_
    refine lv_aload_n hx hb d_Bytes_has_5 rfl (lv_at hl 0 rfl) ?_
    refine va_get (D := D) (ci := 1) (v := .int L) (C := "DiscMaker$Bytes") (T := F_Bytes) (N := 2) hx hb ht9 in_Bytes hown hK hP 0 rfl rfl 1 (by decide) (ht9 _ k258) (fun _ h9 => h9) rfl d_Bytes_has_6 ?_
    refine lv_icmp_ge (tgt := 16) hx hb d_Bytes_has_9 (by decide) (fun h_9 => ?_) (fun h_9 => ?_)
    · skip
      have g9_8 : L.toInt ≤ x.toInt := (i_le rfl rfl).mp h_9
      refine lv_iconst (v := 0) hx hb d_Bytes_has_16 (by decide) ?_
      have hP9 := hP.sub (ws' := [(h0, .inr (1, [.ref q, .int L])), (q, .inl (cB, n, .inl f))]) [0, 1] rfl
      have hD9 := hD.sub (ws' := [(h0, .inr (1, [.ref q, .int L])), (q, .inl (cB, n, .inl f))]) [0, 1] (by decide +kernel) rfl
      exact W.zret (v := 0) hx hb hr (by first | rfl | decide | exact i_narZ (by omega)) (fun t ht hW => ⟨⟨0, (), rfl, ⟨(by (try dsimp only); first | assumption | omega | trivial), (by (try dsimp only); intro h7; omega)⟩, by rw [ht]; exact hP9, hD9⟩, hS.F ht⟩) hS.2.2 d_Bytes_has_17
    · skip
      have g9_8 : ¬ L.toInt ≤ x.toInt := fun h8 => h_9 ((i_le rfl rfl).mpr h8)
      refine lv_iconst (v := 1) hx hb d_Bytes_has_12 (by decide) ?_
      refine lv_goto (tgt := 17) hx hb d_Bytes_has_13 (by decide) ?_
      have hP9 := hP.sub (ws' := [(h0, .inr (1, [.ref q, .int L])), (q, .inl (cB, n, .inl f))]) [0, 1] rfl
      have hD9 := hD.sub (ws' := [(h0, .inr (1, [.ref q, .int L])), (q, .inl (cB, n, .inl f))]) [0, 1] (by decide +kernel) rfl
      exact W.zret (v := 1) hx hb hr (by first | rfl | decide | exact i_narZ (by omega)) (fun t ht hW => ⟨⟨1, (), rfl, ⟨(by (try dsimp only); first | assumption | omega | trivial), (by (try dsimp only); intro h7; omega)⟩, by rw [ht]; exact hP9, hD9⟩, hS.F ht⟩) hS.2.2 d_Bytes_has_17

theorem d_Bytes_shorten_0 : decode b_Bytes_shorten 0 = .ok (.aload_n 0, 1) := by decide +kernel
theorem d_Bytes_shorten_1 : decode b_Bytes_shorten 1 = .ok (.iload_n 1, 1) := by decide +kernel
theorem d_Bytes_shorten_2 : decode b_Bytes_shorten 2 = .ok (.putfield 25, 3) := by decide +kernel
theorem d_Bytes_shorten_5 : decode b_Bytes_shorten 5 = .ok (.return_, 1) := by decide +kernel
set_option maxHeartbeats 4000000 in
set_option maxRecDepth 100000 in
theorem c3_shorten (l : Launch) (D : va_G) (cB cI cJ cZ cN cF : ClassId) (sz : Nat) (h0 : Nat) (q : Nat) (n : Nat) (L : Int32) (f : Nat → Int32) (x : Int32) : Met l y_Bytes_shorten w_Bytes_shorten ({ frames := 0, cells := 0, slots := 0, locals := 0 }) (va_Pc [.ref h0, .int x] (fun U => U.heap.size = sz ∧ va_P D CL [(h0, .inr (1, [.ref q, .int L])), (q, .inl (cB, n, .inl f))] U.heap ∧ va_K D CL (TY cB cI cJ cZ cN cF) U ∧ NN U ∧ va_D (fun _ => True) [(h0, .inr (1, [.ref q, .int L])), (q, .inl (cB, n, .inl f))])) (va_Qv (fun (u : Unit) => True) (fun (u : Unit) (t : State) => match u with | () => va_P D CL [(h0, .inr (1, [.ref q, .int x])), (q, .inl (cB, n, .inl f))] t.heap ∧ va_D (va_A [(h0, .inr (1, [.ref q, .int L])), (q, .inl (cB, n, .inl f))] sz) [(h0, .inr (1, [.ref q, .int x])), (q, .inl (cB, n, .inl f))]) (va_A [(h0, .inr (1, [.ref q, .int L])), (q, .inl (cB, n, .inl f))] sz)) 0 0 (va_A [(h0, .inr (1, [.ref q, .int L])), (q, .inl (cB, n, .inl f))] sz) := by
  refine Met.ofW (cc := b_Bytes_shorten) (maxL := 2) (ret := none) (by decide +kernel) rfl ?_
  intro p e s m args below meth c s₁ B hml hv
  obtain ⟨rfl, hsz, hP, hK, hN, hD0⟩ := hv
  have hx := B.exec
  have hb := B.bytes
  have hr := B.returns
  have hts := atoms_spec (ws := w_Bytes_shorten) B.pre
  have ht9 := fun (w : Cond) (h : w ∈ lw_g) => hts w (List.mem_cons_of_mem _ h)
  have hown : s.vm.findClass "DiscMaker$Bytes" = some m.cls := findClass_of_methodNamed B.named
  have hlocks := B.notSynchronized
  subst hsz
  have hD := hD0.self (sz := s.heap.size)
  generalize hAe : va_A [(h0, .inr (1, [.ref q, .int L])), (q, .inl (cB, n, .inl f))] s.heap.size = A at hD ⊢
  have hA : ∀ q : Nat, s.heap.size ≤ q → A q := fun q h => by rw [← hAe]; exact Or.inr h
  have hS : va_S A s.heap s.heap [] := va_S.rf
  have hP : va_P D CL [(h0, .inr (1, [.ref q, .int L])), (q, .inl (cB, n, .inl f))] s.heap := hP
  have hl := lv_entry [.ref h0, .int x] (n := 2) (Nat.le_of_ble_eq_true rfl)
  rw [lg_entry_eq]
  generalize (lg_sl [.ref h0, .int x] ++ List.replicate (2 - (lg_sl [.ref h0, .int x]).length) Slot.unset).toArray = ls at hl ⊢
  have hl : lv_has ls 2 [(0, .ref h0), (1, .int x)] := hl
  have L_m1 : ((-1) : Int32).toInt = (-1) := by decide
  have L_0 : (0 : Int32).toInt = 0 := by decide
  have L_1 : (1 : Int32).toInt = 1 := by decide
  refine lv_aload_n hx hb d_Bytes_shorten_0 rfl (lv_at hl 0 rfl) ?_
  refine lv_iload_n hx hb d_Bytes_shorten_1 rfl (lv_at hl 1 rfl) ?_
  refine va_put (D := D) (ci := 1) (v := .int x) (ty := .int) (C := "DiscMaker$Bytes") (T := F_Bytes) (N := 2) hx hb ht9 in_Bytes t_Bytes t_Bytes_ok n_Bytes hown hK hP hD hS 0 rfl rfl 1 (by decide) (ht9 _ k258) (fun _ h9 => h9) rfl (by decide +kernel) rfl rfl (Nat.le_of_ble_eq_true rfl) d_Bytes_shorten_2 (fun H locs hP hD hS => ?_)
  have hP : va_P D CL [(h0, .inr (1, [.ref q, .int x])), (q, .inl (cB, n, .inl f))] H := hP
  have hD : va_D A [(h0, .inr (1, [.ref q, .int x])), (q, .inl (cB, n, .inl f))] := hD
  have hP9 := hP.sub (ws' := [(h0, .inr (1, [.ref q, .int x])), (q, .inl (cB, n, .inl f))]) [0, 1] rfl
  have hD9 := hD.sub (ws' := [(h0, .inr (1, [.ref q, .int x])), (q, .inl (cB, n, .inl f))]) [0, 1] (by decide +kernel) rfl
  exact W.vret hx hb hr (fun t ht hW => ⟨⟨(), rfl, trivial, by rw [ht]; exact hP9, hD9⟩, hS.F ht⟩) hS.2.2 d_Bytes_shorten_5

theorem d_Bytes_extend_0 : decode b_Bytes_extend 0 = .ok (.aload_n 0, 1) := by decide +kernel
theorem d_Bytes_extend_1 : decode b_Bytes_extend 1 = .ok (.getfield 25, 3) := by decide +kernel
theorem d_Bytes_extend_4 : decode b_Bytes_extend 4 = .ok (.istore_n 2, 1) := by decide +kernel
theorem d_Bytes_extend_5 : decode b_Bytes_extend 5 = .ok (.aload_n 0, 1) := by decide +kernel
theorem d_Bytes_extend_6 : decode b_Bytes_extend 6 = .ok (.aload_n 0, 1) := by decide +kernel
theorem d_Bytes_extend_7 : decode b_Bytes_extend 7 = .ok (.getfield 25, 3) := by decide +kernel
theorem d_Bytes_extend_10 : decode b_Bytes_extend 10 = .ok (.iload_n 1, 1) := by decide +kernel
theorem d_Bytes_extend_11 : decode b_Bytes_extend 11 = .ok (.iadd, 1) := by decide +kernel
theorem d_Bytes_extend_12 : decode b_Bytes_extend 12 = .ok (.aload_n 0, 1) := by decide +kernel
theorem d_Bytes_extend_13 : decode b_Bytes_extend 13 = .ok (.getfield 7, 3) := by decide +kernel
theorem d_Bytes_extend_16 : decode b_Bytes_extend 16 = .ok (.arraylength, 1) := by decide +kernel
theorem d_Bytes_extend_17 : decode b_Bytes_extend 17 = .ok (.if_icmp .le 11, 3) := by decide +kernel
theorem d_Bytes_extend_20 : decode b_Bytes_extend 20 = .ok (.aload_n 0, 1) := by decide +kernel
theorem d_Bytes_extend_21 : decode b_Bytes_extend 21 = .ok (.getfield 7, 3) := by decide +kernel
theorem d_Bytes_extend_24 : decode b_Bytes_extend 24 = .ok (.arraylength, 1) := by decide +kernel
theorem d_Bytes_extend_25 : decode b_Bytes_extend 25 = .ok (.goto 9, 3) := by decide +kernel
theorem d_Bytes_extend_28 : decode b_Bytes_extend 28 = .ok (.aload_n 0, 1) := by decide +kernel
theorem d_Bytes_extend_29 : decode b_Bytes_extend 29 = .ok (.getfield 25, 3) := by decide +kernel
theorem d_Bytes_extend_32 : decode b_Bytes_extend 32 = .ok (.iload_n 1, 1) := by decide +kernel
theorem d_Bytes_extend_33 : decode b_Bytes_extend 33 = .ok (.iadd, 1) := by decide +kernel
theorem d_Bytes_extend_34 : decode b_Bytes_extend 34 = .ok (.putfield 25, 3) := by decide +kernel
theorem d_Bytes_extend_37 : decode b_Bytes_extend 37 = .ok (.iload_n 2, 1) := by decide +kernel
theorem d_Bytes_extend_38 : decode b_Bytes_extend 38 = .ok (.istore_n 3, 1) := by decide +kernel
theorem d_Bytes_extend_39 : decode b_Bytes_extend 39 = .ok (.iload_n 3, 1) := by decide +kernel
theorem d_Bytes_extend_40 : decode b_Bytes_extend 40 = .ok (.aload_n 0, 1) := by decide +kernel
theorem d_Bytes_extend_41 : decode b_Bytes_extend 41 = .ok (.getfield 25, 3) := by decide +kernel
theorem d_Bytes_extend_44 : decode b_Bytes_extend 44 = .ok (.if_icmp .ge 16, 3) := by decide +kernel
theorem d_Bytes_extend_47 : decode b_Bytes_extend 47 = .ok (.aload_n 0, 1) := by decide +kernel
theorem d_Bytes_extend_48 : decode b_Bytes_extend 48 = .ok (.getfield 7, 3) := by decide +kernel
theorem d_Bytes_extend_51 : decode b_Bytes_extend 51 = .ok (.iload_n 3, 1) := by decide +kernel
theorem d_Bytes_extend_52 : decode b_Bytes_extend 52 = .ok (.iconst 0, 1) := by decide +kernel
theorem d_Bytes_extend_53 : decode b_Bytes_extend 53 = .ok (.bastore, 1) := by decide +kernel
theorem d_Bytes_extend_54 : decode b_Bytes_extend 54 = .ok (.iinc 3 1, 3) := by decide +kernel
theorem d_Bytes_extend_57 : decode b_Bytes_extend 57 = .ok (.goto (-18), 3) := by decide +kernel
theorem d_Bytes_extend_60 : decode b_Bytes_extend 60 = .ok (.iload_n 2, 1) := by decide +kernel
theorem d_Bytes_extend_61 : decode b_Bytes_extend 61 = .ok (.ireturn, 1) := by decide +kernel
set_option maxHeartbeats 4000000 in
set_option maxRecDepth 100000 in
theorem c3_extend (l : Launch) (D : va_G) (cB cI cJ cZ cN cF : ClassId) (sz : Nat) (h0 : Nat) (q : Nat) (n : Nat) (L : Int32) (f : Nat → Int32) (x : Int32) (hL : 0 ≤ L.toInt ∧ L.toInt ≤ n) (hn : n ≤ 3000000) (hx0 : 0 ≤ x.toInt ∧ x.toInt ≤ 1000) : Met l y_Bytes_extend w_Bytes_extend ({ frames := 0, cells := 0, slots := 0, locals := 0 }) (va_Pc [.ref h0, .int x] (fun U => U.heap.size = sz ∧ va_P D CL [(h0, .inr (1, [.ref q, .int L])), (q, .inl (cB, n, .inl f))] U.heap ∧ va_K D CL (TY cB cI cJ cZ cN cF) U ∧ NN U ∧ va_D (fun _ => True) [(h0, .inr (1, [.ref q, .int L])), (q, .inl (cB, n, .inl f))])) (va_Qi (fun (r : Int32) (u : Int32 × (Nat → Int32)) => match u with | (L2, g) => (r = L) ∧ ((n < L.toInt + x.toInt ∧ L2.toInt = n) ∨ (L.toInt + x.toInt ≤ n ∧ L2.toInt = L.toInt + x.toInt))) (fun (u : Int32 × (Nat → Int32)) (t : State) => match u with | (L2, g) => va_P D CL [(h0, .inr (1, [.ref q, .int L2])), (q, .inl (cB, n, .inl g))] t.heap ∧ va_D (va_A [(h0, .inr (1, [.ref q, .int L])), (q, .inl (cB, n, .inl f))] sz) [(h0, .inr (1, [.ref q, .int L2])), (q, .inl (cB, n, .inl g))]) (va_A [(h0, .inr (1, [.ref q, .int L])), (q, .inl (cB, n, .inl f))] sz)) 0 0 (va_A [(h0, .inr (1, [.ref q, .int L])), (q, .inl (cB, n, .inl f))] sz) := by
  refine Met.ofW (cc := b_Bytes_extend) (maxL := 4) (ret := some .int) (by decide +kernel) rfl ?_
  intro p e s m args below meth c s₁ B hml hv
  obtain ⟨rfl, hsz, hP, hK, hN, hD0⟩ := hv
  have hx := B.exec
  have hb := B.bytes
  have hr := B.returns
  have hts := atoms_spec (ws := w_Bytes_extend) B.pre
  have ht9 := fun (w : Cond) (h : w ∈ lw_g) => hts w (List.mem_cons_of_mem _ h)
  have hown : s.vm.findClass "DiscMaker$Bytes" = some m.cls := findClass_of_methodNamed B.named
  have hlocks := B.notSynchronized
  subst hsz
  have hD := hD0.self (sz := s.heap.size)
  generalize hAe : va_A [(h0, .inr (1, [.ref q, .int L])), (q, .inl (cB, n, .inl f))] s.heap.size = A at hD ⊢
  have hA : ∀ q : Nat, s.heap.size ≤ q → A q := fun q h => by rw [← hAe]; exact Or.inr h
  have hS : va_S A s.heap s.heap [] := va_S.rf
  have hP : va_P D CL [(h0, .inr (1, [.ref q, .int L])), (q, .inl (cB, n, .inl f))] s.heap := hP
  have hl := lv_entry [.ref h0, .int x] (n := 4) (Nat.le_of_ble_eq_true rfl)
  rw [lg_entry_eq]
  generalize (lg_sl [.ref h0, .int x] ++ List.replicate (4 - (lg_sl [.ref h0, .int x]).length) Slot.unset).toArray = ls at hl ⊢
  have hl : lv_has ls 4 [(0, .ref h0), (1, .int x)] := hl
  have L_m1 : ((-1) : Int32).toInt = (-1) := by decide
  have L_0 : (0 : Int32).toInt = 0 := by decide
  have L_1 : (1 : Int32).toInt = 1 := by decide
  refine zz_labM (B := fun (lk : Nat) (K : Heap → List Loc → Array Slot → List Value → Prop) => ∀ (le : Int32) (H : Heap) (locs : List Loc) (ls : Array Slot), lk = 0 → (L.toInt ≤ le.toInt ∧ le.toInt ≤ n) → ((n < L.toInt + x.toInt ∧ le.toInt = n) ∨ (L.toInt + x.toInt ≤ n ∧ le.toInt = L.toInt + x.toInt)) → va_P D CL [(h0, .inr (1, [.ref q, .int L])), (q, .inl (cB, n, .inl f))] H → va_D A [(h0, .inr (1, [.ref q, .int L])), (q, .inl (cB, n, .inl f))] → va_S A s.heap H locs → lv_has ls 4 [(0, .ref h0), (1, .int x), (2, .int L)] → K H locs ls [.int le, .ref h0]) 34 ?_ ?_
  · skip
    intro lk ih34 le H locs ls hm34 f1 f0 hP hD hS hl
    refine va_put (D := D) (ci := 1) (v := .int le) (ty := .int) (C := "DiscMaker$Bytes") (T := F_Bytes) (N := 2) hx hb ht9 in_Bytes t_Bytes t_Bytes_ok n_Bytes hown hK hP hD hS 0 rfl rfl 1 (by decide) (ht9 _ k258) (fun _ h9 => h9) rfl (by decide +kernel) rfl rfl (Nat.le_of_ble_eq_true rfl) d_Bytes_extend_34 (fun H locs hP hD hS => ?_)
    have hP : va_P D CL [(h0, .inr (1, [.ref q, .int le])), (q, .inl (cB, n, .inl f))] H := hP
    have hD : va_D A [(h0, .inr (1, [.ref q, .int le])), (q, .inl (cB, n, .inl f))] := hD
    refine lv_iload_n hx hb d_Bytes_extend_37 rfl (lv_at hl 2 rfl) ?_
    refine lv_istore_n hx hb d_Bytes_extend_38 rfl hl (by decide) rfl (fun ls hl => ?_)
    have hl : lv_has ls 4 [(3, .int L), (0, .ref h0), (1, .int x), (2, .int L)] := hl
    refine zz_labM (B := fun (lk : Nat) (K : Heap → List Loc → Array Slot → List Value → Prop) => ∀ (kx : Int32) (lf : Nat → Int32) (H : Heap) (locs : List Loc) (ls : Array Slot), lk = (le.toInt - kx.toInt).toNat → (0 ≤ kx.toInt ∧ kx.toInt ≤ le.toInt) → va_P D CL [(h0, .inr (1, [.ref q, .int le])), (q, .inl (cB, n, .inl lf))] H → va_D A [(h0, .inr (1, [.ref q, .int le])), (q, .inl (cB, n, .inl lf))] → va_S A s.heap H locs → lv_has ls 4 [(0, .ref h0), (1, .int x), (2, .int L), (3, .int kx)] → K H locs ls []) 39 ?_ ?_
    · skip
      intro lk ih39 kx lf H locs ls hm39 f2 hP hD hS hl
      refine lv_iload_n hx hb d_Bytes_extend_39 rfl (lv_at hl 3 rfl) ?_
      refine lv_aload_n hx hb d_Bytes_extend_40 rfl (lv_at hl 0 rfl) ?_
      refine va_get (D := D) (ci := 1) (v := .int le) (C := "DiscMaker$Bytes") (T := F_Bytes) (N := 2) hx hb ht9 in_Bytes hown hK hP 0 rfl rfl 1 (by decide) (ht9 _ k258) (fun _ h9 => h9) rfl d_Bytes_extend_41 ?_
      refine lv_icmp_ge (tgt := 60) hx hb d_Bytes_extend_44 (by decide) (fun h_9 => ?_) (fun h_9 => ?_)
      · skip
        have g44_7 : le.toInt ≤ kx.toInt := (i_le rfl rfl).mp h_9
        refine lv_iload_n hx hb d_Bytes_extend_60 rfl (lv_at hl 2 rfl) ?_
        have hP9 := hP.sub (ws' := [(h0, .inr (1, [.ref q, .int le])), (q, .inl (cB, n, .inl lf))]) [0, 1] rfl
        have hD9 := hD.sub (ws' := [(h0, .inr (1, [.ref q, .int le])), (q, .inl (cB, n, .inl lf))]) [0, 1] (by decide +kernel) rfl
        exact W.iret (v := L) hx hb hr (fun t ht hW => ⟨⟨L, (le, lf), rfl, ⟨rfl, (by (try dsimp only); first | assumption | omega | trivial)⟩, by rw [ht]; exact hP9, hD9⟩, hS.F ht⟩) hS.2.2 d_Bytes_extend_61
      · skip
        have g44_7 : ¬ le.toInt ≤ kx.toInt := fun h8 => h_9 ((i_le rfl rfl).mpr h8)
        refine lv_aload_n hx hb d_Bytes_extend_47 rfl (lv_at hl 0 rfl) ?_
        refine va_get (D := D) (ci := 1) (v := .ref q) (C := "DiscMaker$Bytes") (T := F_Bytes) (N := 2) hx hb ht9 in_Bytes hown hK hP 0 rfl rfl 0 (by decide) (ht9 _ k256) (fun _ h9 => h9) rfl d_Bytes_extend_48 ?_
        refine lv_iload_n hx hb d_Bytes_extend_51 rfl (lv_at hl 3 rfl) ?_
        refine lv_iconst (v := 0) hx hb d_Bytes_extend_52 (by decide) ?_
        refine zq_bast hx hb hK hP hD hS 1 0 rfl rfl (vp_in_iff.mpr ⟨by omega, by omega⟩) d_Bytes_extend_53 (fun fz1 e_fz1 H locs hP hD hS => ?_)
        have hP : va_P D CL [(h0, .inr (1, [.ref q, .int le])), (q, .inl (cB, n, .inl fz1))] H := hP
        have hD : va_D A [(h0, .inr (1, [.ref q, .int le])), (q, .inl (cB, n, .inl fz1))] := hD
        obtain ⟨v2, e_v2⟩ : ∃ z : Int32, z = kx + 1 := ⟨_, rfl⟩
        refine lv_iinc (v := v2) hx hb d_Bytes_extend_54 hl (k := 3) rfl e_v2.symm (by decide +kernel) rfl (fun ls hl => ?_)
        have t_v2 : v2.toInt = kx.toInt + 1 := by rw [e_v2]; exact i_add rfl (by decide) (by omega) (by omega)
        have hl : lv_has ls 4 [(3, .int v2), (0, .ref h0), (1, .int x), (2, .int L)] := hl
        refine lv_goto (tgt := 39) hx hb d_Bytes_extend_57 (by decide) ?_
        have hP := hP.sub (ws' := [(h0, .inr (1, [.ref q, .int le])), (q, .inl (cB, n, .inl fz1))]) [0, 1] rfl
        have hD := hD.sub (ws' := [(h0, .inr (1, [.ref q, .int le])), (q, .inl (cB, n, .inl fz1))]) [0, 1] (by decide +kernel) rfl
        have hl := lv_sub hl [1, 2, 3, 0] rfl
        exact ih39 _ (by first | omega | (dsimp only; omega)) v2 fz1 _ _ _ rfl ((by (try dsimp only); first | assumption | omega | trivial)) hP hD hS hl
    · skip
      intro kk39
      have hP := hP.sub (ws' := [(h0, .inr (1, [.ref q, .int le])), (q, .inl (cB, n, .inl f))]) [0, 1] rfl
      have hD := hD.sub (ws' := [(h0, .inr (1, [.ref q, .int le])), (q, .inl (cB, n, .inl f))]) [0, 1] (by decide +kernel) rfl
      have hl := lv_sub hl [1, 2, 3, 0] rfl
      exact kk39 _ L f _ _ _ rfl ((by (try dsimp only); first | assumption | omega | trivial)) hP hD hS hl
  · skip
    intro kk34
    refine lv_aload_n hx hb d_Bytes_extend_0 rfl (lv_at hl 0 rfl) ?_
    refine va_get (D := D) (ci := 1) (v := .int L) (C := "DiscMaker$Bytes") (T := F_Bytes) (N := 2) hx hb ht9 in_Bytes hown hK hP 0 rfl rfl 1 (by decide) (ht9 _ k258) (fun _ h9 => h9) rfl d_Bytes_extend_1 ?_
    refine lv_istore_n hx hb d_Bytes_extend_4 rfl hl (by decide) rfl (fun ls hl => ?_)
    have hl : lv_has ls 4 [(2, .int L), (0, .ref h0), (1, .int x)] := hl
    refine lv_aload_n hx hb d_Bytes_extend_5 rfl (lv_at hl 1 rfl) ?_
    refine lv_aload_n hx hb d_Bytes_extend_6 rfl (lv_at hl 1 rfl) ?_
    refine va_get (D := D) (ci := 1) (v := .int L) (C := "DiscMaker$Bytes") (T := F_Bytes) (N := 2) hx hb ht9 in_Bytes hown hK hP 0 rfl rfl 1 (by decide) (ht9 _ k258) (fun _ h9 => h9) rfl d_Bytes_extend_7 ?_
    refine lv_iload_n hx hb d_Bytes_extend_10 rfl (lv_at hl 2 rfl) ?_
    refine lv_iadd hx hb d_Bytes_extend_11 ?_
    refine lv_topi (fun v3 e_v3 => ?_)
    have t_v3 : v3.toInt = L.toInt + x.toInt := by rw [e_v3]; exact i_add rfl rfl (by omega) (by omega)
    refine lv_aload_n hx hb d_Bytes_extend_12 rfl (lv_at hl 1 rfl) ?_
    refine va_get (D := D) (ci := 1) (v := .ref q) (C := "DiscMaker$Bytes") (T := F_Bytes) (N := 2) hx hb ht9 in_Bytes hown hK hP 0 rfl rfl 0 (by decide) (ht9 _ k256) (fun _ h9 => h9) rfl d_Bytes_extend_13 ?_
    refine va_alen (v := nI n) hx hb hK hP 1 0 rfl rfl rfl d_Bytes_extend_16 ?_
    refine lv_topi (fun v4 e_v4 => ?_)
    have t_v4 : v4.toInt = n := by rw [e_v4]; exact nI_toInt (by omega)
    refine lv_icmp_le (tgt := 28) hx hb d_Bytes_extend_17 (by decide) (fun h_9 => ?_) (fun h_9 => ?_)
    · skip
      have g17_29 : v3.toInt ≤ v4.toInt := (i_le rfl rfl).mp h_9
      refine lv_aload_n hx hb d_Bytes_extend_28 rfl (lv_at hl 1 rfl) ?_
      refine va_get (D := D) (ci := 1) (v := .int L) (C := "DiscMaker$Bytes") (T := F_Bytes) (N := 2) hx hb ht9 in_Bytes hown hK hP 0 rfl rfl 1 (by decide) (ht9 _ k258) (fun _ h9 => h9) rfl d_Bytes_extend_29 ?_
      refine lv_iload_n hx hb d_Bytes_extend_32 rfl (lv_at hl 2 rfl) ?_
      refine lv_iadd hx hb d_Bytes_extend_33 ?_
      refine lv_topi (fun v5 e_v5 => ?_)
      have t_v5 : v5.toInt = L.toInt + x.toInt := by rw [e_v5]; exact i_add rfl rfl (by omega) (by omega)
      have hP := hP.sub (ws' := [(h0, .inr (1, [.ref q, .int L])), (q, .inl (cB, n, .inl f))]) [0, 1] rfl
      have hD := hD.sub (ws' := [(h0, .inr (1, [.ref q, .int L])), (q, .inl (cB, n, .inl f))]) [0, 1] (by decide +kernel) rfl
      have hl := lv_sub hl [1, 2, 0] rfl
      exact kk34 _ v5 _ _ _ rfl ((by (try dsimp only); first | assumption | omega | trivial)) ((by (try dsimp only); first | assumption | omega | trivial)) hP hD hS hl
    · skip
      have g17_29 : ¬ v3.toInt ≤ v4.toInt := fun h8 => h_9 ((i_le rfl rfl).mpr h8)
      refine lv_aload_n hx hb d_Bytes_extend_20 rfl (lv_at hl 1 rfl) ?_
      refine va_get (D := D) (ci := 1) (v := .ref q) (C := "DiscMaker$Bytes") (T := F_Bytes) (N := 2) hx hb ht9 in_Bytes hown hK hP 0 rfl rfl 0 (by decide) (ht9 _ k256) (fun _ h9 => h9) rfl d_Bytes_extend_21 ?_
      refine va_alen (v := nI n) hx hb hK hP 1 0 rfl rfl rfl d_Bytes_extend_24 ?_
      refine lv_topi (fun v6 e_v6 => ?_)
      have t_v6 : v6.toInt = n := by rw [e_v6]; exact nI_toInt (by omega)
      refine lv_goto (tgt := 34) hx hb d_Bytes_extend_25 (by decide) ?_
      have hP := hP.sub (ws' := [(h0, .inr (1, [.ref q, .int L])), (q, .inl (cB, n, .inl f))]) [0, 1] rfl
      have hD := hD.sub (ws' := [(h0, .inr (1, [.ref q, .int L])), (q, .inl (cB, n, .inl f))]) [0, 1] (by decide +kernel) rfl
      have hl := lv_sub hl [1, 2, 0] rfl
      exact kk34 _ v6 _ _ _ rfl ((by (try dsimp only); first | assumption | omega | trivial)) ((by (try dsimp only); first | assumption | omega | trivial)) hP hD hS hl

theorem d_Bytes_fill_0 : decode b_Bytes_fill 0 = .ok (.iload_n 1, 1) := by decide +kernel
theorem d_Bytes_fill_1 : decode b_Bytes_fill 1 = .ok (.istore 4, 2) := by decide +kernel
theorem d_Bytes_fill_3 : decode b_Bytes_fill 3 = .ok (.iload 4, 2) := by decide +kernel
theorem d_Bytes_fill_5 : decode b_Bytes_fill 5 = .ok (.iload_n 2, 1) := by decide +kernel
theorem d_Bytes_fill_6 : decode b_Bytes_fill 6 = .ok (.if_icmp .ge 16, 3) := by decide +kernel
theorem d_Bytes_fill_9 : decode b_Bytes_fill 9 = .ok (.aload_n 0, 1) := by decide +kernel
theorem d_Bytes_fill_10 : decode b_Bytes_fill 10 = .ok (.iload 4, 2) := by decide +kernel
theorem d_Bytes_fill_12 : decode b_Bytes_fill 12 = .ok (.iload_n 3, 1) := by decide +kernel
theorem d_Bytes_fill_13 : decode b_Bytes_fill 13 = .ok (.invokevirtual 29, 3) := by decide +kernel
theorem d_Bytes_fill_16 : decode b_Bytes_fill 16 = .ok (.iinc 4 1, 3) := by decide +kernel
theorem d_Bytes_fill_19 : decode b_Bytes_fill 19 = .ok (.goto (-16), 3) := by decide +kernel
theorem d_Bytes_fill_22 : decode b_Bytes_fill 22 = .ok (.return_, 1) := by decide +kernel
set_option maxHeartbeats 4000000 in
set_option maxRecDepth 100000 in
theorem c3_fill (l : Launch) (D : va_G) (cB cI cJ cZ cN cF : ClassId) (sz : Nat) (h0 : Nat) (q : Nat) (n : Nat) (L : Int32) (f : Nat → Int32) (x : Int32) (y : Int32) (z : Int32) (hL : 0 ≤ L.toInt ∧ L.toInt ≤ n) (hn : n ≤ 3000000) : Met l y_Bytes_fill w_Bytes_fill ({ frames := 1, cells := 0, slots := 0, locals := 28 }) (va_Pc [.ref h0, .int x, .int y, .int z] (fun U => U.heap.size = sz ∧ va_P D CL [(h0, .inr (1, [.ref q, .int L])), (q, .inl (cB, n, .inl f))] U.heap ∧ va_K D CL (TY cB cI cJ cZ cN cF) U ∧ NN U ∧ va_D (fun _ => True) [(h0, .inr (1, [.ref q, .int L])), (q, .inl (cB, n, .inl f))])) (va_Qv (fun (u : (Nat → Int32)) => True) (fun (u : (Nat → Int32)) (t : State) => match u with | g => va_P D CL [(h0, .inr (1, [.ref q, .int L])), (q, .inl (cB, n, .inl g))] t.heap ∧ va_D (va_A [(h0, .inr (1, [.ref q, .int L])), (q, .inl (cB, n, .inl f))] sz) [(h0, .inr (1, [.ref q, .int L])), (q, .inl (cB, n, .inl g))]) (va_A [(h0, .inr (1, [.ref q, .int L])), (q, .inl (cB, n, .inl f))] sz)) 0 0 (va_A [(h0, .inr (1, [.ref q, .int L])), (q, .inl (cB, n, .inl f))] sz) := by
  refine Met.ofW (cc := b_Bytes_fill) (maxL := 5) (ret := none) (by decide +kernel) rfl ?_
  intro p e s m args below meth c s₁ B hml hv
  obtain ⟨rfl, hsz, hP, hK, hN, hD0⟩ := hv
  have hx := B.exec
  have hb := B.bytes
  have hr := B.returns
  have hts := atoms_spec (ws := w_Bytes_fill) B.pre
  have ht9 := fun (w : Cond) (h : w ∈ lw_g) => hts w (List.mem_cons_of_mem _ h)
  have hown : s.vm.findClass "DiscMaker$Bytes" = some m.cls := findClass_of_methodNamed B.named
  have hlocks := B.notSynchronized
  subst hsz
  have hD := hD0.self (sz := s.heap.size)
  generalize hAe : va_A [(h0, .inr (1, [.ref q, .int L])), (q, .inl (cB, n, .inl f))] s.heap.size = A at hD ⊢
  have hA : ∀ q : Nat, s.heap.size ≤ q → A q := fun q h => by rw [← hAe]; exact Or.inr h
  have hS : va_S A s.heap s.heap [] := va_S.rf
  have hP : va_P D CL [(h0, .inr (1, [.ref q, .int L])), (q, .inl (cB, n, .inl f))] s.heap := hP
  have hl := lv_entry [.ref h0, .int x, .int y, .int z] (n := 5) (Nat.le_of_ble_eq_true rfl)
  rw [lg_entry_eq]
  generalize (lg_sl [.ref h0, .int x, .int y, .int z] ++ List.replicate (5 - (lg_sl [.ref h0, .int x, .int y, .int z]).length) Slot.unset).toArray = ls at hl ⊢
  have hl : lv_has ls 5 [(0, .ref h0), (1, .int x), (2, .int y), (3, .int z)] := hl
  have L_m1 : ((-1) : Int32).toInt = (-1) := by decide
  have L_0 : (0 : Int32).toInt = 0 := by decide
  have L_1 : (1 : Int32).toInt = 1 := by decide
  have hyr := i_rng y
  refine lv_iload_n hx hb d_Bytes_fill_0 rfl (lv_at hl 1 rfl) ?_
  refine lv_istore hx hb d_Bytes_fill_1 hl (by decide) rfl (fun ls hl => ?_)
  have hl : lv_has ls 5 [(4, .int x), (0, .ref h0), (1, .int x), (2, .int y), (3, .int z)] := hl
  refine zz_labM (B := fun (lk : Nat) (K : Heap → List Loc → Array Slot → List Value → Prop) => ∀ (kx : Int32) (lf : Nat → Int32) (H : Heap) (locs : List Loc) (ls : Array Slot), lk = (y.toInt - kx.toInt).toNat → va_P D CL [(h0, .inr (1, [.ref q, .int L])), (q, .inl (cB, n, .inl lf))] H → va_D A [(h0, .inr (1, [.ref q, .int L])), (q, .inl (cB, n, .inl lf))] → va_S A s.heap H locs → lv_has ls 5 [(0, .ref h0), (1, .int x), (2, .int y), (3, .int z), (4, .int kx)] → K H locs ls []) 3 ?_ ?_
  · skip
    intro lk ih3 kx lf H locs ls hm3 hP hD hS hl
    have hkr := i_rng kx
    refine lv_iload hx hb d_Bytes_fill_3 (lv_at hl 4 rfl) ?_
    refine lv_iload_n hx hb d_Bytes_fill_5 rfl (lv_at hl 2 rfl) ?_
    refine lv_icmp_ge (tgt := 22) hx hb d_Bytes_fill_6 (by decide) (fun h_9 => ?_) (fun h_9 => ?_)
    · skip
      have g6_5 : y.toInt ≤ kx.toInt := (i_le rfl rfl).mp h_9
      have hP9 := hP.sub (ws' := [(h0, .inr (1, [.ref q, .int L])), (q, .inl (cB, n, .inl lf))]) [0, 1] rfl
      have hD9 := hD.sub (ws' := [(h0, .inr (1, [.ref q, .int L])), (q, .inl (cB, n, .inl lf))]) [0, 1] (by decide +kernel) rfl
      exact W.vret hx hb hr (fun t ht hW => ⟨⟨lf, rfl, trivial, by rw [ht]; exact hP9, hD9⟩, hS.F ht⟩) hS.2.2 d_Bytes_fill_22
    · skip
      have g6_5 : ¬ y.toInt ≤ kx.toInt := fun h8 => h_9 ((i_le rfl rfl).mpr h8)
      refine lv_aload_n hx hb d_Bytes_fill_9 rfl (lv_at hl 0 rfl) ?_
      refine lv_iload hx hb d_Bytes_fill_10 (lv_at hl 4 rfl) ?_
      refine lv_iload_n hx hb d_Bytes_fill_12 rfl (lv_at hl 3 rfl) ?_
      have hPc := hP.sub (ws' := [(h0, .inr (1, [.ref q, .int L])), (q, .inl (cB, n, .inl lf))]) [0, 1] rfl
      have hDc := hD.sub (ws' := [(h0, .inr (1, [.ref q, .int L])), (q, .inl (cB, n, .inl lf))]) [0, 1] (by decide +kernel) rfl
      have hFc := va_free (wc := [(h0, .inr (1, [.ref q, .int L])), (q, .inl (cB, n, .inl lf))]) hD hS hA [0, 1] rfl
      have hkc : 0 ≤ 0 := by decide
      have hks : 0 ≤ 0 := by decide
      refine va_callv (va_runV (C := "DiscMaker$Bytes") (As := [.int kx, .int z]) (rest := []) ⟨hx, hb, hml, hown, hts⟩ (c3_put l D cB cI cJ cZ cN cF H.size h0 q n L lf kx z (by (try dsimp only); first | assumption | omega | trivial) (by (try dsimp only); first | assumption | omega | trivial)) (cwV 2 hts (lg_goodV k988 k912 k913 k119 kc_Bytes_put) rfl rfl rfl (by decide +kernel) ⟨Nat.le_of_ble_eq_true rfl, Nat.le_of_ble_eq_true rfl⟩) ⟨fun a U g mk q => by obtain ⟨q0, q1, qP, qK, qN, qD⟩ := q; exact ⟨q0, q1, qP, va_K.moved (u := U) (U := U.calling g mk a) (Vm.Alike.refl U.vm) qK, qN.calling, qD⟩, va_recv hK hP (ci := 1) (q0 := 0) rfl rfl, fun U hU hW => ⟨rfl, by rw [hU], by rw [hU]; exact hPc, va_K.moved hW.alike hK, NN.warm hW hN, hDc.weaken (fun _ _ _ _ => trivial)⟩⟩ rfl rfl hl.1 rfl (lv_room (Nat.le_of_ble_eq_true rfl)) d_Bytes_fill_13 ⟨hkc, hks⟩) hS (fun q _ h => hFc q h) hFc (fun u t H1 locs ht hvm hp_r1 hB hz1 hk1 hS => ?_)
      obtain ⟨g_2, rfl⟩ : ∃ z, z = u := ⟨_, rfl⟩
      obtain ⟨hP1, hD1⟩ := hB
      rw [ht] at hP1
      obtain ⟨hP, hD⟩ := va_join (wr := []) (w1 := [(h0, .inr (1, [.ref q, .int L])), (q, .inl (cB, n, .inl g_2))]) hP hD [0, 1] [] rfl rfl (by decide +kernel) (by decide +kernel) hk1 hFc hP1 hD1
      clear hPc hDc hFc hP1 hD1 hk1 hz1 hkc hks
      generalize H1 = H at hP hS ⊢
      have hP : va_P D CL [(h0, .inr (1, [.ref q, .int L])), (q, .inl (cB, n, .inl g_2))] H := hP
      have hD : va_D A [(h0, .inr (1, [.ref q, .int L])), (q, .inl (cB, n, .inl g_2))] := hD
      obtain ⟨v3, e_v3⟩ : ∃ z : Int32, z = kx + 1 := ⟨_, rfl⟩
      refine lv_iinc (v := v3) hx hb d_Bytes_fill_16 hl (k := 4) rfl e_v3.symm (by decide +kernel) rfl (fun ls hl => ?_)
      have t_v3 : v3.toInt = kx.toInt + 1 := by rw [e_v3]; exact i_add rfl (by decide) (by omega) (by omega)
      have hl : lv_has ls 5 [(4, .int v3), (0, .ref h0), (1, .int x), (2, .int y), (3, .int z)] := hl
      refine lv_goto (tgt := 3) hx hb d_Bytes_fill_19 (by decide) ?_
      have hP := hP.sub (ws' := [(h0, .inr (1, [.ref q, .int L])), (q, .inl (cB, n, .inl g_2))]) [0, 1] rfl
      have hD := hD.sub (ws' := [(h0, .inr (1, [.ref q, .int L])), (q, .inl (cB, n, .inl g_2))]) [0, 1] (by decide +kernel) rfl
      have hl := lv_sub hl [1, 2, 3, 4, 0] rfl
      exact ih3 _ (by first | omega | (dsimp only; omega)) v3 g_2 _ _ _ rfl  hP hD hS hl
  · skip
    intro kk3
    have hP := hP.sub (ws' := [(h0, .inr (1, [.ref q, .int L])), (q, .inl (cB, n, .inl f))]) [0, 1] rfl
    have hD := hD.sub (ws' := [(h0, .inr (1, [.ref q, .int L])), (q, .inl (cB, n, .inl f))]) [0, 1] (by decide +kernel) rfl
    have hl := lv_sub hl [1, 2, 3, 4, 0] rfl
    exact kk3 _ x f _ _ _ rfl  hP hD hS hl

theorem d_Bytes_putRow_0 : decode b_Bytes_putRow 0 = .ok (.iconst 0, 1) := by decide +kernel
theorem d_Bytes_putRow_1 : decode b_Bytes_putRow 1 = .ok (.istore_n 3, 1) := by decide +kernel
theorem d_Bytes_putRow_2 : decode b_Bytes_putRow 2 = .ok (.iload_n 3, 1) := by decide +kernel
theorem d_Bytes_putRow_3 : decode b_Bytes_putRow 3 = .ok (.aload_n 2, 1) := by decide +kernel
theorem d_Bytes_putRow_4 : decode b_Bytes_putRow 4 = .ok (.arraylength, 1) := by decide +kernel
theorem d_Bytes_putRow_5 : decode b_Bytes_putRow 5 = .ok (.if_icmp .ge 19, 3) := by decide +kernel
theorem d_Bytes_putRow_8 : decode b_Bytes_putRow 8 = .ok (.aload_n 0, 1) := by decide +kernel
theorem d_Bytes_putRow_9 : decode b_Bytes_putRow 9 = .ok (.iload_n 1, 1) := by decide +kernel
theorem d_Bytes_putRow_10 : decode b_Bytes_putRow 10 = .ok (.iload_n 3, 1) := by decide +kernel
theorem d_Bytes_putRow_11 : decode b_Bytes_putRow 11 = .ok (.iadd, 1) := by decide +kernel
theorem d_Bytes_putRow_12 : decode b_Bytes_putRow 12 = .ok (.aload_n 2, 1) := by decide +kernel
theorem d_Bytes_putRow_13 : decode b_Bytes_putRow 13 = .ok (.iload_n 3, 1) := by decide +kernel
theorem d_Bytes_putRow_14 : decode b_Bytes_putRow 14 = .ok (.baload, 1) := by decide +kernel
theorem d_Bytes_putRow_15 : decode b_Bytes_putRow 15 = .ok (.invokevirtual 29, 3) := by decide +kernel
theorem d_Bytes_putRow_18 : decode b_Bytes_putRow 18 = .ok (.iinc 3 1, 3) := by decide +kernel
theorem d_Bytes_putRow_21 : decode b_Bytes_putRow 21 = .ok (.goto (-19), 3) := by decide +kernel
theorem d_Bytes_putRow_24 : decode b_Bytes_putRow 24 = .ok (.return_, 1) := by decide +kernel
set_option maxHeartbeats 4000000 in
set_option maxRecDepth 100000 in
theorem c3_putRowT (l : Launch) (D : va_G) (cB cI cJ cZ cN cF : ClassId) (sz : Nat) (h0 : Nat) (q : Nat) (n : Nat) (L : Int32) (f : Nat → Int32) (tt : Nat) (nt : Nat) (gv : Nat → Int32) (x : Int32) (hL : 0 ≤ L.toInt ∧ L.toInt ≤ n) (hn : n ≤ 3000000) (hnt : nt ≤ 1000) : Met l y_Bytes_putRow w_Bytes_putRow ({ frames := 1, cells := 0, slots := 0, locals := 28 }) (va_Pc [.ref h0, .int x, .ref tt] (fun U => U.heap.size = sz ∧ va_P D CL [(h0, .inr (1, [.ref q, .int L])), (q, .inl (cB, n, .inl f))] U.heap ∧ va_K D CL (TY cB cI cJ cZ cN cF) U ∧ NN U ∧ va_D (fun _ => True) [(h0, .inr (1, [.ref q, .int L])), (q, .inl (cB, n, .inl f))] ∧ va_T .byte tt nt (fun j => .int (gv j)) (va_A [(h0, .inr (1, [.ref q, .int L])), (q, .inl (cB, n, .inl f))] sz) U U.heap)) (va_Qv (fun (u : (Nat → Int32)) => True) (fun (u : (Nat → Int32)) (t : State) => match u with | g => va_P D CL [(h0, .inr (1, [.ref q, .int L])), (q, .inl (cB, n, .inl g))] t.heap ∧ va_D (va_A [(h0, .inr (1, [.ref q, .int L])), (q, .inl (cB, n, .inl f))] sz) [(h0, .inr (1, [.ref q, .int L])), (q, .inl (cB, n, .inl g))]) (va_A [(h0, .inr (1, [.ref q, .int L])), (q, .inl (cB, n, .inl f))] sz)) 0 0 (va_A [(h0, .inr (1, [.ref q, .int L])), (q, .inl (cB, n, .inl f))] sz) := by
  refine Met.ofW (cc := b_Bytes_putRow) (maxL := 4) (ret := none) (by decide +kernel) rfl ?_
  intro p e s m args below meth c s₁ B hml hv
  obtain ⟨rfl, hsz, hP, hK, hN, hD0, hZt⟩ := hv
  have hx := B.exec
  have hb := B.bytes
  have hr := B.returns
  have hts := atoms_spec (ws := w_Bytes_putRow) B.pre
  have ht9 := fun (w : Cond) (h : w ∈ lw_g) => hts w (List.mem_cons_of_mem _ h)
  have hown : s.vm.findClass "DiscMaker$Bytes" = some m.cls := findClass_of_methodNamed B.named
  have hlocks := B.notSynchronized
  subst hsz
  have hD := hD0.self (sz := s.heap.size)
  generalize hAe : va_A [(h0, .inr (1, [.ref q, .int L])), (q, .inl (cB, n, .inl f))] s.heap.size = A at hD hZt ⊢
  have hA : ∀ q : Nat, s.heap.size ≤ q → A q := fun q h => by rw [← hAe]; exact Or.inr h
  have hS : va_S A s.heap s.heap [] := va_S.rf
  have hP : va_P D CL [(h0, .inr (1, [.ref q, .int L])), (q, .inl (cB, n, .inl f))] s.heap := hP
  have hl := lv_entry [.ref h0, .int x, .ref tt] (n := 4) (Nat.le_of_ble_eq_true rfl)
  rw [lg_entry_eq]
  generalize (lg_sl [.ref h0, .int x, .ref tt] ++ List.replicate (4 - (lg_sl [.ref h0, .int x, .ref tt]).length) Slot.unset).toArray = ls at hl ⊢
  have hl : lv_has ls 4 [(0, .ref h0), (1, .int x), (2, .ref tt)] := hl
  have L_m1 : ((-1) : Int32).toInt = (-1) := by decide
  have L_0 : (0 : Int32).toInt = 0 := by decide
  have L_1 : (1 : Int32).toInt = 1 := by decide
  refine lv_iconst (v := 0) hx hb d_Bytes_putRow_0 (by decide) ?_
  refine lv_istore_n hx hb d_Bytes_putRow_1 rfl hl (by decide) rfl (fun ls hl => ?_)
  have hl : lv_has ls 4 [(3, .int 0), (0, .ref h0), (1, .int x), (2, .ref tt)] := hl
  refine zz_labM (B := fun (lk : Nat) (K : Heap → List Loc → Array Slot → List Value → Prop) => ∀ (kx : Int32) (lf : Nat → Int32) (H : Heap) (locs : List Loc) (ls : Array Slot), lk = (nt - kx.toInt).toNat → (0 ≤ kx.toInt ∧ (kx.toInt = 0 ∨ kx.toInt ≤ nt)) → va_P D CL [(h0, .inr (1, [.ref q, .int L])), (q, .inl (cB, n, .inl lf))] H → va_D A [(h0, .inr (1, [.ref q, .int L])), (q, .inl (cB, n, .inl lf))] → va_S A s.heap H locs → lv_has ls 4 [(0, .ref h0), (1, .int x), (2, .ref tt), (3, .int kx)] → K H locs ls []) 2 ?_ ?_
  · skip
    intro lk ih2 kx lf H locs ls hm2 f1 hP hD hS hl
    refine lv_iload_n hx hb d_Bytes_putRow_2 rfl (lv_at hl 3 rfl) ?_
    refine lv_aload_n hx hb d_Bytes_putRow_3 rfl (lv_at hl 2 rfl) ?_
    refine va_tlen (v := nI nt) hx hb hZt hS rfl d_Bytes_putRow_4 ?_
    refine lv_topi (fun v1 e_v1 => ?_)
    have t_v1 : v1.toInt = nt := by rw [e_v1]; exact nI_toInt (by omega)
    refine lv_icmp_ge (tgt := 24) hx hb d_Bytes_putRow_5 (by decide) (fun h_9 => ?_) (fun h_9 => ?_)
    · skip
      have g5_6 : v1.toInt ≤ kx.toInt := (i_le rfl rfl).mp h_9
      have hP9 := hP.sub (ws' := [(h0, .inr (1, [.ref q, .int L])), (q, .inl (cB, n, .inl lf))]) [0, 1] rfl
      have hD9 := hD.sub (ws' := [(h0, .inr (1, [.ref q, .int L])), (q, .inl (cB, n, .inl lf))]) [0, 1] (by decide +kernel) rfl
      exact W.vret hx hb hr (fun t ht hW => ⟨⟨lf, rfl, trivial, by rw [ht]; exact hP9, hD9⟩, hS.F ht⟩) hS.2.2 d_Bytes_putRow_24
    · skip
      have g5_6 : ¬ v1.toInt ≤ kx.toInt := fun h8 => h_9 ((i_le rfl rfl).mpr h8)
      refine lv_aload_n hx hb d_Bytes_putRow_8 rfl (lv_at hl 0 rfl) ?_
      refine lv_iload_n hx hb d_Bytes_putRow_9 rfl (lv_at hl 1 rfl) ?_
      refine lv_iload_n hx hb d_Bytes_putRow_10 rfl (lv_at hl 3 rfl) ?_
      refine lv_iadd hx hb d_Bytes_putRow_11 ?_
      refine lv_topi (fun v2 e_v2 => ?_)
      refine lv_aload_n hx hb d_Bytes_putRow_12 rfl (lv_at hl 2 rfl) ?_
      refine lv_iload_n hx hb d_Bytes_putRow_13 rfl (lv_at hl 3 rfl) ?_
      refine va_tb (v := .int (gv kx.toNatClampNeg)) hx hb hZt hS (vp_in_iff.mpr ⟨by omega, by omega⟩) rfl d_Bytes_putRow_14 ?_
      refine lv_topi (fun v3 e_v3 => ?_)
      have hPc := hP.sub (ws' := [(h0, .inr (1, [.ref q, .int L])), (q, .inl (cB, n, .inl lf))]) [0, 1] rfl
      have hDc := hD.sub (ws' := [(h0, .inr (1, [.ref q, .int L])), (q, .inl (cB, n, .inl lf))]) [0, 1] (by decide +kernel) rfl
      have hFc := va_free (wc := [(h0, .inr (1, [.ref q, .int L])), (q, .inl (cB, n, .inl lf))]) hD hS hA [0, 1] rfl
      have hkc : 0 ≤ 0 := by decide
      have hks : 0 ≤ 0 := by decide
      refine va_callv (va_runV (C := "DiscMaker$Bytes") (As := [.int v2, .int v3]) (rest := []) ⟨hx, hb, hml, hown, hts⟩ (c3_put l D cB cI cJ cZ cN cF H.size h0 q n L lf v2 v3 (by (try dsimp only); first | assumption | omega | trivial) (by (try dsimp only); first | assumption | omega | trivial)) (cwV 2 hts (lg_goodV k988 k912 k913 k119 kc_Bytes_put) rfl rfl rfl (by decide +kernel) ⟨Nat.le_of_ble_eq_true rfl, Nat.le_of_ble_eq_true rfl⟩) ⟨fun a U g mk q => by obtain ⟨q0, q1, qP, qK, qN, qD⟩ := q; exact ⟨q0, q1, qP, va_K.moved (u := U) (U := U.calling g mk a) (Vm.Alike.refl U.vm) qK, qN.calling, qD⟩, va_recv hK hP (ci := 1) (q0 := 0) rfl rfl, fun U hU hW => ⟨rfl, by rw [hU], by rw [hU]; exact hPc, va_K.moved hW.alike hK, NN.warm hW hN, hDc.weaken (fun _ _ _ _ => trivial)⟩⟩ rfl rfl hl.1 rfl (lv_room (Nat.le_of_ble_eq_true rfl)) d_Bytes_putRow_15 ⟨hkc, hks⟩) hS (fun q _ h => hFc q h) hFc (fun u t H1 locs ht hvm hp_r4 hB hz1 hk1 hS => ?_)
      obtain ⟨g_5, rfl⟩ : ∃ z, z = u := ⟨_, rfl⟩
      obtain ⟨hP1, hD1⟩ := hB
      rw [ht] at hP1
      obtain ⟨hP, hD⟩ := va_join (wr := []) (w1 := [(h0, .inr (1, [.ref q, .int L])), (q, .inl (cB, n, .inl g_5))]) hP hD [0, 1] [] rfl rfl (by decide +kernel) (by decide +kernel) hk1 hFc hP1 hD1
      clear hPc hDc hFc hP1 hD1 hk1 hz1 hkc hks
      generalize H1 = H at hP hS ⊢
      have hP : va_P D CL [(h0, .inr (1, [.ref q, .int L])), (q, .inl (cB, n, .inl g_5))] H := hP
      have hD : va_D A [(h0, .inr (1, [.ref q, .int L])), (q, .inl (cB, n, .inl g_5))] := hD
      obtain ⟨v6, e_v6⟩ : ∃ z : Int32, z = kx + 1 := ⟨_, rfl⟩
      refine lv_iinc (v := v6) hx hb d_Bytes_putRow_18 hl (k := 3) rfl e_v6.symm (by decide +kernel) rfl (fun ls hl => ?_)
      have t_v6 : v6.toInt = kx.toInt + 1 := by rw [e_v6]; exact i_add rfl (by decide) (by omega) (by omega)
      have hl : lv_has ls 4 [(3, .int v6), (0, .ref h0), (1, .int x), (2, .ref tt)] := hl
      refine lv_goto (tgt := 2) hx hb d_Bytes_putRow_21 (by decide) ?_
      have hP := hP.sub (ws' := [(h0, .inr (1, [.ref q, .int L])), (q, .inl (cB, n, .inl g_5))]) [0, 1] rfl
      have hD := hD.sub (ws' := [(h0, .inr (1, [.ref q, .int L])), (q, .inl (cB, n, .inl g_5))]) [0, 1] (by decide +kernel) rfl
      have hl := lv_sub hl [1, 2, 3, 0] rfl
      exact ih2 _ (by first | omega | (dsimp only; omega)) v6 g_5 _ _ _ rfl ((by (try dsimp only); first | assumption | omega | trivial)) hP hD hS hl
  · skip
    intro kk2
    have hP := hP.sub (ws' := [(h0, .inr (1, [.ref q, .int L])), (q, .inl (cB, n, .inl f))]) [0, 1] rfl
    have hD := hD.sub (ws' := [(h0, .inr (1, [.ref q, .int L])), (q, .inl (cB, n, .inl f))]) [0, 1] (by decide +kernel) rfl
    have hl := lv_sub hl [1, 2, 3, 0] rfl
    exact kk2 _ 0 f _ _ _ rfl ((by (try dsimp only); first | assumption | omega | trivial)) hP hD hS hl

set_option maxHeartbeats 4000000 in
set_option maxRecDepth 100000 in
theorem c3_putRow (l : Launch) (D : va_G) (cB cI cJ cZ cN cF : ClassId) (sz : Nat) (h0 : Nat) (q : Nat) (n : Nat) (L : Int32) (f : Nat → Int32) (tt : Nat) (nt : Nat) (gv : Nat → Int32) (x : Int32) (hL : 0 ≤ L.toInt ∧ L.toInt ≤ n) (hn : n ≤ 3000000) (hnt : nt ≤ 1000) : Met l y_Bytes_putRow w_Bytes_putRow ({ frames := 1, cells := 0, slots := 0, locals := 28 }) (va_Pc [.ref h0, .int x, .ref tt] (fun U => U.heap.size = sz ∧ va_P D CL [(h0, .inr (1, [.ref q, .int L])), (q, .inl (cB, n, .inl f))] U.heap ∧ va_K D CL (TY cB cI cJ cZ cN cF) U ∧ NN U ∧ va_D (fun _ => True) [(h0, .inr (1, [.ref q, .int L])), (q, .inl (cB, n, .inl f))] ∧ RO D [(tt, .inl (cB, nt, .inl gv))] (va_A [(h0, .inr (1, [.ref q, .int L])), (q, .inl (cB, n, .inl f))] sz) U U.heap)) (va_Qv (fun (u : (Nat → Int32)) => True) (fun (u : (Nat → Int32)) (t : State) => match u with | g => va_P D CL [(h0, .inr (1, [.ref q, .int L])), (q, .inl (cB, n, .inl g))] t.heap ∧ va_D (va_A [(h0, .inr (1, [.ref q, .int L])), (q, .inl (cB, n, .inl f))] sz) [(h0, .inr (1, [.ref q, .int L])), (q, .inl (cB, n, .inl g))]) (va_A [(h0, .inr (1, [.ref q, .int L])), (q, .inl (cB, n, .inl f))] sz)) 0 0 (va_A [(h0, .inr (1, [.ref q, .int L])), (q, .inl (cB, n, .inl f))] sz) := by
  refine Met.ofW (cc := b_Bytes_putRow) (maxL := 4) (ret := none) (by decide +kernel) rfl ?_
  intro p e s m args below meth c s₁ B hml hv
  obtain ⟨rfl, hsz, hP, hK, hN, hD0, hZr⟩ := hv
  have hx := B.exec
  have hb := B.bytes
  have hr := B.returns
  have hts := atoms_spec (ws := w_Bytes_putRow) B.pre
  have ht9 := fun (w : Cond) (h : w ∈ lw_g) => hts w (List.mem_cons_of_mem _ h)
  have hown : s.vm.findClass "DiscMaker$Bytes" = some m.cls := findClass_of_methodNamed B.named
  have hlocks := B.notSynchronized
  subst hsz
  have hD := hD0.self (sz := s.heap.size)
  generalize hAe : va_A [(h0, .inr (1, [.ref q, .int L])), (q, .inl (cB, n, .inl f))] s.heap.size = A at hD hZr ⊢
  have hA : ∀ q : Nat, s.heap.size ≤ q → A q := fun q h => by rw [← hAe]; exact Or.inr h
  have hS : va_S A s.heap s.heap [] := va_S.rf
  have hP : va_P D CL [(h0, .inr (1, [.ref q, .int L])), (q, .inl (cB, n, .inl f))] s.heap := hP
  have hl := lv_entry [.ref h0, .int x, .ref tt] (n := 4) (Nat.le_of_ble_eq_true rfl)
  rw [lg_entry_eq]
  generalize (lg_sl [.ref h0, .int x, .ref tt] ++ List.replicate (4 - (lg_sl [.ref h0, .int x, .ref tt]).length) Slot.unset).toArray = ls at hl ⊢
  have hl : lv_has ls 4 [(0, .ref h0), (1, .int x), (2, .ref tt)] := hl
  have L_m1 : ((-1) : Int32).toInt = (-1) := by decide
  have L_0 : (0 : Int32).toInt = 0 := by decide
  have L_1 : (1 : Int32).toInt = 1 := by decide
  refine lv_iconst (v := 0) hx hb d_Bytes_putRow_0 (by decide) ?_
  refine lv_istore_n hx hb d_Bytes_putRow_1 rfl hl (by decide) rfl (fun ls hl => ?_)
  have hl : lv_has ls 4 [(3, .int 0), (0, .ref h0), (1, .int x), (2, .ref tt)] := hl
  refine zz_labM (B := fun (lk : Nat) (K : Heap → List Loc → Array Slot → List Value → Prop) => ∀ (kx : Int32) (lf : Nat → Int32) (H : Heap) (locs : List Loc) (ls : Array Slot), lk = (nt - kx.toInt).toNat → (0 ≤ kx.toInt ∧ (kx.toInt = 0 ∨ kx.toInt ≤ nt)) → va_P D CL [(h0, .inr (1, [.ref q, .int L])), (q, .inl (cB, n, .inl lf))] H → va_D A [(h0, .inr (1, [.ref q, .int L])), (q, .inl (cB, n, .inl lf))] → va_S A s.heap H locs → lv_has ls 4 [(0, .ref h0), (1, .int x), (2, .ref tt), (3, .int kx)] → K H locs ls []) 2 ?_ ?_
  · skip
    intro lk ih2 kx lf H locs ls hm2 f1 hP hD hS hl
    refine lv_iload_n hx hb d_Bytes_putRow_2 rfl (lv_at hl 3 rfl) ?_
    refine lv_aload_n hx hb d_Bytes_putRow_3 rfl (lv_at hl 2 rfl) ?_
    have hPR := RO_at hZr hS
    refine va_alen (v := nI nt) hx hb hK hPR 0 0 rfl rfl rfl d_Bytes_putRow_4 ?_
    refine lv_topi (fun v1 e_v1 => ?_)
    have t_v1 : v1.toInt = nt := by rw [e_v1]; exact nI_toInt (by omega)
    refine lv_icmp_ge (tgt := 24) hx hb d_Bytes_putRow_5 (by decide) (fun h_9 => ?_) (fun h_9 => ?_)
    · skip
      have g5_6 : v1.toInt ≤ kx.toInt := (i_le rfl rfl).mp h_9
      have hP9 := hP.sub (ws' := [(h0, .inr (1, [.ref q, .int L])), (q, .inl (cB, n, .inl lf))]) [0, 1] rfl
      have hD9 := hD.sub (ws' := [(h0, .inr (1, [.ref q, .int L])), (q, .inl (cB, n, .inl lf))]) [0, 1] (by decide +kernel) rfl
      exact W.vret hx hb hr (fun t ht hW => ⟨⟨lf, rfl, trivial, by rw [ht]; exact hP9, hD9⟩, hS.F ht⟩) hS.2.2 d_Bytes_putRow_24
    · skip
      have g5_6 : ¬ v1.toInt ≤ kx.toInt := fun h8 => h_9 ((i_le rfl rfl).mpr h8)
      refine lv_aload_n hx hb d_Bytes_putRow_8 rfl (lv_at hl 0 rfl) ?_
      refine lv_iload_n hx hb d_Bytes_putRow_9 rfl (lv_at hl 1 rfl) ?_
      refine lv_iload_n hx hb d_Bytes_putRow_10 rfl (lv_at hl 3 rfl) ?_
      refine lv_iadd hx hb d_Bytes_putRow_11 ?_
      refine lv_topi (fun v2 e_v2 => ?_)
      refine lv_aload_n hx hb d_Bytes_putRow_12 rfl (lv_at hl 2 rfl) ?_
      refine lv_iload_n hx hb d_Bytes_putRow_13 rfl (lv_at hl 3 rfl) ?_
      have hPR := RO_at hZr hS
      refine va_bald hx hb hK hPR 0 0 rfl rfl (vp_in_iff.mpr ⟨by omega, by omega⟩) d_Bytes_putRow_14 ?_
      refine lv_topi (fun v3 e_v3 => ?_)
      have hPc := hP.sub (ws' := [(h0, .inr (1, [.ref q, .int L])), (q, .inl (cB, n, .inl lf))]) [0, 1] rfl
      have hDc := hD.sub (ws' := [(h0, .inr (1, [.ref q, .int L])), (q, .inl (cB, n, .inl lf))]) [0, 1] (by decide +kernel) rfl
      have hFc := va_free (wc := [(h0, .inr (1, [.ref q, .int L])), (q, .inl (cB, n, .inl lf))]) hD hS hA [0, 1] rfl
      have hkc : 0 ≤ 0 := by decide
      have hks : 0 ≤ 0 := by decide
      refine va_callv (va_runV (C := "DiscMaker$Bytes") (As := [.int v2, .int v3]) (rest := []) ⟨hx, hb, hml, hown, hts⟩ (c3_put l D cB cI cJ cZ cN cF H.size h0 q n L lf v2 v3 (by (try dsimp only); first | assumption | omega | trivial) (by (try dsimp only); first | assumption | omega | trivial)) (cwV 2 hts (lg_goodV k988 k912 k913 k119 kc_Bytes_put) rfl rfl rfl (by decide +kernel) ⟨Nat.le_of_ble_eq_true rfl, Nat.le_of_ble_eq_true rfl⟩) ⟨fun a U g mk q => by obtain ⟨q0, q1, qP, qK, qN, qD⟩ := q; exact ⟨q0, q1, qP, va_K.moved (u := U) (U := U.calling g mk a) (Vm.Alike.refl U.vm) qK, qN.calling, qD⟩, va_recv hK hP (ci := 1) (q0 := 0) rfl rfl, fun U hU hW => ⟨rfl, by rw [hU], by rw [hU]; exact hPc, va_K.moved hW.alike hK, NN.warm hW hN, hDc.weaken (fun _ _ _ _ => trivial)⟩⟩ rfl rfl hl.1 rfl (lv_room (Nat.le_of_ble_eq_true rfl)) d_Bytes_putRow_15 ⟨hkc, hks⟩) hS (fun q _ h => hFc q h) hFc (fun u t H1 locs ht hvm hp_r4 hB hz1 hk1 hS => ?_)
      obtain ⟨g_5, rfl⟩ : ∃ z, z = u := ⟨_, rfl⟩
      obtain ⟨hP1, hD1⟩ := hB
      rw [ht] at hP1
      obtain ⟨hP, hD⟩ := va_join (wr := []) (w1 := [(h0, .inr (1, [.ref q, .int L])), (q, .inl (cB, n, .inl g_5))]) hP hD [0, 1] [] rfl rfl (by decide +kernel) (by decide +kernel) hk1 hFc hP1 hD1
      clear hPc hDc hFc hP1 hD1 hk1 hz1 hkc hks
      generalize H1 = H at hP hS ⊢
      have hP : va_P D CL [(h0, .inr (1, [.ref q, .int L])), (q, .inl (cB, n, .inl g_5))] H := hP
      have hD : va_D A [(h0, .inr (1, [.ref q, .int L])), (q, .inl (cB, n, .inl g_5))] := hD
      obtain ⟨v6, e_v6⟩ : ∃ z : Int32, z = kx + 1 := ⟨_, rfl⟩
      refine lv_iinc (v := v6) hx hb d_Bytes_putRow_18 hl (k := 3) rfl e_v6.symm (by decide +kernel) rfl (fun ls hl => ?_)
      have t_v6 : v6.toInt = kx.toInt + 1 := by rw [e_v6]; exact i_add rfl (by decide) (by omega) (by omega)
      have hl : lv_has ls 4 [(3, .int v6), (0, .ref h0), (1, .int x), (2, .ref tt)] := hl
      refine lv_goto (tgt := 2) hx hb d_Bytes_putRow_21 (by decide) ?_
      have hP := hP.sub (ws' := [(h0, .inr (1, [.ref q, .int L])), (q, .inl (cB, n, .inl g_5))]) [0, 1] rfl
      have hD := hD.sub (ws' := [(h0, .inr (1, [.ref q, .int L])), (q, .inl (cB, n, .inl g_5))]) [0, 1] (by decide +kernel) rfl
      have hl := lv_sub hl [1, 2, 3, 0] rfl
      exact ih2 _ (by first | omega | (dsimp only; omega)) v6 g_5 _ _ _ rfl ((by (try dsimp only); first | assumption | omega | trivial)) hP hD hS hl
  · skip
    intro kk2
    have hP := hP.sub (ws' := [(h0, .inr (1, [.ref q, .int L])), (q, .inl (cB, n, .inl f))]) [0, 1] rfl
    have hD := hD.sub (ws' := [(h0, .inr (1, [.ref q, .int L])), (q, .inl (cB, n, .inl f))]) [0, 1] (by decide +kernel) rfl
    have hl := lv_sub hl [1, 2, 3, 0] rfl
    exact kk2 _ 0 f _ _ _ rfl ((by (try dsimp only); first | assumption | omega | trivial)) hP hD hS hl

theorem d_Bytes_putLow_0 : decode b_Bytes_putLow 0 = .ok (.iconst 0, 1) := by decide +kernel
theorem d_Bytes_putLow_1 : decode b_Bytes_putLow 1 = .ok (.istore 4, 2) := by decide +kernel
theorem d_Bytes_putLow_3 : decode b_Bytes_putLow 3 = .ok (.iload 4, 2) := by decide +kernel
theorem d_Bytes_putLow_5 : decode b_Bytes_putLow 5 = .ok (.iload_n 3, 1) := by decide +kernel
theorem d_Bytes_putLow_6 : decode b_Bytes_putLow 6 = .ok (.if_icmp .ge 24, 3) := by decide +kernel
theorem d_Bytes_putLow_9 : decode b_Bytes_putLow 9 = .ok (.aload_n 0, 1) := by decide +kernel
theorem d_Bytes_putLow_10 : decode b_Bytes_putLow 10 = .ok (.iload_n 1, 1) := by decide +kernel
theorem d_Bytes_putLow_11 : decode b_Bytes_putLow 11 = .ok (.iload 4, 2) := by decide +kernel
theorem d_Bytes_putLow_13 : decode b_Bytes_putLow 13 = .ok (.iadd, 1) := by decide +kernel
theorem d_Bytes_putLow_14 : decode b_Bytes_putLow 14 = .ok (.iload_n 2, 1) := by decide +kernel
theorem d_Bytes_putLow_15 : decode b_Bytes_putLow 15 = .ok (.bipush 8, 2) := by decide +kernel
theorem d_Bytes_putLow_17 : decode b_Bytes_putLow 17 = .ok (.iload 4, 2) := by decide +kernel
theorem d_Bytes_putLow_19 : decode b_Bytes_putLow 19 = .ok (.imul, 1) := by decide +kernel
theorem d_Bytes_putLow_20 : decode b_Bytes_putLow 20 = .ok (.ishr, 1) := by decide +kernel
theorem d_Bytes_putLow_21 : decode b_Bytes_putLow 21 = .ok (.invokevirtual 29, 3) := by decide +kernel
theorem d_Bytes_putLow_24 : decode b_Bytes_putLow 24 = .ok (.iinc 4 1, 3) := by decide +kernel
theorem d_Bytes_putLow_27 : decode b_Bytes_putLow 27 = .ok (.goto (-24), 3) := by decide +kernel
theorem d_Bytes_putLow_30 : decode b_Bytes_putLow 30 = .ok (.return_, 1) := by decide +kernel
set_option maxHeartbeats 4000000 in
set_option maxRecDepth 100000 in
theorem c3_putLow (l : Launch) (D : va_G) (cB cI cJ cZ cN cF : ClassId) (sz : Nat) (h0 : Nat) (q : Nat) (n : Nat) (L : Int32) (f : Nat → Int32) (x : Int32) (y : Int32) (z : Int32) (hL : 0 ≤ L.toInt ∧ L.toInt ≤ n) (hn : n ≤ 3000000) (hz : z.toInt ≤ 4) : Met l y_Bytes_putLow w_Bytes_putLow ({ frames := 1, cells := 0, slots := 0, locals := 28 }) (va_Pc [.ref h0, .int x, .int y, .int z] (fun U => U.heap.size = sz ∧ va_P D CL [(h0, .inr (1, [.ref q, .int L])), (q, .inl (cB, n, .inl f))] U.heap ∧ va_K D CL (TY cB cI cJ cZ cN cF) U ∧ NN U ∧ va_D (fun _ => True) [(h0, .inr (1, [.ref q, .int L])), (q, .inl (cB, n, .inl f))])) (va_Qv (fun (u : (Nat → Int32)) => True) (fun (u : (Nat → Int32)) (t : State) => match u with | g => va_P D CL [(h0, .inr (1, [.ref q, .int L])), (q, .inl (cB, n, .inl g))] t.heap ∧ va_D (va_A [(h0, .inr (1, [.ref q, .int L])), (q, .inl (cB, n, .inl f))] sz) [(h0, .inr (1, [.ref q, .int L])), (q, .inl (cB, n, .inl g))]) (va_A [(h0, .inr (1, [.ref q, .int L])), (q, .inl (cB, n, .inl f))] sz)) 0 0 (va_A [(h0, .inr (1, [.ref q, .int L])), (q, .inl (cB, n, .inl f))] sz) := by
  refine Met.ofW (cc := b_Bytes_putLow) (maxL := 5) (ret := none) (by decide +kernel) rfl ?_
  intro p e s m args below meth c s₁ B hml hv
  obtain ⟨rfl, hsz, hP, hK, hN, hD0⟩ := hv
  have hx := B.exec
  have hb := B.bytes
  have hr := B.returns
  have hts := atoms_spec (ws := w_Bytes_putLow) B.pre
  have ht9 := fun (w : Cond) (h : w ∈ lw_g) => hts w (List.mem_cons_of_mem _ h)
  have hown : s.vm.findClass "DiscMaker$Bytes" = some m.cls := findClass_of_methodNamed B.named
  have hlocks := B.notSynchronized
  subst hsz
  have hD := hD0.self (sz := s.heap.size)
  generalize hAe : va_A [(h0, .inr (1, [.ref q, .int L])), (q, .inl (cB, n, .inl f))] s.heap.size = A at hD ⊢
  have hA : ∀ q : Nat, s.heap.size ≤ q → A q := fun q h => by rw [← hAe]; exact Or.inr h
  have hS : va_S A s.heap s.heap [] := va_S.rf
  have hP : va_P D CL [(h0, .inr (1, [.ref q, .int L])), (q, .inl (cB, n, .inl f))] s.heap := hP
  have hl := lv_entry [.ref h0, .int x, .int y, .int z] (n := 5) (Nat.le_of_ble_eq_true rfl)
  rw [lg_entry_eq]
  generalize (lg_sl [.ref h0, .int x, .int y, .int z] ++ List.replicate (5 - (lg_sl [.ref h0, .int x, .int y, .int z]).length) Slot.unset).toArray = ls at hl ⊢
  have hl : lv_has ls 5 [(0, .ref h0), (1, .int x), (2, .int y), (3, .int z)] := hl
  have L_m1 : ((-1) : Int32).toInt = (-1) := by decide
  have L_0 : (0 : Int32).toInt = 0 := by decide
  have L_1 : (1 : Int32).toInt = 1 := by decide
  have L_8 : (8 : Int32).toInt = 8 := by decide
  refine lv_iconst (v := 0) hx hb d_Bytes_putLow_0 (by decide) ?_
  refine lv_istore hx hb d_Bytes_putLow_1 hl (by decide) rfl (fun ls hl => ?_)
  have hl : lv_has ls 5 [(4, .int 0), (0, .ref h0), (1, .int x), (2, .int y), (3, .int z)] := hl
  refine zz_labM (B := fun (lk : Nat) (K : Heap → List Loc → Array Slot → List Value → Prop) => ∀ (kx : Int32) (lf : Nat → Int32) (H : Heap) (locs : List Loc) (ls : Array Slot), lk = (z.toInt - kx.toInt).toNat → (0 ≤ kx.toInt ∧ (kx.toInt = 0 ∨ kx.toInt ≤ z.toInt)) → va_P D CL [(h0, .inr (1, [.ref q, .int L])), (q, .inl (cB, n, .inl lf))] H → va_D A [(h0, .inr (1, [.ref q, .int L])), (q, .inl (cB, n, .inl lf))] → va_S A s.heap H locs → lv_has ls 5 [(0, .ref h0), (1, .int x), (2, .int y), (3, .int z), (4, .int kx)] → K H locs ls []) 3 ?_ ?_
  · skip
    intro lk ih3 kx lf H locs ls hm3 f1 hP hD hS hl
    refine lv_iload hx hb d_Bytes_putLow_3 (lv_at hl 4 rfl) ?_
    refine lv_iload_n hx hb d_Bytes_putLow_5 rfl (lv_at hl 3 rfl) ?_
    refine lv_icmp_ge (tgt := 30) hx hb d_Bytes_putLow_6 (by decide) (fun h_9 => ?_) (fun h_9 => ?_)
    · skip
      have g6_5 : z.toInt ≤ kx.toInt := (i_le rfl rfl).mp h_9
      have hP9 := hP.sub (ws' := [(h0, .inr (1, [.ref q, .int L])), (q, .inl (cB, n, .inl lf))]) [0, 1] rfl
      have hD9 := hD.sub (ws' := [(h0, .inr (1, [.ref q, .int L])), (q, .inl (cB, n, .inl lf))]) [0, 1] (by decide +kernel) rfl
      exact W.vret hx hb hr (fun t ht hW => ⟨⟨lf, rfl, trivial, by rw [ht]; exact hP9, hD9⟩, hS.F ht⟩) hS.2.2 d_Bytes_putLow_30
    · skip
      have g6_5 : ¬ z.toInt ≤ kx.toInt := fun h8 => h_9 ((i_le rfl rfl).mpr h8)
      refine lv_aload_n hx hb d_Bytes_putLow_9 rfl (lv_at hl 0 rfl) ?_
      refine lv_iload_n hx hb d_Bytes_putLow_10 rfl (lv_at hl 1 rfl) ?_
      refine lv_iload hx hb d_Bytes_putLow_11 (lv_at hl 4 rfl) ?_
      refine lv_iadd hx hb d_Bytes_putLow_13 ?_
      refine lv_topi (fun v1 e_v1 => ?_)
      refine lv_iload_n hx hb d_Bytes_putLow_14 rfl (lv_at hl 2 rfl) ?_
      refine lv_bipush (v := 8) hx hb d_Bytes_putLow_15 (by decide) ?_
      refine lv_iload hx hb d_Bytes_putLow_17 (lv_at hl 4 rfl) ?_
      refine lv_imul hx hb d_Bytes_putLow_19 ?_
      refine lv_topi (fun v2 e_v2 => ?_)
      refine lv_ishr hx hb d_Bytes_putLow_20 ?_
      refine lv_topi (fun v3 e_v3 => ?_)
      have hPc := hP.sub (ws' := [(h0, .inr (1, [.ref q, .int L])), (q, .inl (cB, n, .inl lf))]) [0, 1] rfl
      have hDc := hD.sub (ws' := [(h0, .inr (1, [.ref q, .int L])), (q, .inl (cB, n, .inl lf))]) [0, 1] (by decide +kernel) rfl
      have hFc := va_free (wc := [(h0, .inr (1, [.ref q, .int L])), (q, .inl (cB, n, .inl lf))]) hD hS hA [0, 1] rfl
      have hkc : 0 ≤ 0 := by decide
      have hks : 0 ≤ 0 := by decide
      refine va_callv (va_runV (C := "DiscMaker$Bytes") (As := [.int v1, .int v3]) (rest := []) ⟨hx, hb, hml, hown, hts⟩ (c3_put l D cB cI cJ cZ cN cF H.size h0 q n L lf v1 v3 (by (try dsimp only); first | assumption | omega | trivial) (by (try dsimp only); first | assumption | omega | trivial)) (cwV 2 hts (lg_goodV k988 k912 k913 k119 kc_Bytes_put) rfl rfl rfl (by decide +kernel) ⟨Nat.le_of_ble_eq_true rfl, Nat.le_of_ble_eq_true rfl⟩) ⟨fun a U g mk q => by obtain ⟨q0, q1, qP, qK, qN, qD⟩ := q; exact ⟨q0, q1, qP, va_K.moved (u := U) (U := U.calling g mk a) (Vm.Alike.refl U.vm) qK, qN.calling, qD⟩, va_recv hK hP (ci := 1) (q0 := 0) rfl rfl, fun U hU hW => ⟨rfl, by rw [hU], by rw [hU]; exact hPc, va_K.moved hW.alike hK, NN.warm hW hN, hDc.weaken (fun _ _ _ _ => trivial)⟩⟩ rfl rfl hl.1 rfl (lv_room (Nat.le_of_ble_eq_true rfl)) d_Bytes_putLow_21 ⟨hkc, hks⟩) hS (fun q _ h => hFc q h) hFc (fun u t H1 locs ht hvm hp_r4 hB hz1 hk1 hS => ?_)
      obtain ⟨g_5, rfl⟩ : ∃ z, z = u := ⟨_, rfl⟩
      obtain ⟨hP1, hD1⟩ := hB
      rw [ht] at hP1
      obtain ⟨hP, hD⟩ := va_join (wr := []) (w1 := [(h0, .inr (1, [.ref q, .int L])), (q, .inl (cB, n, .inl g_5))]) hP hD [0, 1] [] rfl rfl (by decide +kernel) (by decide +kernel) hk1 hFc hP1 hD1
      clear hPc hDc hFc hP1 hD1 hk1 hz1 hkc hks
      generalize H1 = H at hP hS ⊢
      have hP : va_P D CL [(h0, .inr (1, [.ref q, .int L])), (q, .inl (cB, n, .inl g_5))] H := hP
      have hD : va_D A [(h0, .inr (1, [.ref q, .int L])), (q, .inl (cB, n, .inl g_5))] := hD
      obtain ⟨v6, e_v6⟩ : ∃ z : Int32, z = kx + 1 := ⟨_, rfl⟩
      refine lv_iinc (v := v6) hx hb d_Bytes_putLow_24 hl (k := 4) rfl e_v6.symm (by decide +kernel) rfl (fun ls hl => ?_)
      have t_v6 : v6.toInt = kx.toInt + 1 := by rw [e_v6]; exact i_add rfl (by decide) (by omega) (by omega)
      have hl : lv_has ls 5 [(4, .int v6), (0, .ref h0), (1, .int x), (2, .int y), (3, .int z)] := hl
      refine lv_goto (tgt := 3) hx hb d_Bytes_putLow_27 (by decide) ?_
      have hP := hP.sub (ws' := [(h0, .inr (1, [.ref q, .int L])), (q, .inl (cB, n, .inl g_5))]) [0, 1] rfl
      have hD := hD.sub (ws' := [(h0, .inr (1, [.ref q, .int L])), (q, .inl (cB, n, .inl g_5))]) [0, 1] (by decide +kernel) rfl
      have hl := lv_sub hl [1, 2, 3, 4, 0] rfl
      exact ih3 _ (by first | omega | (dsimp only; omega)) v6 g_5 _ _ _ rfl ((by (try dsimp only); first | assumption | omega | trivial)) hP hD hS hl
  · skip
    intro kk3
    have hP := hP.sub (ws' := [(h0, .inr (1, [.ref q, .int L])), (q, .inl (cB, n, .inl f))]) [0, 1] rfl
    have hD := hD.sub (ws' := [(h0, .inr (1, [.ref q, .int L])), (q, .inl (cB, n, .inl f))]) [0, 1] (by decide +kernel) rfl
    have hl := lv_sub hl [1, 2, 3, 4, 0] rfl
    exact kk3 _ 0 f _ _ _ rfl ((by (try dsimp only); first | assumption | omega | trivial)) hP hD hS hl

theorem d_Bytes_putHigh_0 : decode b_Bytes_putHigh 0 = .ok (.iconst 0, 1) := by decide +kernel
theorem d_Bytes_putHigh_1 : decode b_Bytes_putHigh 1 = .ok (.istore 4, 2) := by decide +kernel
theorem d_Bytes_putHigh_3 : decode b_Bytes_putHigh 3 = .ok (.iload 4, 2) := by decide +kernel
theorem d_Bytes_putHigh_5 : decode b_Bytes_putHigh 5 = .ok (.iload_n 3, 1) := by decide +kernel
theorem d_Bytes_putHigh_6 : decode b_Bytes_putHigh 6 = .ok (.if_icmp .ge 28, 3) := by decide +kernel
theorem d_Bytes_putHigh_9 : decode b_Bytes_putHigh 9 = .ok (.aload_n 0, 1) := by decide +kernel
theorem d_Bytes_putHigh_10 : decode b_Bytes_putHigh 10 = .ok (.iload_n 1, 1) := by decide +kernel
theorem d_Bytes_putHigh_11 : decode b_Bytes_putHigh 11 = .ok (.iload_n 3, 1) := by decide +kernel
theorem d_Bytes_putHigh_12 : decode b_Bytes_putHigh 12 = .ok (.iadd, 1) := by decide +kernel
theorem d_Bytes_putHigh_13 : decode b_Bytes_putHigh 13 = .ok (.iconst 1, 1) := by decide +kernel
theorem d_Bytes_putHigh_14 : decode b_Bytes_putHigh 14 = .ok (.isub, 1) := by decide +kernel
theorem d_Bytes_putHigh_15 : decode b_Bytes_putHigh 15 = .ok (.iload 4, 2) := by decide +kernel
theorem d_Bytes_putHigh_17 : decode b_Bytes_putHigh 17 = .ok (.isub, 1) := by decide +kernel
theorem d_Bytes_putHigh_18 : decode b_Bytes_putHigh 18 = .ok (.iload_n 2, 1) := by decide +kernel
theorem d_Bytes_putHigh_19 : decode b_Bytes_putHigh 19 = .ok (.bipush 8, 2) := by decide +kernel
theorem d_Bytes_putHigh_21 : decode b_Bytes_putHigh 21 = .ok (.iload 4, 2) := by decide +kernel
theorem d_Bytes_putHigh_23 : decode b_Bytes_putHigh 23 = .ok (.imul, 1) := by decide +kernel
theorem d_Bytes_putHigh_24 : decode b_Bytes_putHigh 24 = .ok (.ishr, 1) := by decide +kernel
theorem d_Bytes_putHigh_25 : decode b_Bytes_putHigh 25 = .ok (.invokevirtual 29, 3) := by decide +kernel
theorem d_Bytes_putHigh_28 : decode b_Bytes_putHigh 28 = .ok (.iinc 4 1, 3) := by decide +kernel
theorem d_Bytes_putHigh_31 : decode b_Bytes_putHigh 31 = .ok (.goto (-28), 3) := by decide +kernel
theorem d_Bytes_putHigh_34 : decode b_Bytes_putHigh 34 = .ok (.return_, 1) := by decide +kernel
set_option maxHeartbeats 4000000 in
set_option maxRecDepth 100000 in
theorem c3_putHigh (l : Launch) (D : va_G) (cB cI cJ cZ cN cF : ClassId) (sz : Nat) (h0 : Nat) (q : Nat) (n : Nat) (L : Int32) (f : Nat → Int32) (x : Int32) (y : Int32) (z : Int32) (hL : 0 ≤ L.toInt ∧ L.toInt ≤ n) (hn : n ≤ 3000000) (hz : z.toInt ≤ 4) : Met l y_Bytes_putHigh w_Bytes_putHigh ({ frames := 1, cells := 0, slots := 0, locals := 28 }) (va_Pc [.ref h0, .int x, .int y, .int z] (fun U => U.heap.size = sz ∧ va_P D CL [(h0, .inr (1, [.ref q, .int L])), (q, .inl (cB, n, .inl f))] U.heap ∧ va_K D CL (TY cB cI cJ cZ cN cF) U ∧ NN U ∧ va_D (fun _ => True) [(h0, .inr (1, [.ref q, .int L])), (q, .inl (cB, n, .inl f))])) (va_Qv (fun (u : (Nat → Int32)) => True) (fun (u : (Nat → Int32)) (t : State) => match u with | g => va_P D CL [(h0, .inr (1, [.ref q, .int L])), (q, .inl (cB, n, .inl g))] t.heap ∧ va_D (va_A [(h0, .inr (1, [.ref q, .int L])), (q, .inl (cB, n, .inl f))] sz) [(h0, .inr (1, [.ref q, .int L])), (q, .inl (cB, n, .inl g))]) (va_A [(h0, .inr (1, [.ref q, .int L])), (q, .inl (cB, n, .inl f))] sz)) 0 0 (va_A [(h0, .inr (1, [.ref q, .int L])), (q, .inl (cB, n, .inl f))] sz) := by
  refine Met.ofW (cc := b_Bytes_putHigh) (maxL := 5) (ret := none) (by decide +kernel) rfl ?_
  intro p e s m args below meth c s₁ B hml hv
  obtain ⟨rfl, hsz, hP, hK, hN, hD0⟩ := hv
  have hx := B.exec
  have hb := B.bytes
  have hr := B.returns
  have hts := atoms_spec (ws := w_Bytes_putHigh) B.pre
  have ht9 := fun (w : Cond) (h : w ∈ lw_g) => hts w (List.mem_cons_of_mem _ h)
  have hown : s.vm.findClass "DiscMaker$Bytes" = some m.cls := findClass_of_methodNamed B.named
  have hlocks := B.notSynchronized
  subst hsz
  have hD := hD0.self (sz := s.heap.size)
  generalize hAe : va_A [(h0, .inr (1, [.ref q, .int L])), (q, .inl (cB, n, .inl f))] s.heap.size = A at hD ⊢
  have hA : ∀ q : Nat, s.heap.size ≤ q → A q := fun q h => by rw [← hAe]; exact Or.inr h
  have hS : va_S A s.heap s.heap [] := va_S.rf
  have hP : va_P D CL [(h0, .inr (1, [.ref q, .int L])), (q, .inl (cB, n, .inl f))] s.heap := hP
  have hl := lv_entry [.ref h0, .int x, .int y, .int z] (n := 5) (Nat.le_of_ble_eq_true rfl)
  rw [lg_entry_eq]
  generalize (lg_sl [.ref h0, .int x, .int y, .int z] ++ List.replicate (5 - (lg_sl [.ref h0, .int x, .int y, .int z]).length) Slot.unset).toArray = ls at hl ⊢
  have hl : lv_has ls 5 [(0, .ref h0), (1, .int x), (2, .int y), (3, .int z)] := hl
  have L_m1 : ((-1) : Int32).toInt = (-1) := by decide
  have L_0 : (0 : Int32).toInt = 0 := by decide
  have L_1 : (1 : Int32).toInt = 1 := by decide
  have L_8 : (8 : Int32).toInt = 8 := by decide
  refine lv_iconst (v := 0) hx hb d_Bytes_putHigh_0 (by decide) ?_
  refine lv_istore hx hb d_Bytes_putHigh_1 hl (by decide) rfl (fun ls hl => ?_)
  have hl : lv_has ls 5 [(4, .int 0), (0, .ref h0), (1, .int x), (2, .int y), (3, .int z)] := hl
  refine zz_labM (B := fun (lk : Nat) (K : Heap → List Loc → Array Slot → List Value → Prop) => ∀ (kx : Int32) (lf : Nat → Int32) (H : Heap) (locs : List Loc) (ls : Array Slot), lk = (z.toInt - kx.toInt).toNat → (0 ≤ kx.toInt ∧ (kx.toInt = 0 ∨ kx.toInt ≤ z.toInt)) → va_P D CL [(h0, .inr (1, [.ref q, .int L])), (q, .inl (cB, n, .inl lf))] H → va_D A [(h0, .inr (1, [.ref q, .int L])), (q, .inl (cB, n, .inl lf))] → va_S A s.heap H locs → lv_has ls 5 [(0, .ref h0), (1, .int x), (2, .int y), (3, .int z), (4, .int kx)] → K H locs ls []) 3 ?_ ?_
  · skip
    intro lk ih3 kx lf H locs ls hm3 f1 hP hD hS hl
    refine lv_iload hx hb d_Bytes_putHigh_3 (lv_at hl 4 rfl) ?_
    refine lv_iload_n hx hb d_Bytes_putHigh_5 rfl (lv_at hl 3 rfl) ?_
    refine lv_icmp_ge (tgt := 34) hx hb d_Bytes_putHigh_6 (by decide) (fun h_9 => ?_) (fun h_9 => ?_)
    · skip
      have g6_5 : z.toInt ≤ kx.toInt := (i_le rfl rfl).mp h_9
      have hP9 := hP.sub (ws' := [(h0, .inr (1, [.ref q, .int L])), (q, .inl (cB, n, .inl lf))]) [0, 1] rfl
      have hD9 := hD.sub (ws' := [(h0, .inr (1, [.ref q, .int L])), (q, .inl (cB, n, .inl lf))]) [0, 1] (by decide +kernel) rfl
      exact W.vret hx hb hr (fun t ht hW => ⟨⟨lf, rfl, trivial, by rw [ht]; exact hP9, hD9⟩, hS.F ht⟩) hS.2.2 d_Bytes_putHigh_34
    · skip
      have g6_5 : ¬ z.toInt ≤ kx.toInt := fun h8 => h_9 ((i_le rfl rfl).mpr h8)
      refine lv_aload_n hx hb d_Bytes_putHigh_9 rfl (lv_at hl 0 rfl) ?_
      refine lv_iload_n hx hb d_Bytes_putHigh_10 rfl (lv_at hl 1 rfl) ?_
      refine lv_iload_n hx hb d_Bytes_putHigh_11 rfl (lv_at hl 3 rfl) ?_
      refine lv_iadd hx hb d_Bytes_putHigh_12 ?_
      refine lv_topi (fun v1 e_v1 => ?_)
      refine lv_iconst (v := 1) hx hb d_Bytes_putHigh_13 (by decide) ?_
      refine lv_isub hx hb d_Bytes_putHigh_14 ?_
      refine lv_topi (fun v2 e_v2 => ?_)
      refine lv_iload hx hb d_Bytes_putHigh_15 (lv_at hl 4 rfl) ?_
      refine lv_isub hx hb d_Bytes_putHigh_17 ?_
      refine lv_topi (fun v3 e_v3 => ?_)
      refine lv_iload_n hx hb d_Bytes_putHigh_18 rfl (lv_at hl 2 rfl) ?_
      refine lv_bipush (v := 8) hx hb d_Bytes_putHigh_19 (by decide) ?_
      refine lv_iload hx hb d_Bytes_putHigh_21 (lv_at hl 4 rfl) ?_
      refine lv_imul hx hb d_Bytes_putHigh_23 ?_
      refine lv_topi (fun v4 e_v4 => ?_)
      refine lv_ishr hx hb d_Bytes_putHigh_24 ?_
      refine lv_topi (fun v5 e_v5 => ?_)
      have hPc := hP.sub (ws' := [(h0, .inr (1, [.ref q, .int L])), (q, .inl (cB, n, .inl lf))]) [0, 1] rfl
      have hDc := hD.sub (ws' := [(h0, .inr (1, [.ref q, .int L])), (q, .inl (cB, n, .inl lf))]) [0, 1] (by decide +kernel) rfl
      have hFc := va_free (wc := [(h0, .inr (1, [.ref q, .int L])), (q, .inl (cB, n, .inl lf))]) hD hS hA [0, 1] rfl
      have hkc : 0 ≤ 0 := by decide
      have hks : 0 ≤ 0 := by decide
      refine va_callv (va_runV (C := "DiscMaker$Bytes") (As := [.int v3, .int v5]) (rest := []) ⟨hx, hb, hml, hown, hts⟩ (c3_put l D cB cI cJ cZ cN cF H.size h0 q n L lf v3 v5 (by (try dsimp only); first | assumption | omega | trivial) (by (try dsimp only); first | assumption | omega | trivial)) (cwV 2 hts (lg_goodV k988 k912 k913 k119 kc_Bytes_put) rfl rfl rfl (by decide +kernel) ⟨Nat.le_of_ble_eq_true rfl, Nat.le_of_ble_eq_true rfl⟩) ⟨fun a U g mk q => by obtain ⟨q0, q1, qP, qK, qN, qD⟩ := q; exact ⟨q0, q1, qP, va_K.moved (u := U) (U := U.calling g mk a) (Vm.Alike.refl U.vm) qK, qN.calling, qD⟩, va_recv hK hP (ci := 1) (q0 := 0) rfl rfl, fun U hU hW => ⟨rfl, by rw [hU], by rw [hU]; exact hPc, va_K.moved hW.alike hK, NN.warm hW hN, hDc.weaken (fun _ _ _ _ => trivial)⟩⟩ rfl rfl hl.1 rfl (lv_room (Nat.le_of_ble_eq_true rfl)) d_Bytes_putHigh_25 ⟨hkc, hks⟩) hS (fun q _ h => hFc q h) hFc (fun u t H1 locs ht hvm hp_r6 hB hz1 hk1 hS => ?_)
      obtain ⟨g_7, rfl⟩ : ∃ z, z = u := ⟨_, rfl⟩
      obtain ⟨hP1, hD1⟩ := hB
      rw [ht] at hP1
      obtain ⟨hP, hD⟩ := va_join (wr := []) (w1 := [(h0, .inr (1, [.ref q, .int L])), (q, .inl (cB, n, .inl g_7))]) hP hD [0, 1] [] rfl rfl (by decide +kernel) (by decide +kernel) hk1 hFc hP1 hD1
      clear hPc hDc hFc hP1 hD1 hk1 hz1 hkc hks
      generalize H1 = H at hP hS ⊢
      have hP : va_P D CL [(h0, .inr (1, [.ref q, .int L])), (q, .inl (cB, n, .inl g_7))] H := hP
      have hD : va_D A [(h0, .inr (1, [.ref q, .int L])), (q, .inl (cB, n, .inl g_7))] := hD
      obtain ⟨v8, e_v8⟩ : ∃ z : Int32, z = kx + 1 := ⟨_, rfl⟩
      refine lv_iinc (v := v8) hx hb d_Bytes_putHigh_28 hl (k := 4) rfl e_v8.symm (by decide +kernel) rfl (fun ls hl => ?_)
      have t_v8 : v8.toInt = kx.toInt + 1 := by rw [e_v8]; exact i_add rfl (by decide) (by omega) (by omega)
      have hl : lv_has ls 5 [(4, .int v8), (0, .ref h0), (1, .int x), (2, .int y), (3, .int z)] := hl
      refine lv_goto (tgt := 3) hx hb d_Bytes_putHigh_31 (by decide) ?_
      have hP := hP.sub (ws' := [(h0, .inr (1, [.ref q, .int L])), (q, .inl (cB, n, .inl g_7))]) [0, 1] rfl
      have hD := hD.sub (ws' := [(h0, .inr (1, [.ref q, .int L])), (q, .inl (cB, n, .inl g_7))]) [0, 1] (by decide +kernel) rfl
      have hl := lv_sub hl [1, 2, 3, 4, 0] rfl
      exact ih3 _ (by first | omega | (dsimp only; omega)) v8 g_7 _ _ _ rfl ((by (try dsimp only); first | assumption | omega | trivial)) hP hD hS hl
  · skip
    intro kk3
    have hP := hP.sub (ws' := [(h0, .inr (1, [.ref q, .int L])), (q, .inl (cB, n, .inl f))]) [0, 1] rfl
    have hD := hD.sub (ws' := [(h0, .inr (1, [.ref q, .int L])), (q, .inl (cB, n, .inl f))]) [0, 1] (by decide +kernel) rfl
    have hl := lv_sub hl [1, 2, 3, 4, 0] rfl
    exact kk3 _ 0 f _ _ _ rfl ((by (try dsimp only); first | assumption | omega | trivial)) hP hD hS hl

theorem d_Bytes_putBoth_0 : decode b_Bytes_putBoth 0 = .ok (.iconst 0, 1) := by decide +kernel
theorem d_Bytes_putBoth_1 : decode b_Bytes_putBoth 1 = .ok (.istore 4, 2) := by decide +kernel
theorem d_Bytes_putBoth_3 : decode b_Bytes_putBoth 3 = .ok (.iload 4, 2) := by decide +kernel
theorem d_Bytes_putBoth_5 : decode b_Bytes_putBoth 5 = .ok (.iload_n 3, 1) := by decide +kernel
theorem d_Bytes_putBoth_6 : decode b_Bytes_putBoth 6 = .ok (.if_icmp .ge 45, 3) := by decide +kernel
theorem d_Bytes_putBoth_9 : decode b_Bytes_putBoth 9 = .ok (.aload_n 0, 1) := by decide +kernel
theorem d_Bytes_putBoth_10 : decode b_Bytes_putBoth 10 = .ok (.iload_n 1, 1) := by decide +kernel
theorem d_Bytes_putBoth_11 : decode b_Bytes_putBoth 11 = .ok (.iload 4, 2) := by decide +kernel
theorem d_Bytes_putBoth_13 : decode b_Bytes_putBoth 13 = .ok (.iadd, 1) := by decide +kernel
theorem d_Bytes_putBoth_14 : decode b_Bytes_putBoth 14 = .ok (.iload_n 2, 1) := by decide +kernel
theorem d_Bytes_putBoth_15 : decode b_Bytes_putBoth 15 = .ok (.bipush 8, 2) := by decide +kernel
theorem d_Bytes_putBoth_17 : decode b_Bytes_putBoth 17 = .ok (.iload 4, 2) := by decide +kernel
theorem d_Bytes_putBoth_19 : decode b_Bytes_putBoth 19 = .ok (.imul, 1) := by decide +kernel
theorem d_Bytes_putBoth_20 : decode b_Bytes_putBoth 20 = .ok (.ishr, 1) := by decide +kernel
theorem d_Bytes_putBoth_21 : decode b_Bytes_putBoth 21 = .ok (.invokevirtual 29, 3) := by decide +kernel
theorem d_Bytes_putBoth_24 : decode b_Bytes_putBoth 24 = .ok (.aload_n 0, 1) := by decide +kernel
theorem d_Bytes_putBoth_25 : decode b_Bytes_putBoth 25 = .ok (.iload_n 1, 1) := by decide +kernel
theorem d_Bytes_putBoth_26 : decode b_Bytes_putBoth 26 = .ok (.iconst 2, 1) := by decide +kernel
theorem d_Bytes_putBoth_27 : decode b_Bytes_putBoth 27 = .ok (.iload_n 3, 1) := by decide +kernel
theorem d_Bytes_putBoth_28 : decode b_Bytes_putBoth 28 = .ok (.imul, 1) := by decide +kernel
theorem d_Bytes_putBoth_29 : decode b_Bytes_putBoth 29 = .ok (.iadd, 1) := by decide +kernel
theorem d_Bytes_putBoth_30 : decode b_Bytes_putBoth 30 = .ok (.iconst 1, 1) := by decide +kernel
theorem d_Bytes_putBoth_31 : decode b_Bytes_putBoth 31 = .ok (.isub, 1) := by decide +kernel
theorem d_Bytes_putBoth_32 : decode b_Bytes_putBoth 32 = .ok (.iload 4, 2) := by decide +kernel
theorem d_Bytes_putBoth_34 : decode b_Bytes_putBoth 34 = .ok (.isub, 1) := by decide +kernel
theorem d_Bytes_putBoth_35 : decode b_Bytes_putBoth 35 = .ok (.iload_n 2, 1) := by decide +kernel
theorem d_Bytes_putBoth_36 : decode b_Bytes_putBoth 36 = .ok (.bipush 8, 2) := by decide +kernel
theorem d_Bytes_putBoth_38 : decode b_Bytes_putBoth 38 = .ok (.iload 4, 2) := by decide +kernel
theorem d_Bytes_putBoth_40 : decode b_Bytes_putBoth 40 = .ok (.imul, 1) := by decide +kernel
theorem d_Bytes_putBoth_41 : decode b_Bytes_putBoth 41 = .ok (.ishr, 1) := by decide +kernel
theorem d_Bytes_putBoth_42 : decode b_Bytes_putBoth 42 = .ok (.invokevirtual 29, 3) := by decide +kernel
theorem d_Bytes_putBoth_45 : decode b_Bytes_putBoth 45 = .ok (.iinc 4 1, 3) := by decide +kernel
theorem d_Bytes_putBoth_48 : decode b_Bytes_putBoth 48 = .ok (.goto (-45), 3) := by decide +kernel
theorem d_Bytes_putBoth_51 : decode b_Bytes_putBoth 51 = .ok (.return_, 1) := by decide +kernel
set_option maxHeartbeats 4000000 in
set_option maxRecDepth 100000 in
theorem c3_putBoth (l : Launch) (D : va_G) (cB cI cJ cZ cN cF : ClassId) (sz : Nat) (h0 : Nat) (q : Nat) (n : Nat) (L : Int32) (f : Nat → Int32) (x : Int32) (y : Int32) (z : Int32) (hL : 0 ≤ L.toInt ∧ L.toInt ≤ n) (hn : n ≤ 3000000) (hz : z.toInt ≤ 4) : Met l y_Bytes_putBoth w_Bytes_putBoth ({ frames := 1, cells := 0, slots := 0, locals := 28 }) (va_Pc [.ref h0, .int x, .int y, .int z] (fun U => U.heap.size = sz ∧ va_P D CL [(h0, .inr (1, [.ref q, .int L])), (q, .inl (cB, n, .inl f))] U.heap ∧ va_K D CL (TY cB cI cJ cZ cN cF) U ∧ NN U ∧ va_D (fun _ => True) [(h0, .inr (1, [.ref q, .int L])), (q, .inl (cB, n, .inl f))])) (va_Qv (fun (u : (Nat → Int32)) => True) (fun (u : (Nat → Int32)) (t : State) => match u with | g => va_P D CL [(h0, .inr (1, [.ref q, .int L])), (q, .inl (cB, n, .inl g))] t.heap ∧ va_D (va_A [(h0, .inr (1, [.ref q, .int L])), (q, .inl (cB, n, .inl f))] sz) [(h0, .inr (1, [.ref q, .int L])), (q, .inl (cB, n, .inl g))]) (va_A [(h0, .inr (1, [.ref q, .int L])), (q, .inl (cB, n, .inl f))] sz)) 0 0 (va_A [(h0, .inr (1, [.ref q, .int L])), (q, .inl (cB, n, .inl f))] sz) := by
  refine Met.ofW (cc := b_Bytes_putBoth) (maxL := 5) (ret := none) (by decide +kernel) rfl ?_
  intro p e s m args below meth c s₁ B hml hv
  obtain ⟨rfl, hsz, hP, hK, hN, hD0⟩ := hv
  have hx := B.exec
  have hb := B.bytes
  have hr := B.returns
  have hts := atoms_spec (ws := w_Bytes_putBoth) B.pre
  have ht9 := fun (w : Cond) (h : w ∈ lw_g) => hts w (List.mem_cons_of_mem _ h)
  have hown : s.vm.findClass "DiscMaker$Bytes" = some m.cls := findClass_of_methodNamed B.named
  have hlocks := B.notSynchronized
  subst hsz
  have hD := hD0.self (sz := s.heap.size)
  generalize hAe : va_A [(h0, .inr (1, [.ref q, .int L])), (q, .inl (cB, n, .inl f))] s.heap.size = A at hD ⊢
  have hA : ∀ q : Nat, s.heap.size ≤ q → A q := fun q h => by rw [← hAe]; exact Or.inr h
  have hS : va_S A s.heap s.heap [] := va_S.rf
  have hP : va_P D CL [(h0, .inr (1, [.ref q, .int L])), (q, .inl (cB, n, .inl f))] s.heap := hP
  have hl := lv_entry [.ref h0, .int x, .int y, .int z] (n := 5) (Nat.le_of_ble_eq_true rfl)
  rw [lg_entry_eq]
  generalize (lg_sl [.ref h0, .int x, .int y, .int z] ++ List.replicate (5 - (lg_sl [.ref h0, .int x, .int y, .int z]).length) Slot.unset).toArray = ls at hl ⊢
  have hl : lv_has ls 5 [(0, .ref h0), (1, .int x), (2, .int y), (3, .int z)] := hl
  have L_m1 : ((-1) : Int32).toInt = (-1) := by decide
  have L_0 : (0 : Int32).toInt = 0 := by decide
  have L_1 : (1 : Int32).toInt = 1 := by decide
  have L_2 : (2 : Int32).toInt = 2 := by decide
  have L_8 : (8 : Int32).toInt = 8 := by decide
  refine lv_iconst (v := 0) hx hb d_Bytes_putBoth_0 (by decide) ?_
  refine lv_istore hx hb d_Bytes_putBoth_1 hl (by decide) rfl (fun ls hl => ?_)
  have hl : lv_has ls 5 [(4, .int 0), (0, .ref h0), (1, .int x), (2, .int y), (3, .int z)] := hl
  refine zz_labM (B := fun (lk : Nat) (K : Heap → List Loc → Array Slot → List Value → Prop) => ∀ (kx : Int32) (lf : Nat → Int32) (H : Heap) (locs : List Loc) (ls : Array Slot), lk = (z.toInt - kx.toInt).toNat → (0 ≤ kx.toInt ∧ (kx.toInt = 0 ∨ kx.toInt ≤ z.toInt)) → va_P D CL [(h0, .inr (1, [.ref q, .int L])), (q, .inl (cB, n, .inl lf))] H → va_D A [(h0, .inr (1, [.ref q, .int L])), (q, .inl (cB, n, .inl lf))] → va_S A s.heap H locs → lv_has ls 5 [(0, .ref h0), (1, .int x), (2, .int y), (3, .int z), (4, .int kx)] → K H locs ls []) 3 ?_ ?_
  · skip
    intro lk ih3 kx lf H locs ls hm3 f1 hP hD hS hl
    refine lv_iload hx hb d_Bytes_putBoth_3 (lv_at hl 4 rfl) ?_
    refine lv_iload_n hx hb d_Bytes_putBoth_5 rfl (lv_at hl 3 rfl) ?_
    refine lv_icmp_ge (tgt := 51) hx hb d_Bytes_putBoth_6 (by decide) (fun h_9 => ?_) (fun h_9 => ?_)
    · skip
      have g6_5 : z.toInt ≤ kx.toInt := (i_le rfl rfl).mp h_9
      have hP9 := hP.sub (ws' := [(h0, .inr (1, [.ref q, .int L])), (q, .inl (cB, n, .inl lf))]) [0, 1] rfl
      have hD9 := hD.sub (ws' := [(h0, .inr (1, [.ref q, .int L])), (q, .inl (cB, n, .inl lf))]) [0, 1] (by decide +kernel) rfl
      exact W.vret hx hb hr (fun t ht hW => ⟨⟨lf, rfl, trivial, by rw [ht]; exact hP9, hD9⟩, hS.F ht⟩) hS.2.2 d_Bytes_putBoth_51
    · skip
      have g6_5 : ¬ z.toInt ≤ kx.toInt := fun h8 => h_9 ((i_le rfl rfl).mpr h8)
      refine lv_aload_n hx hb d_Bytes_putBoth_9 rfl (lv_at hl 0 rfl) ?_
      refine lv_iload_n hx hb d_Bytes_putBoth_10 rfl (lv_at hl 1 rfl) ?_
      refine lv_iload hx hb d_Bytes_putBoth_11 (lv_at hl 4 rfl) ?_
      refine lv_iadd hx hb d_Bytes_putBoth_13 ?_
      refine lv_topi (fun v1 e_v1 => ?_)
      refine lv_iload_n hx hb d_Bytes_putBoth_14 rfl (lv_at hl 2 rfl) ?_
      refine lv_bipush (v := 8) hx hb d_Bytes_putBoth_15 (by decide) ?_
      refine lv_iload hx hb d_Bytes_putBoth_17 (lv_at hl 4 rfl) ?_
      refine lv_imul hx hb d_Bytes_putBoth_19 ?_
      refine lv_topi (fun v2 e_v2 => ?_)
      refine lv_ishr hx hb d_Bytes_putBoth_20 ?_
      refine lv_topi (fun v3 e_v3 => ?_)
      have hPc := hP.sub (ws' := [(h0, .inr (1, [.ref q, .int L])), (q, .inl (cB, n, .inl lf))]) [0, 1] rfl
      have hDc := hD.sub (ws' := [(h0, .inr (1, [.ref q, .int L])), (q, .inl (cB, n, .inl lf))]) [0, 1] (by decide +kernel) rfl
      have hFc := va_free (wc := [(h0, .inr (1, [.ref q, .int L])), (q, .inl (cB, n, .inl lf))]) hD hS hA [0, 1] rfl
      have hkc : 0 ≤ 0 := by decide
      have hks : 0 ≤ 0 := by decide
      refine va_callv (va_runV (C := "DiscMaker$Bytes") (As := [.int v1, .int v3]) (rest := []) ⟨hx, hb, hml, hown, hts⟩ (c3_put l D cB cI cJ cZ cN cF H.size h0 q n L lf v1 v3 (by (try dsimp only); first | assumption | omega | trivial) (by (try dsimp only); first | assumption | omega | trivial)) (cwV 2 hts (lg_goodV k988 k912 k913 k119 kc_Bytes_put) rfl rfl rfl (by decide +kernel) ⟨Nat.le_of_ble_eq_true rfl, Nat.le_of_ble_eq_true rfl⟩) ⟨fun a U g mk q => by obtain ⟨q0, q1, qP, qK, qN, qD⟩ := q; exact ⟨q0, q1, qP, va_K.moved (u := U) (U := U.calling g mk a) (Vm.Alike.refl U.vm) qK, qN.calling, qD⟩, va_recv hK hP (ci := 1) (q0 := 0) rfl rfl, fun U hU hW => ⟨rfl, by rw [hU], by rw [hU]; exact hPc, va_K.moved hW.alike hK, NN.warm hW hN, hDc.weaken (fun _ _ _ _ => trivial)⟩⟩ rfl rfl hl.1 rfl (lv_room (Nat.le_of_ble_eq_true rfl)) d_Bytes_putBoth_21 ⟨hkc, hks⟩) hS (fun q _ h => hFc q h) hFc (fun u t H1 locs ht hvm hp_r4 hB hz1 hk1 hS => ?_)
      obtain ⟨g_5, rfl⟩ : ∃ z, z = u := ⟨_, rfl⟩
      obtain ⟨hP1, hD1⟩ := hB
      rw [ht] at hP1
      obtain ⟨hP, hD⟩ := va_join (wr := []) (w1 := [(h0, .inr (1, [.ref q, .int L])), (q, .inl (cB, n, .inl g_5))]) hP hD [0, 1] [] rfl rfl (by decide +kernel) (by decide +kernel) hk1 hFc hP1 hD1
      clear hPc hDc hFc hP1 hD1 hk1 hz1 hkc hks
      generalize H1 = H at hP hS ⊢
      have hP : va_P D CL [(h0, .inr (1, [.ref q, .int L])), (q, .inl (cB, n, .inl g_5))] H := hP
      have hD : va_D A [(h0, .inr (1, [.ref q, .int L])), (q, .inl (cB, n, .inl g_5))] := hD
      refine lv_aload_n hx hb d_Bytes_putBoth_24 rfl (lv_at hl 0 rfl) ?_
      refine lv_iload_n hx hb d_Bytes_putBoth_25 rfl (lv_at hl 1 rfl) ?_
      refine lv_iconst (v := 2) hx hb d_Bytes_putBoth_26 (by decide) ?_
      refine lv_iload_n hx hb d_Bytes_putBoth_27 rfl (lv_at hl 3 rfl) ?_
      refine lv_imul hx hb d_Bytes_putBoth_28 ?_
      refine lv_topi (fun v6 e_v6 => ?_)
      refine lv_iadd hx hb d_Bytes_putBoth_29 ?_
      refine lv_topi (fun v7 e_v7 => ?_)
      refine lv_iconst (v := 1) hx hb d_Bytes_putBoth_30 (by decide) ?_
      refine lv_isub hx hb d_Bytes_putBoth_31 ?_
      refine lv_topi (fun v8 e_v8 => ?_)
      refine lv_iload hx hb d_Bytes_putBoth_32 (lv_at hl 4 rfl) ?_
      refine lv_isub hx hb d_Bytes_putBoth_34 ?_
      refine lv_topi (fun v9 e_v9 => ?_)
      refine lv_iload_n hx hb d_Bytes_putBoth_35 rfl (lv_at hl 2 rfl) ?_
      refine lv_bipush (v := 8) hx hb d_Bytes_putBoth_36 (by decide) ?_
      refine lv_iload hx hb d_Bytes_putBoth_38 (lv_at hl 4 rfl) ?_
      refine lv_imul hx hb d_Bytes_putBoth_40 ?_
      refine lv_topi (fun v10 e_v10 => ?_)
      refine lv_ishr hx hb d_Bytes_putBoth_41 ?_
      refine lv_topi (fun v11 e_v11 => ?_)
      have hPc := hP.sub (ws' := [(h0, .inr (1, [.ref q, .int L])), (q, .inl (cB, n, .inl g_5))]) [0, 1] rfl
      have hDc := hD.sub (ws' := [(h0, .inr (1, [.ref q, .int L])), (q, .inl (cB, n, .inl g_5))]) [0, 1] (by decide +kernel) rfl
      have hFc := va_free (wc := [(h0, .inr (1, [.ref q, .int L])), (q, .inl (cB, n, .inl g_5))]) hD hS hA [0, 1] rfl
      have hkc : 0 ≤ 0 := by decide
      have hks : 0 ≤ 0 := by decide
      refine va_callv (va_runV (C := "DiscMaker$Bytes") (As := [.int v9, .int v11]) (rest := []) ⟨hx, hb, hml, hown, hts⟩ (c3_put l D cB cI cJ cZ cN cF H.size h0 q n L g_5 v9 v11 (by (try dsimp only); first | assumption | omega | trivial) (by (try dsimp only); first | assumption | omega | trivial)) (cwV 2 hts (lg_goodV k988 k912 k913 k119 kc_Bytes_put) rfl rfl rfl (by decide +kernel) ⟨Nat.le_of_ble_eq_true rfl, Nat.le_of_ble_eq_true rfl⟩) ⟨fun a U g mk q => by obtain ⟨q0, q1, qP, qK, qN, qD⟩ := q; exact ⟨q0, q1, qP, va_K.moved (u := U) (U := U.calling g mk a) (Vm.Alike.refl U.vm) qK, qN.calling, qD⟩, va_recv hK hP (ci := 1) (q0 := 0) rfl rfl, fun U hU hW => ⟨rfl, by rw [hU], by rw [hU]; exact hPc, va_K.moved hW.alike hK, NN.warm hW hN, hDc.weaken (fun _ _ _ _ => trivial)⟩⟩ rfl rfl hl.1 rfl (lv_room (Nat.le_of_ble_eq_true rfl)) d_Bytes_putBoth_42 ⟨hkc, hks⟩) hS (fun q _ h => hFc q h) hFc (fun u t H1 locs ht hvm hp_r12 hB hz1 hk1 hS => ?_)
      obtain ⟨g_13, rfl⟩ : ∃ z, z = u := ⟨_, rfl⟩
      obtain ⟨hP1, hD1⟩ := hB
      rw [ht] at hP1
      obtain ⟨hP, hD⟩ := va_join (wr := []) (w1 := [(h0, .inr (1, [.ref q, .int L])), (q, .inl (cB, n, .inl g_13))]) hP hD [0, 1] [] rfl rfl (by decide +kernel) (by decide +kernel) hk1 hFc hP1 hD1
      clear hPc hDc hFc hP1 hD1 hk1 hz1 hkc hks
      generalize H1 = H at hP hS ⊢
      have hP : va_P D CL [(h0, .inr (1, [.ref q, .int L])), (q, .inl (cB, n, .inl g_13))] H := hP
      have hD : va_D A [(h0, .inr (1, [.ref q, .int L])), (q, .inl (cB, n, .inl g_13))] := hD
      obtain ⟨v14, e_v14⟩ : ∃ z : Int32, z = kx + 1 := ⟨_, rfl⟩
      refine lv_iinc (v := v14) hx hb d_Bytes_putBoth_45 hl (k := 4) rfl e_v14.symm (by decide +kernel) rfl (fun ls hl => ?_)
      have t_v14 : v14.toInt = kx.toInt + 1 := by rw [e_v14]; exact i_add rfl (by decide) (by omega) (by omega)
      have hl : lv_has ls 5 [(4, .int v14), (0, .ref h0), (1, .int x), (2, .int y), (3, .int z)] := hl
      refine lv_goto (tgt := 3) hx hb d_Bytes_putBoth_48 (by decide) ?_
      have hP := hP.sub (ws' := [(h0, .inr (1, [.ref q, .int L])), (q, .inl (cB, n, .inl g_13))]) [0, 1] rfl
      have hD := hD.sub (ws' := [(h0, .inr (1, [.ref q, .int L])), (q, .inl (cB, n, .inl g_13))]) [0, 1] (by decide +kernel) rfl
      have hl := lv_sub hl [1, 2, 3, 4, 0] rfl
      exact ih3 _ (by first | omega | (dsimp only; omega)) v14 g_13 _ _ _ rfl ((by (try dsimp only); first | assumption | omega | trivial)) hP hD hS hl
  · skip
    intro kk3
    have hP := hP.sub (ws' := [(h0, .inr (1, [.ref q, .int L])), (q, .inl (cB, n, .inl f))]) [0, 1] rfl
    have hD := hD.sub (ws' := [(h0, .inr (1, [.ref q, .int L])), (q, .inl (cB, n, .inl f))]) [0, 1] (by decide +kernel) rfl
    have hl := lv_sub hl [1, 2, 3, 4, 0] rfl
    exact kk3 _ 0 f _ _ _ rfl ((by (try dsimp only); first | assumption | omega | trivial)) hP hD hS hl

theorem d_Bytes_copyTo_0 : decode b_Bytes_copyTo 0 = .ok (.iconst 0, 1) := by decide +kernel
theorem d_Bytes_copyTo_1 : decode b_Bytes_copyTo 1 = .ok (.istore 5, 2) := by decide +kernel
theorem d_Bytes_copyTo_3 : decode b_Bytes_copyTo 3 = .ok (.iload 5, 2) := by decide +kernel
theorem d_Bytes_copyTo_5 : decode b_Bytes_copyTo 5 = .ok (.iload 4, 2) := by decide +kernel
theorem d_Bytes_copyTo_7 : decode b_Bytes_copyTo 7 = .ok (.if_icmp .ge 25, 3) := by decide +kernel
theorem d_Bytes_copyTo_10 : decode b_Bytes_copyTo 10 = .ok (.aload_n 1, 1) := by decide +kernel
theorem d_Bytes_copyTo_11 : decode b_Bytes_copyTo 11 = .ok (.iload_n 3, 1) := by decide +kernel
theorem d_Bytes_copyTo_12 : decode b_Bytes_copyTo 12 = .ok (.iload 5, 2) := by decide +kernel
theorem d_Bytes_copyTo_14 : decode b_Bytes_copyTo 14 = .ok (.iadd, 1) := by decide +kernel
theorem d_Bytes_copyTo_15 : decode b_Bytes_copyTo 15 = .ok (.aload_n 0, 1) := by decide +kernel
theorem d_Bytes_copyTo_16 : decode b_Bytes_copyTo 16 = .ok (.iload_n 2, 1) := by decide +kernel
theorem d_Bytes_copyTo_17 : decode b_Bytes_copyTo 17 = .ok (.iload 5, 2) := by decide +kernel
theorem d_Bytes_copyTo_19 : decode b_Bytes_copyTo 19 = .ok (.iadd, 1) := by decide +kernel
theorem d_Bytes_copyTo_20 : decode b_Bytes_copyTo 20 = .ok (.invokevirtual 33, 3) := by decide +kernel
theorem d_Bytes_copyTo_23 : decode b_Bytes_copyTo 23 = .ok (.invokevirtual 29, 3) := by decide +kernel
theorem d_Bytes_copyTo_26 : decode b_Bytes_copyTo 26 = .ok (.iinc 5 1, 3) := by decide +kernel
theorem d_Bytes_copyTo_29 : decode b_Bytes_copyTo 29 = .ok (.goto (-26), 3) := by decide +kernel
theorem d_Bytes_copyTo_32 : decode b_Bytes_copyTo 32 = .ok (.return_, 1) := by decide +kernel
set_option maxHeartbeats 4000000 in
set_option maxRecDepth 100000 in
theorem c3_copyTo (l : Launch) (D : va_G) (cB cI cJ cZ cN cF : ClassId) (sz : Nat) (h0 : Nat) (q : Nat) (n : Nat) (L : Int32) (f : Nat → Int32) (k0 : Nat) (kq : Nat) (kn : Nat) (kL : Int32) (kf : Nat → Int32) (x : Int32) (y : Int32) (z : Int32) (hL : 0 ≤ L.toInt ∧ L.toInt ≤ n) (hn : n ≤ 3000000) (hLk : 0 ≤ kL.toInt ∧ kL.toInt ≤ kn) (hnk : kn ≤ 3000000) : Met l y_Bytes_copyTo w_Bytes_copyTo ({ frames := 1, cells := 0, slots := 0, locals := 28 }) (va_Pc [.ref h0, .ref k0, .int x, .int y, .int z] (fun U => U.heap.size = sz ∧ va_P D CL [(h0, .inr (1, [.ref q, .int L])), (q, .inl (cB, n, .inl f)), (k0, .inr (1, [.ref kq, .int kL])), (kq, .inl (cB, kn, .inl kf))] U.heap ∧ va_K D CL (TY cB cI cJ cZ cN cF) U ∧ NN U ∧ va_D (fun _ => True) [(h0, .inr (1, [.ref q, .int L])), (q, .inl (cB, n, .inl f)), (k0, .inr (1, [.ref kq, .int kL])), (kq, .inl (cB, kn, .inl kf))])) (va_Qv (fun (u : (Nat → Int32)) => True) (fun (u : (Nat → Int32)) (t : State) => match u with | g => va_P D CL [(h0, .inr (1, [.ref q, .int L])), (q, .inl (cB, n, .inl f)), (k0, .inr (1, [.ref kq, .int kL])), (kq, .inl (cB, kn, .inl g))] t.heap ∧ va_D (va_A [(h0, .inr (1, [.ref q, .int L])), (q, .inl (cB, n, .inl f)), (k0, .inr (1, [.ref kq, .int kL])), (kq, .inl (cB, kn, .inl kf))] sz) [(h0, .inr (1, [.ref q, .int L])), (q, .inl (cB, n, .inl f)), (k0, .inr (1, [.ref kq, .int kL])), (kq, .inl (cB, kn, .inl g))]) (va_A [(h0, .inr (1, [.ref q, .int L])), (q, .inl (cB, n, .inl f)), (k0, .inr (1, [.ref kq, .int kL])), (kq, .inl (cB, kn, .inl kf))] sz)) 0 0 (va_A [(h0, .inr (1, [.ref q, .int L])), (q, .inl (cB, n, .inl f)), (k0, .inr (1, [.ref kq, .int kL])), (kq, .inl (cB, kn, .inl kf))] sz) := by
  refine Met.ofW (cc := b_Bytes_copyTo) (maxL := 6) (ret := none) (by decide +kernel) rfl ?_
  intro p e s m args below meth c s₁ B hml hv
  obtain ⟨rfl, hsz, hP, hK, hN, hD0⟩ := hv
  have hx := B.exec
  have hb := B.bytes
  have hr := B.returns
  have hts := atoms_spec (ws := w_Bytes_copyTo) B.pre
  have ht9 := fun (w : Cond) (h : w ∈ lw_g) => hts w (List.mem_cons_of_mem _ h)
  have hown : s.vm.findClass "DiscMaker$Bytes" = some m.cls := findClass_of_methodNamed B.named
  have hlocks := B.notSynchronized
  subst hsz
  have hD := hD0.self (sz := s.heap.size)
  generalize hAe : va_A [(h0, .inr (1, [.ref q, .int L])), (q, .inl (cB, n, .inl f)), (k0, .inr (1, [.ref kq, .int kL])), (kq, .inl (cB, kn, .inl kf))] s.heap.size = A at hD ⊢
  have hA : ∀ q : Nat, s.heap.size ≤ q → A q := fun q h => by rw [← hAe]; exact Or.inr h
  have hS : va_S A s.heap s.heap [] := va_S.rf
  have hP : va_P D CL [(h0, .inr (1, [.ref q, .int L])), (q, .inl (cB, n, .inl f)), (k0, .inr (1, [.ref kq, .int kL])), (kq, .inl (cB, kn, .inl kf))] s.heap := hP
  have hl := lv_entry [.ref h0, .ref k0, .int x, .int y, .int z] (n := 6) (Nat.le_of_ble_eq_true rfl)
  rw [lg_entry_eq]
  generalize (lg_sl [.ref h0, .ref k0, .int x, .int y, .int z] ++ List.replicate (6 - (lg_sl [.ref h0, .ref k0, .int x, .int y, .int z]).length) Slot.unset).toArray = ls at hl ⊢
  have hl : lv_has ls 6 [(0, .ref h0), (1, .ref k0), (2, .int x), (3, .int y), (4, .int z)] := hl
  have L_m1 : ((-1) : Int32).toInt = (-1) := by decide
  have L_0 : (0 : Int32).toInt = 0 := by decide
  have L_1 : (1 : Int32).toInt = 1 := by decide
  have hzr := i_rng z
  refine lv_iconst (v := 0) hx hb d_Bytes_copyTo_0 (by decide) ?_
  refine lv_istore hx hb d_Bytes_copyTo_1 hl (by decide) rfl (fun ls hl => ?_)
  have hl : lv_has ls 6 [(5, .int 0), (0, .ref h0), (1, .ref k0), (2, .int x), (3, .int y), (4, .int z)] := hl
  refine zz_labM (B := fun (lk : Nat) (K : Heap → List Loc → Array Slot → List Value → Prop) => ∀ (kx : Int32) (lf : Nat → Int32) (H : Heap) (locs : List Loc) (ls : Array Slot), lk = (z.toInt - kx.toInt).toNat → (0 ≤ kx.toInt) → va_P D CL [(h0, .inr (1, [.ref q, .int L])), (q, .inl (cB, n, .inl f)), (k0, .inr (1, [.ref kq, .int kL])), (kq, .inl (cB, kn, .inl lf))] H → va_D A [(h0, .inr (1, [.ref q, .int L])), (q, .inl (cB, n, .inl f)), (k0, .inr (1, [.ref kq, .int kL])), (kq, .inl (cB, kn, .inl lf))] → va_S A s.heap H locs → lv_has ls 6 [(0, .ref h0), (1, .ref k0), (2, .int x), (3, .int y), (4, .int z), (5, .int kx)] → K H locs ls []) 3 ?_ ?_
  · skip
    intro lk ih3 kx lf H locs ls hm3 f1 hP hD hS hl
    refine lv_iload hx hb d_Bytes_copyTo_3 (lv_at hl 5 rfl) ?_
    refine lv_iload hx hb d_Bytes_copyTo_5 (lv_at hl 4 rfl) ?_
    refine lv_icmp_ge (tgt := 32) hx hb d_Bytes_copyTo_7 (by decide) (fun h_9 => ?_) (fun h_9 => ?_)
    · skip
      have g7_5 : z.toInt ≤ kx.toInt := (i_le rfl rfl).mp h_9
      have hP9 := hP.sub (ws' := [(h0, .inr (1, [.ref q, .int L])), (q, .inl (cB, n, .inl f)), (k0, .inr (1, [.ref kq, .int kL])), (kq, .inl (cB, kn, .inl lf))]) [0, 1, 2, 3] rfl
      have hD9 := hD.sub (ws' := [(h0, .inr (1, [.ref q, .int L])), (q, .inl (cB, n, .inl f)), (k0, .inr (1, [.ref kq, .int kL])), (kq, .inl (cB, kn, .inl lf))]) [0, 1, 2, 3] (by decide +kernel) rfl
      exact W.vret hx hb hr (fun t ht hW => ⟨⟨lf, rfl, trivial, by rw [ht]; exact hP9, hD9⟩, hS.F ht⟩) hS.2.2 d_Bytes_copyTo_32
    · skip
      have g7_5 : ¬ z.toInt ≤ kx.toInt := fun h8 => h_9 ((i_le rfl rfl).mpr h8)
      refine lv_aload_n hx hb d_Bytes_copyTo_10 rfl (lv_at hl 1 rfl) ?_
      refine lv_iload_n hx hb d_Bytes_copyTo_11 rfl (lv_at hl 3 rfl) ?_
      refine lv_iload hx hb d_Bytes_copyTo_12 (lv_at hl 5 rfl) ?_
      refine lv_iadd hx hb d_Bytes_copyTo_14 ?_
      refine lv_topi (fun v1 e_v1 => ?_)
      refine lv_aload_n hx hb d_Bytes_copyTo_15 rfl (lv_at hl 0 rfl) ?_
      refine lv_iload_n hx hb d_Bytes_copyTo_16 rfl (lv_at hl 2 rfl) ?_
      refine lv_iload hx hb d_Bytes_copyTo_17 (lv_at hl 5 rfl) ?_
      refine lv_iadd hx hb d_Bytes_copyTo_19 ?_
      refine lv_topi (fun v2 e_v2 => ?_)
      have hPc := hP.sub (ws' := [(h0, .inr (1, [.ref q, .int L])), (q, .inl (cB, n, .inl f))]) [0, 1] rfl
      have hDc := hD.sub (ws' := [(h0, .inr (1, [.ref q, .int L])), (q, .inl (cB, n, .inl f))]) [0, 1] (by decide +kernel) rfl
      have hFc := va_free (wc := [(h0, .inr (1, [.ref q, .int L])), (q, .inl (cB, n, .inl f))]) hD hS hA [0, 1] rfl
      have hkc : 0 ≤ 0 := by decide
      have hks : 0 ≤ 0 := by decide
      refine va_calli (va_runV (C := "DiscMaker$Bytes") (As := [.int v2]) (rest := [.int v1, .ref k0]) ⟨hx, hb, hml, hown, hts⟩ (c3_at l D cB cI cJ cZ cN cF H.size h0 q n L f v2 (by (try dsimp only); first | assumption | omega | trivial) (by (try dsimp only); first | assumption | omega | trivial)) (cwV 1 hts (lg_goodV k1064 k1065 k1066 k119 kc_Bytes_at) rfl rfl rfl (by decide +kernel) ⟨Nat.le_of_ble_eq_true rfl, Nat.le_of_ble_eq_true rfl⟩) ⟨fun a U g mk q => by obtain ⟨q0, q1, qP, qK, qN, qD⟩ := q; exact ⟨q0, q1, qP, va_K.moved (u := U) (U := U.calling g mk a) (Vm.Alike.refl U.vm) qK, qN.calling, qD⟩, va_recv hK hP (ci := 1) (q0 := 0) rfl rfl, fun U hU hW => ⟨rfl, by rw [hU], by rw [hU]; exact hPc, va_K.moved hW.alike hK, NN.warm hW hN, hDc.weaken (fun _ _ _ _ => trivial)⟩⟩ rfl rfl hl.1 rfl (lv_room (Nat.le_of_ble_eq_true rfl)) d_Bytes_copyTo_20 ⟨hkc, hks⟩) hS (fun q _ h => hFc q h) hFc (fun r3 u t H1 locs ht hvm hp_r3 hB hz1 hk1 hS => ?_)
      obtain ⟨hP1, hD1⟩ := hB
      rw [ht] at hP1
      obtain ⟨hP, hD⟩ := va_join (wr := [(k0, .inr (1, [.ref kq, .int kL])), (kq, .inl (cB, kn, .inl lf))]) (w1 := [(h0, .inr (1, [.ref q, .int L])), (q, .inl (cB, n, .inl f))]) hP hD [0, 1] [2, 3] rfl rfl (by decide +kernel) (by decide +kernel) hk1 hFc hP1 hD1
      clear hPc hDc hFc hP1 hD1 hk1 hz1 hkc hks
      generalize H1 = H at hP hS ⊢
      have hP : va_P D CL [(k0, .inr (1, [.ref kq, .int kL])), (kq, .inl (cB, kn, .inl lf)), (h0, .inr (1, [.ref q, .int L])), (q, .inl (cB, n, .inl f))] H := hP
      have hD : va_D A [(k0, .inr (1, [.ref kq, .int kL])), (kq, .inl (cB, kn, .inl lf)), (h0, .inr (1, [.ref q, .int L])), (q, .inl (cB, n, .inl f))] := hD
      try dsimp only at hp_r3
      obtain ⟨hr_4, hv_5⟩ := hp_r3
      have hPc := hP.sub (ws' := [(k0, .inr (1, [.ref kq, .int kL])), (kq, .inl (cB, kn, .inl lf))]) [0, 1] rfl
      have hDc := hD.sub (ws' := [(k0, .inr (1, [.ref kq, .int kL])), (kq, .inl (cB, kn, .inl lf))]) [0, 1] (by decide +kernel) rfl
      have hFc := va_free (wc := [(k0, .inr (1, [.ref kq, .int kL])), (kq, .inl (cB, kn, .inl lf))]) hD hS hA [0, 1] rfl
      have hkc : 0 ≤ 0 := by decide
      have hks : 0 ≤ 0 := by decide
      refine va_callv (va_runV (C := "DiscMaker$Bytes") (As := [.int v1, .int r3]) (rest := []) ⟨hx, hb, hml, hown, hts⟩ (c3_put l D cB cI cJ cZ cN cF H.size k0 kq kn kL lf v1 r3 (by (try dsimp only); first | assumption | omega | trivial) (by (try dsimp only); first | assumption | omega | trivial)) (cwV 2 hts (lg_goodV k988 k912 k913 k119 kc_Bytes_put) rfl rfl rfl (by decide +kernel) ⟨Nat.le_of_ble_eq_true rfl, Nat.le_of_ble_eq_true rfl⟩) ⟨fun a U g mk q => by obtain ⟨q0, q1, qP, qK, qN, qD⟩ := q; exact ⟨q0, q1, qP, va_K.moved (u := U) (U := U.calling g mk a) (Vm.Alike.refl U.vm) qK, qN.calling, qD⟩, va_recv hK hP (ci := 1) (q0 := 0) rfl rfl, fun U hU hW => ⟨rfl, by rw [hU], by rw [hU]; exact hPc, va_K.moved hW.alike hK, NN.warm hW hN, hDc.weaken (fun _ _ _ _ => trivial)⟩⟩ rfl rfl hl.1 rfl (lv_room (Nat.le_of_ble_eq_true rfl)) d_Bytes_copyTo_23 ⟨hkc, hks⟩) hS (fun q _ h => hFc q h) hFc (fun u t H1 locs ht hvm hp_r6 hB hz1 hk1 hS => ?_)
      obtain ⟨g_7, rfl⟩ : ∃ z, z = u := ⟨_, rfl⟩
      obtain ⟨hP1, hD1⟩ := hB
      rw [ht] at hP1
      obtain ⟨hP, hD⟩ := va_join (wr := [(h0, .inr (1, [.ref q, .int L])), (q, .inl (cB, n, .inl f))]) (w1 := [(k0, .inr (1, [.ref kq, .int kL])), (kq, .inl (cB, kn, .inl g_7))]) hP hD [0, 1] [2, 3] rfl rfl (by decide +kernel) (by decide +kernel) hk1 hFc hP1 hD1
      clear hPc hDc hFc hP1 hD1 hk1 hz1 hkc hks
      generalize H1 = H at hP hS ⊢
      have hP : va_P D CL [(h0, .inr (1, [.ref q, .int L])), (q, .inl (cB, n, .inl f)), (k0, .inr (1, [.ref kq, .int kL])), (kq, .inl (cB, kn, .inl g_7))] H := hP
      have hD : va_D A [(h0, .inr (1, [.ref q, .int L])), (q, .inl (cB, n, .inl f)), (k0, .inr (1, [.ref kq, .int kL])), (kq, .inl (cB, kn, .inl g_7))] := hD
      obtain ⟨v8, e_v8⟩ : ∃ z : Int32, z = kx + 1 := ⟨_, rfl⟩
      refine lv_iinc (v := v8) hx hb d_Bytes_copyTo_26 hl (k := 5) rfl e_v8.symm (by decide +kernel) rfl (fun ls hl => ?_)
      have t_v8 : v8.toInt = kx.toInt + 1 := by rw [e_v8]; exact i_add rfl (by decide) (by omega) (by omega)
      have hl : lv_has ls 6 [(5, .int v8), (0, .ref h0), (1, .ref k0), (2, .int x), (3, .int y), (4, .int z)] := hl
      refine lv_goto (tgt := 3) hx hb d_Bytes_copyTo_29 (by decide) ?_
      have hP := hP.sub (ws' := [(h0, .inr (1, [.ref q, .int L])), (q, .inl (cB, n, .inl f)), (k0, .inr (1, [.ref kq, .int kL])), (kq, .inl (cB, kn, .inl g_7))]) [0, 1, 2, 3] rfl
      have hD := hD.sub (ws' := [(h0, .inr (1, [.ref q, .int L])), (q, .inl (cB, n, .inl f)), (k0, .inr (1, [.ref kq, .int kL])), (kq, .inl (cB, kn, .inl g_7))]) [0, 1, 2, 3] (by decide +kernel) rfl
      have hl := lv_sub hl [1, 2, 3, 4, 5, 0] rfl
      exact ih3 _ (by first | omega | (dsimp only; omega)) v8 g_7 _ _ _ rfl ((by (try dsimp only); first | assumption | omega | trivial)) hP hD hS hl
  · skip
    intro kk3
    have hP := hP.sub (ws' := [(h0, .inr (1, [.ref q, .int L])), (q, .inl (cB, n, .inl f)), (k0, .inr (1, [.ref kq, .int kL])), (kq, .inl (cB, kn, .inl kf))]) [0, 1, 2, 3] rfl
    have hD := hD.sub (ws' := [(h0, .inr (1, [.ref q, .int L])), (q, .inl (cB, n, .inl f)), (k0, .inr (1, [.ref kq, .int kL])), (kq, .inl (cB, kn, .inl kf))]) [0, 1, 2, 3] (by decide +kernel) rfl
    have hl := lv_sub hl [1, 2, 3, 4, 5, 0] rfl
    exact kk3 _ 0 kf _ _ _ rfl ((by (try dsimp only); first | assumption | omega | trivial)) hP hD hS hl

theorem d_Bytes_low_0 : decode b_Bytes_low 0 = .ok (.iload_n 1, 1) := by decide +kernel
theorem d_Bytes_low_1 : decode b_Bytes_low 1 = .ok (.ifCond .lt 13, 3) := by decide +kernel
theorem d_Bytes_low_4 : decode b_Bytes_low 4 = .ok (.iload_n 1, 1) := by decide +kernel
theorem d_Bytes_low_5 : decode b_Bytes_low 5 = .ok (.iload_n 2, 1) := by decide +kernel
theorem d_Bytes_low_6 : decode b_Bytes_low 6 = .ok (.iadd, 1) := by decide +kernel
theorem d_Bytes_low_7 : decode b_Bytes_low 7 = .ok (.aload_n 0, 1) := by decide +kernel
theorem d_Bytes_low_8 : decode b_Bytes_low 8 = .ok (.getfield 25, 3) := by decide +kernel
theorem d_Bytes_low_11 : decode b_Bytes_low 11 = .ok (.if_icmp .le 5, 3) := by decide +kernel
theorem d_Bytes_low_14 : decode b_Bytes_low 14 = .ok (.iconst 0, 1) := by decide +kernel
theorem d_Bytes_low_15 : decode b_Bytes_low 15 = .ok (.ireturn, 1) := by decide +kernel
theorem d_Bytes_low_16 : decode b_Bytes_low 16 = .ok (.iconst 0, 1) := by decide +kernel
theorem d_Bytes_low_17 : decode b_Bytes_low 17 = .ok (.istore_n 3, 1) := by decide +kernel
theorem d_Bytes_low_18 : decode b_Bytes_low 18 = .ok (.iconst 0, 1) := by decide +kernel
theorem d_Bytes_low_19 : decode b_Bytes_low 19 = .ok (.istore 4, 2) := by decide +kernel
theorem d_Bytes_low_21 : decode b_Bytes_low 21 = .ok (.iload 4, 2) := by decide +kernel
theorem d_Bytes_low_23 : decode b_Bytes_low 23 = .ok (.iload_n 2, 1) := by decide +kernel
theorem d_Bytes_low_24 : decode b_Bytes_low 24 = .ok (.if_icmp .ge 31, 3) := by decide +kernel
theorem d_Bytes_low_27 : decode b_Bytes_low 27 = .ok (.iload_n 3, 1) := by decide +kernel
theorem d_Bytes_low_28 : decode b_Bytes_low 28 = .ok (.aload_n 0, 1) := by decide +kernel
theorem d_Bytes_low_29 : decode b_Bytes_low 29 = .ok (.getfield 7, 3) := by decide +kernel
theorem d_Bytes_low_32 : decode b_Bytes_low 32 = .ok (.iload_n 1, 1) := by decide +kernel
theorem d_Bytes_low_33 : decode b_Bytes_low 33 = .ok (.iload 4, 2) := by decide +kernel
theorem d_Bytes_low_35 : decode b_Bytes_low 35 = .ok (.iadd, 1) := by decide +kernel
theorem d_Bytes_low_36 : decode b_Bytes_low 36 = .ok (.baload, 1) := by decide +kernel
theorem d_Bytes_low_37 : decode b_Bytes_low 37 = .ok (.sipush 255, 3) := by decide +kernel
theorem d_Bytes_low_40 : decode b_Bytes_low 40 = .ok (.iand, 1) := by decide +kernel
theorem d_Bytes_low_41 : decode b_Bytes_low 41 = .ok (.bipush 8, 2) := by decide +kernel
theorem d_Bytes_low_43 : decode b_Bytes_low 43 = .ok (.iload 4, 2) := by decide +kernel
theorem d_Bytes_low_45 : decode b_Bytes_low 45 = .ok (.imul, 1) := by decide +kernel
theorem d_Bytes_low_46 : decode b_Bytes_low 46 = .ok (.ishl, 1) := by decide +kernel
theorem d_Bytes_low_47 : decode b_Bytes_low 47 = .ok (.ior, 1) := by decide +kernel
theorem d_Bytes_low_48 : decode b_Bytes_low 48 = .ok (.istore_n 3, 1) := by decide +kernel
theorem d_Bytes_low_49 : decode b_Bytes_low 49 = .ok (.iinc 4 1, 3) := by decide +kernel
theorem d_Bytes_low_52 : decode b_Bytes_low 52 = .ok (.goto (-31), 3) := by decide +kernel
theorem d_Bytes_low_55 : decode b_Bytes_low 55 = .ok (.iload_n 3, 1) := by decide +kernel
theorem d_Bytes_low_56 : decode b_Bytes_low 56 = .ok (.ireturn, 1) := by decide +kernel
set_option maxHeartbeats 4000000 in
set_option maxRecDepth 100000 in
theorem c3_low4 (l : Launch) (D : va_G) (cB cI cJ cZ cN cF : ClassId) (sz : Nat) (h0 : Nat) (q : Nat) (n : Nat) (L : Int32) (f : Nat → Int32) (x : Int32) (hL : 0 ≤ L.toInt ∧ L.toInt ≤ n) (hn : n ≤ 3000000) (hx : x.toInt ≤ 2000000000) : Met l y_Bytes_low w_Bytes_low ({ frames := 0, cells := 0, slots := 0, locals := 0 }) (va_Pc [.ref h0, .int x, .int 4] (fun U => U.heap.size = sz ∧ va_P D CL [(h0, .inr (1, [.ref q, .int L])), (q, .inl (cB, n, .inl f))] U.heap ∧ va_K D CL (TY cB cI cJ cZ cN cF) U ∧ NN U ∧ va_D (fun _ => True) [(h0, .inr (1, [.ref q, .int L])), (q, .inl (cB, n, .inl f))])) (va_Qi (fun (r : Int32) (u : Unit) => (r = low4B f L x)) (fun (u : Unit) (t : State) => match u with | () => va_P D CL [(h0, .inr (1, [.ref q, .int L])), (q, .inl (cB, n, .inl f))] t.heap ∧ va_D (va_A [(h0, .inr (1, [.ref q, .int L])), (q, .inl (cB, n, .inl f))] sz) [(h0, .inr (1, [.ref q, .int L])), (q, .inl (cB, n, .inl f))]) (va_A [(h0, .inr (1, [.ref q, .int L])), (q, .inl (cB, n, .inl f))] sz)) 0 0 (va_A [(h0, .inr (1, [.ref q, .int L])), (q, .inl (cB, n, .inl f))] sz) := by
  refine Met.ofW (cc := b_Bytes_low) (maxL := 5) (ret := some .int) (by decide +kernel) rfl ?_
  intro p e s m args below meth c s₁ B hml hv
  obtain ⟨rfl, hsz, hP, hK, hN, hD0⟩ := hv
  have hx := B.exec
  have hb := B.bytes
  have hr := B.returns
  have hts := atoms_spec (ws := w_Bytes_low) B.pre
  have ht9 := fun (w : Cond) (h : w ∈ lw_g) => hts w (List.mem_cons_of_mem _ h)
  have hown : s.vm.findClass "DiscMaker$Bytes" = some m.cls := findClass_of_methodNamed B.named
  have hlocks := B.notSynchronized
  subst hsz
  have hD := hD0.self (sz := s.heap.size)
  generalize hAe : va_A [(h0, .inr (1, [.ref q, .int L])), (q, .inl (cB, n, .inl f))] s.heap.size = A at hD ⊢
  have hA : ∀ q : Nat, s.heap.size ≤ q → A q := fun q h => by rw [← hAe]; exact Or.inr h
  have hS : va_S A s.heap s.heap [] := va_S.rf
  have hP : va_P D CL [(h0, .inr (1, [.ref q, .int L])), (q, .inl (cB, n, .inl f))] s.heap := hP
  have hl := lv_entry [.ref h0, .int x, .int 4] (n := 5) (Nat.le_of_ble_eq_true rfl)
  rw [lg_entry_eq]
  generalize (lg_sl [.ref h0, .int x, .int 4] ++ List.replicate (5 - (lg_sl [.ref h0, .int x, .int 4]).length) Slot.unset).toArray = ls at hl ⊢
  have hl : lv_has ls 5 [(0, .ref h0), (1, .int x), (2, .int 4)] := hl
  have L_m1 : ((-1) : Int32).toInt = (-1) := by decide
  have L_0 : (0 : Int32).toInt = 0 := by decide
  have L_1 : (1 : Int32).toInt = 1 := by decide
  have L_8 : (8 : Int32).toInt = 8 := by decide
  have L_255 : (255 : Int32).toInt = 255 := by decide
  refine lv_iload_n hx hb d_Bytes_low_0 rfl (lv_at hl 1 rfl) ?_
  refine lv_if_lt (tgt := 14) hx hb d_Bytes_low_1 (by decide) (fun h_9 => ?_) (fun h_9 => ?_)
  · skip
    have g1_2 : x.toInt < 0 := (i_lt rfl (by decide)).mp h_9
    refine lv_iconst (v := 0) hx hb d_Bytes_low_14 (by decide) ?_
    have hP9 := hP.sub (ws' := [(h0, .inr (1, [.ref q, .int L])), (q, .inl (cB, n, .inl f))]) [0, 1] rfl
    have hD9 := hD.sub (ws' := [(h0, .inr (1, [.ref q, .int L])), (q, .inl (cB, n, .inl f))]) [0, 1] (by decide +kernel) rfl
    exact W.iret (v := 0) hx hb hr (fun t ht hW => ⟨⟨0, (), rfl, (by (try dsimp only); unfold low4B; first | (rw [if_neg (by omega)]) | (rw [if_pos (by omega)]; subst_vars; rfl)), by rw [ht]; exact hP9, hD9⟩, hS.F ht⟩) hS.2.2 d_Bytes_low_15
  · skip
    have g1_2 : ¬ x.toInt < 0 := fun h8 => h_9 ((i_lt rfl (by decide)).mpr h8)
    refine lv_iload_n hx hb d_Bytes_low_4 rfl (lv_at hl 1 rfl) ?_
    refine lv_iload_n hx hb d_Bytes_low_5 rfl (lv_at hl 2 rfl) ?_
    refine lv_iadd hx hb d_Bytes_low_6 ?_
    refine lv_topi (fun v1 e_v1 => ?_)
    have t_v1 : v1.toInt = x.toInt + 4 := by rw [e_v1]; exact i_add rfl (by decide) (by omega) (by omega)
    refine lv_aload_n hx hb d_Bytes_low_7 rfl (lv_at hl 0 rfl) ?_
    refine va_get (D := D) (ci := 1) (v := .int L) (C := "DiscMaker$Bytes") (T := F_Bytes) (N := 2) hx hb ht9 in_Bytes hown hK hP 0 rfl rfl 1 (by decide) (ht9 _ k258) (fun _ h9 => h9) rfl d_Bytes_low_8 ?_
    refine lv_icmp_le (tgt := 16) hx hb d_Bytes_low_11 (by decide) (fun h_9 => ?_) (fun h_9 => ?_)
    · skip
      have g11_10 : v1.toInt ≤ L.toInt := (i_le rfl rfl).mp h_9
      refine lv_iconst (v := 0) hx hb d_Bytes_low_16 (by decide) ?_
      refine lv_istore_n hx hb d_Bytes_low_17 rfl hl (by decide) rfl (fun ls hl => ?_)
      have hl : lv_has ls 5 [(3, .int 0), (0, .ref h0), (1, .int x), (2, .int 4)] := hl
      refine lv_iconst (v := 0) hx hb d_Bytes_low_18 (by decide) ?_
      refine lv_istore hx hb d_Bytes_low_19 hl (by decide) rfl (fun ls hl => ?_)
      have hl : lv_has ls 5 [(4, .int 0), (3, .int 0), (0, .ref h0), (1, .int x), (2, .int 4)] := hl
      refine lv_iload hx hb d_Bytes_low_21 (lv_at hl 0 rfl) ?_
      refine lv_iload_n hx hb d_Bytes_low_23 rfl (lv_at hl 4 rfl) ?_
      refine lv_icmp_ge (tgt := 55) hx hb d_Bytes_low_24 (by decide) (fun h_9 => absurd h_9 (by decide)) (fun _ => ?_)
      refine lv_iload_n hx hb d_Bytes_low_27 rfl (lv_at hl 1 rfl) ?_
      refine lv_aload_n hx hb d_Bytes_low_28 rfl (lv_at hl 2 rfl) ?_
      refine va_get (D := D) (ci := 1) (v := .ref q) (C := "DiscMaker$Bytes") (T := F_Bytes) (N := 2) hx hb ht9 in_Bytes hown hK hP 0 rfl rfl 0 (by decide) (ht9 _ k256) (fun _ h9 => h9) rfl d_Bytes_low_29 ?_
      refine lv_iload_n hx hb d_Bytes_low_32 rfl (lv_at hl 3 rfl) ?_
      refine lv_iload hx hb d_Bytes_low_33 (lv_at hl 0 rfl) ?_
      refine lv_iadd hx hb d_Bytes_low_35 ?_
      refine lv_topi (fun v2 e_v2 => ?_)
      have t_v2 : v2.toInt = x.toInt + 0 := by rw [e_v2]; exact i_add rfl (by decide) (by omega) (by omega)
      refine va_bald hx hb hK hP 1 0 rfl rfl (vp_in_iff.mpr ⟨by omega, by omega⟩) d_Bytes_low_36 ?_
      refine lv_topi (fun v3 e_v3 => ?_)
      refine lv_sipush (v := 255) hx hb d_Bytes_low_37 (by decide) ?_
      refine lv_iand hx hb d_Bytes_low_40 ?_
      refine lv_topi (fun v4 e_v4 => ?_)
      have t_v4 : 0 ≤ v4.toInt ∧ v4.toInt ≤ 255 := by rw [e_v4]; exact i_and (by decide) (by decide)
      refine lv_bipush (v := 8) hx hb d_Bytes_low_41 (by decide) ?_
      refine lv_iload hx hb d_Bytes_low_43 (lv_at hl 0 rfl) ?_
      refine lv_imul hx hb d_Bytes_low_45 ?_
      refine W.eq (g2 := F0 m 46 ls [.int 0, .int v4, .int 0]) (by rw [show ((8 : Int32) * 0) = 0 from by decide]) ?_
      refine lv_ishl hx hb d_Bytes_low_46 ?_
      refine lv_topi (fun v5 e_v5 => ?_)
      refine lv_ior hx hb d_Bytes_low_47 ?_
      refine lv_topi (fun v6 e_v6 => ?_)
      refine lv_istore_n hx hb d_Bytes_low_48 rfl hl (by decide) rfl (fun ls hl => ?_)
      have hl : lv_has ls 5 [(3, .int v6), (4, .int 0), (0, .ref h0), (1, .int x), (2, .int 4)] := hl
      refine lv_iinc (v := 1) hx hb d_Bytes_low_49 hl (k := 1) rfl (by decide) (by decide +kernel) rfl (fun ls hl => ?_)
      have hl : lv_has ls 5 [(4, .int 1), (3, .int v6), (0, .ref h0), (1, .int x), (2, .int 4)] := hl
      refine lv_goto (tgt := 21) hx hb d_Bytes_low_52 (by decide) ?_
      refine lv_iload hx hb d_Bytes_low_21 (lv_at hl 0 rfl) ?_
      refine lv_iload_n hx hb d_Bytes_low_23 rfl (lv_at hl 4 rfl) ?_
      refine lv_icmp_ge (tgt := 55) hx hb d_Bytes_low_24 (by decide) (fun h_9 => absurd h_9 (by decide)) (fun _ => ?_)
      refine lv_iload_n hx hb d_Bytes_low_27 rfl (lv_at hl 1 rfl) ?_
      refine lv_aload_n hx hb d_Bytes_low_28 rfl (lv_at hl 2 rfl) ?_
      refine va_get (D := D) (ci := 1) (v := .ref q) (C := "DiscMaker$Bytes") (T := F_Bytes) (N := 2) hx hb ht9 in_Bytes hown hK hP 0 rfl rfl 0 (by decide) (ht9 _ k256) (fun _ h9 => h9) rfl d_Bytes_low_29 ?_
      refine lv_iload_n hx hb d_Bytes_low_32 rfl (lv_at hl 3 rfl) ?_
      refine lv_iload hx hb d_Bytes_low_33 (lv_at hl 0 rfl) ?_
      refine lv_iadd hx hb d_Bytes_low_35 ?_
      refine lv_topi (fun v7 e_v7 => ?_)
      have t_v7 : v7.toInt = x.toInt + 1 := by rw [e_v7]; exact i_add rfl (by decide) (by omega) (by omega)
      refine va_bald hx hb hK hP 1 0 rfl rfl (vp_in_iff.mpr ⟨by omega, by omega⟩) d_Bytes_low_36 ?_
      refine lv_topi (fun v8 e_v8 => ?_)
      refine lv_sipush (v := 255) hx hb d_Bytes_low_37 (by decide) ?_
      refine lv_iand hx hb d_Bytes_low_40 ?_
      refine lv_topi (fun v9 e_v9 => ?_)
      have t_v9 : 0 ≤ v9.toInt ∧ v9.toInt ≤ 255 := by rw [e_v9]; exact i_and (by decide) (by decide)
      refine lv_bipush (v := 8) hx hb d_Bytes_low_41 (by decide) ?_
      refine lv_iload hx hb d_Bytes_low_43 (lv_at hl 0 rfl) ?_
      refine lv_imul hx hb d_Bytes_low_45 ?_
      refine W.eq (g2 := F0 m 46 ls [.int 8, .int v9, .int v6]) (by rw [show ((8 : Int32) * 1) = 8 from by decide]) ?_
      refine lv_ishl hx hb d_Bytes_low_46 ?_
      refine lv_topi (fun v10 e_v10 => ?_)
      refine lv_ior hx hb d_Bytes_low_47 ?_
      refine lv_topi (fun v11 e_v11 => ?_)
      refine lv_istore_n hx hb d_Bytes_low_48 rfl hl (by decide) rfl (fun ls hl => ?_)
      have hl : lv_has ls 5 [(3, .int v11), (4, .int 1), (0, .ref h0), (1, .int x), (2, .int 4)] := hl
      refine lv_iinc (v := 2) hx hb d_Bytes_low_49 hl (k := 1) rfl (by decide) (by decide +kernel) rfl (fun ls hl => ?_)
      have L_2 : (2 : Int32).toInt = 2 := by decide
      have hl : lv_has ls 5 [(4, .int 2), (3, .int v11), (0, .ref h0), (1, .int x), (2, .int 4)] := hl
      refine lv_goto (tgt := 21) hx hb d_Bytes_low_52 (by decide) ?_
      refine lv_iload hx hb d_Bytes_low_21 (lv_at hl 0 rfl) ?_
      refine lv_iload_n hx hb d_Bytes_low_23 rfl (lv_at hl 4 rfl) ?_
      refine lv_icmp_ge (tgt := 55) hx hb d_Bytes_low_24 (by decide) (fun h_9 => absurd h_9 (by decide)) (fun _ => ?_)
      refine lv_iload_n hx hb d_Bytes_low_27 rfl (lv_at hl 1 rfl) ?_
      refine lv_aload_n hx hb d_Bytes_low_28 rfl (lv_at hl 2 rfl) ?_
      refine va_get (D := D) (ci := 1) (v := .ref q) (C := "DiscMaker$Bytes") (T := F_Bytes) (N := 2) hx hb ht9 in_Bytes hown hK hP 0 rfl rfl 0 (by decide) (ht9 _ k256) (fun _ h9 => h9) rfl d_Bytes_low_29 ?_
      refine lv_iload_n hx hb d_Bytes_low_32 rfl (lv_at hl 3 rfl) ?_
      refine lv_iload hx hb d_Bytes_low_33 (lv_at hl 0 rfl) ?_
      refine lv_iadd hx hb d_Bytes_low_35 ?_
      refine lv_topi (fun v12 e_v12 => ?_)
      have t_v12 : v12.toInt = x.toInt + 2 := by rw [e_v12]; exact i_add rfl (by decide) (by omega) (by omega)
      refine va_bald hx hb hK hP 1 0 rfl rfl (vp_in_iff.mpr ⟨by omega, by omega⟩) d_Bytes_low_36 ?_
      refine lv_topi (fun v13 e_v13 => ?_)
      refine lv_sipush (v := 255) hx hb d_Bytes_low_37 (by decide) ?_
      refine lv_iand hx hb d_Bytes_low_40 ?_
      refine lv_topi (fun v14 e_v14 => ?_)
      have t_v14 : 0 ≤ v14.toInt ∧ v14.toInt ≤ 255 := by rw [e_v14]; exact i_and (by decide) (by decide)
      refine lv_bipush (v := 8) hx hb d_Bytes_low_41 (by decide) ?_
      refine lv_iload hx hb d_Bytes_low_43 (lv_at hl 0 rfl) ?_
      refine lv_imul hx hb d_Bytes_low_45 ?_
      refine W.eq (g2 := F0 m 46 ls [.int 16, .int v14, .int v11]) (by rw [show ((8 : Int32) * 2) = 16 from by decide]) ?_
      have L_16 : (16 : Int32).toInt = 16 := by decide
      refine lv_ishl hx hb d_Bytes_low_46 ?_
      refine lv_topi (fun v15 e_v15 => ?_)
      refine lv_ior hx hb d_Bytes_low_47 ?_
      refine lv_topi (fun v16 e_v16 => ?_)
      refine lv_istore_n hx hb d_Bytes_low_48 rfl hl (by decide) rfl (fun ls hl => ?_)
      have hl : lv_has ls 5 [(3, .int v16), (4, .int 2), (0, .ref h0), (1, .int x), (2, .int 4)] := hl
      refine lv_iinc (v := 3) hx hb d_Bytes_low_49 hl (k := 1) rfl (by decide) (by decide +kernel) rfl (fun ls hl => ?_)
      have L_3 : (3 : Int32).toInt = 3 := by decide
      have hl : lv_has ls 5 [(4, .int 3), (3, .int v16), (0, .ref h0), (1, .int x), (2, .int 4)] := hl
      refine lv_goto (tgt := 21) hx hb d_Bytes_low_52 (by decide) ?_
      refine lv_iload hx hb d_Bytes_low_21 (lv_at hl 0 rfl) ?_
      refine lv_iload_n hx hb d_Bytes_low_23 rfl (lv_at hl 4 rfl) ?_
      refine lv_icmp_ge (tgt := 55) hx hb d_Bytes_low_24 (by decide) (fun h_9 => absurd h_9 (by decide)) (fun _ => ?_)
      refine lv_iload_n hx hb d_Bytes_low_27 rfl (lv_at hl 1 rfl) ?_
      refine lv_aload_n hx hb d_Bytes_low_28 rfl (lv_at hl 2 rfl) ?_
      refine va_get (D := D) (ci := 1) (v := .ref q) (C := "DiscMaker$Bytes") (T := F_Bytes) (N := 2) hx hb ht9 in_Bytes hown hK hP 0 rfl rfl 0 (by decide) (ht9 _ k256) (fun _ h9 => h9) rfl d_Bytes_low_29 ?_
      refine lv_iload_n hx hb d_Bytes_low_32 rfl (lv_at hl 3 rfl) ?_
      refine lv_iload hx hb d_Bytes_low_33 (lv_at hl 0 rfl) ?_
      refine lv_iadd hx hb d_Bytes_low_35 ?_
      refine lv_topi (fun v17 e_v17 => ?_)
      have t_v17 : v17.toInt = x.toInt + 3 := by rw [e_v17]; exact i_add rfl (by decide) (by omega) (by omega)
      refine va_bald hx hb hK hP 1 0 rfl rfl (vp_in_iff.mpr ⟨by omega, by omega⟩) d_Bytes_low_36 ?_
      refine lv_topi (fun v18 e_v18 => ?_)
      refine lv_sipush (v := 255) hx hb d_Bytes_low_37 (by decide) ?_
      refine lv_iand hx hb d_Bytes_low_40 ?_
      refine lv_topi (fun v19 e_v19 => ?_)
      have t_v19 : 0 ≤ v19.toInt ∧ v19.toInt ≤ 255 := by rw [e_v19]; exact i_and (by decide) (by decide)
      refine lv_bipush (v := 8) hx hb d_Bytes_low_41 (by decide) ?_
      refine lv_iload hx hb d_Bytes_low_43 (lv_at hl 0 rfl) ?_
      refine lv_imul hx hb d_Bytes_low_45 ?_
      refine W.eq (g2 := F0 m 46 ls [.int 24, .int v19, .int v16]) (by rw [show ((8 : Int32) * 3) = 24 from by decide]) ?_
      have L_24 : (24 : Int32).toInt = 24 := by decide
      refine lv_ishl hx hb d_Bytes_low_46 ?_
      refine lv_topi (fun v20 e_v20 => ?_)
      refine lv_ior hx hb d_Bytes_low_47 ?_
      refine lv_topi (fun v21 e_v21 => ?_)
      refine lv_istore_n hx hb d_Bytes_low_48 rfl hl (by decide) rfl (fun ls hl => ?_)
      have hl : lv_has ls 5 [(3, .int v21), (4, .int 3), (0, .ref h0), (1, .int x), (2, .int 4)] := hl
      refine lv_iinc (v := 4) hx hb d_Bytes_low_49 hl (k := 1) rfl (by decide) (by decide +kernel) rfl (fun ls hl => ?_)
      have L_4 : (4 : Int32).toInt = 4 := by decide
      have hl : lv_has ls 5 [(4, .int 4), (3, .int v21), (0, .ref h0), (1, .int x), (2, .int 4)] := hl
      refine lv_goto (tgt := 21) hx hb d_Bytes_low_52 (by decide) ?_
      refine lv_iload hx hb d_Bytes_low_21 (lv_at hl 0 rfl) ?_
      refine lv_iload_n hx hb d_Bytes_low_23 rfl (lv_at hl 4 rfl) ?_
      refine lv_icmp_ge (tgt := 55) hx hb d_Bytes_low_24 (by decide) (fun _ => ?_) (fun h_9 => absurd (by decide) h_9)
      refine lv_iload_n hx hb d_Bytes_low_55 rfl (lv_at hl 1 rfl) ?_
      have hP9 := hP.sub (ws' := [(h0, .inr (1, [.ref q, .int L])), (q, .inl (cB, n, .inl f))]) [0, 1] rfl
      have hD9 := hD.sub (ws' := [(h0, .inr (1, [.ref q, .int L])), (q, .inl (cB, n, .inl f))]) [0, 1] (by decide +kernel) rfl
      exact W.iret (v := v21) hx hb hr (fun t ht hW => ⟨⟨v21, (), rfl, (by (try dsimp only); unfold low4B; first | (rw [if_neg (by omega)]) | (rw [if_pos (by omega)]; subst_vars; rfl)), by rw [ht]; exact hP9, hD9⟩, hS.F ht⟩) hS.2.2 d_Bytes_low_56
    · skip
      have g11_10 : ¬ v1.toInt ≤ L.toInt := fun h8 => h_9 ((i_le rfl rfl).mpr h8)
      refine lv_iconst (v := 0) hx hb d_Bytes_low_14 (by decide) ?_
      have hP9 := hP.sub (ws' := [(h0, .inr (1, [.ref q, .int L])), (q, .inl (cB, n, .inl f))]) [0, 1] rfl
      have hD9 := hD.sub (ws' := [(h0, .inr (1, [.ref q, .int L])), (q, .inl (cB, n, .inl f))]) [0, 1] (by decide +kernel) rfl
      exact W.iret (v := 0) hx hb hr (fun t ht hW => ⟨⟨0, (), rfl, (by (try dsimp only); unfold low4B; first | (rw [if_neg (by omega)]) | (rw [if_pos (by omega)]; subst_vars; rfl)), by rw [ht]; exact hP9, hD9⟩, hS.F ht⟩) hS.2.2 d_Bytes_low_15

set_option maxHeartbeats 4000000 in
set_option maxRecDepth 100000 in
theorem c3_low2 (l : Launch) (D : va_G) (cB cI cJ cZ cN cF : ClassId) (sz : Nat) (h0 : Nat) (q : Nat) (n : Nat) (L : Int32) (f : Nat → Int32) (x : Int32) (hL : 0 ≤ L.toInt ∧ L.toInt ≤ n) (hn : n ≤ 3000000) (hx : x.toInt ≤ 2000000000) : Met l y_Bytes_low w_Bytes_low ({ frames := 0, cells := 0, slots := 0, locals := 0 }) (va_Pc [.ref h0, .int x, .int 2] (fun U => U.heap.size = sz ∧ va_P D CL [(h0, .inr (1, [.ref q, .int L])), (q, .inl (cB, n, .inl f))] U.heap ∧ va_K D CL (TY cB cI cJ cZ cN cF) U ∧ NN U ∧ va_D (fun _ => True) [(h0, .inr (1, [.ref q, .int L])), (q, .inl (cB, n, .inl f))])) (va_Qi (fun (r : Int32) (u : Unit) => True) (fun (u : Unit) (t : State) => match u with | () => va_P D CL [(h0, .inr (1, [.ref q, .int L])), (q, .inl (cB, n, .inl f))] t.heap ∧ va_D (va_A [(h0, .inr (1, [.ref q, .int L])), (q, .inl (cB, n, .inl f))] sz) [(h0, .inr (1, [.ref q, .int L])), (q, .inl (cB, n, .inl f))]) (va_A [(h0, .inr (1, [.ref q, .int L])), (q, .inl (cB, n, .inl f))] sz)) 0 0 (va_A [(h0, .inr (1, [.ref q, .int L])), (q, .inl (cB, n, .inl f))] sz) := by
  refine Met.ofW (cc := b_Bytes_low) (maxL := 5) (ret := some .int) (by decide +kernel) rfl ?_
  intro p e s m args below meth c s₁ B hml hv
  obtain ⟨rfl, hsz, hP, hK, hN, hD0⟩ := hv
  have hx := B.exec
  have hb := B.bytes
  have hr := B.returns
  have hts := atoms_spec (ws := w_Bytes_low) B.pre
  have ht9 := fun (w : Cond) (h : w ∈ lw_g) => hts w (List.mem_cons_of_mem _ h)
  have hown : s.vm.findClass "DiscMaker$Bytes" = some m.cls := findClass_of_methodNamed B.named
  have hlocks := B.notSynchronized
  subst hsz
  have hD := hD0.self (sz := s.heap.size)
  generalize hAe : va_A [(h0, .inr (1, [.ref q, .int L])), (q, .inl (cB, n, .inl f))] s.heap.size = A at hD ⊢
  have hA : ∀ q : Nat, s.heap.size ≤ q → A q := fun q h => by rw [← hAe]; exact Or.inr h
  have hS : va_S A s.heap s.heap [] := va_S.rf
  have hP : va_P D CL [(h0, .inr (1, [.ref q, .int L])), (q, .inl (cB, n, .inl f))] s.heap := hP
  have hl := lv_entry [.ref h0, .int x, .int 2] (n := 5) (Nat.le_of_ble_eq_true rfl)
  rw [lg_entry_eq]
  generalize (lg_sl [.ref h0, .int x, .int 2] ++ List.replicate (5 - (lg_sl [.ref h0, .int x, .int 2]).length) Slot.unset).toArray = ls at hl ⊢
  have hl : lv_has ls 5 [(0, .ref h0), (1, .int x), (2, .int 2)] := hl
  have L_m1 : ((-1) : Int32).toInt = (-1) := by decide
  have L_0 : (0 : Int32).toInt = 0 := by decide
  have L_1 : (1 : Int32).toInt = 1 := by decide
  have L_8 : (8 : Int32).toInt = 8 := by decide
  have L_255 : (255 : Int32).toInt = 255 := by decide
  refine lv_iload_n hx hb d_Bytes_low_0 rfl (lv_at hl 1 rfl) ?_
  refine lv_if_lt (tgt := 14) hx hb d_Bytes_low_1 (by decide) (fun h_9 => ?_) (fun h_9 => ?_)
  · skip
    have g1_2 : x.toInt < 0 := (i_lt rfl (by decide)).mp h_9
    refine lv_iconst (v := 0) hx hb d_Bytes_low_14 (by decide) ?_
    have hP9 := hP.sub (ws' := [(h0, .inr (1, [.ref q, .int L])), (q, .inl (cB, n, .inl f))]) [0, 1] rfl
    have hD9 := hD.sub (ws' := [(h0, .inr (1, [.ref q, .int L])), (q, .inl (cB, n, .inl f))]) [0, 1] (by decide +kernel) rfl
    exact W.iret (v := 0) hx hb hr (fun t ht hW => ⟨⟨0, (), rfl, trivial, by rw [ht]; exact hP9, hD9⟩, hS.F ht⟩) hS.2.2 d_Bytes_low_15
  · skip
    have g1_2 : ¬ x.toInt < 0 := fun h8 => h_9 ((i_lt rfl (by decide)).mpr h8)
    refine lv_iload_n hx hb d_Bytes_low_4 rfl (lv_at hl 1 rfl) ?_
    refine lv_iload_n hx hb d_Bytes_low_5 rfl (lv_at hl 2 rfl) ?_
    refine lv_iadd hx hb d_Bytes_low_6 ?_
    refine lv_topi (fun v1 e_v1 => ?_)
    have t_v1 : v1.toInt = x.toInt + 2 := by rw [e_v1]; exact i_add rfl (by decide) (by omega) (by omega)
    refine lv_aload_n hx hb d_Bytes_low_7 rfl (lv_at hl 0 rfl) ?_
    refine va_get (D := D) (ci := 1) (v := .int L) (C := "DiscMaker$Bytes") (T := F_Bytes) (N := 2) hx hb ht9 in_Bytes hown hK hP 0 rfl rfl 1 (by decide) (ht9 _ k258) (fun _ h9 => h9) rfl d_Bytes_low_8 ?_
    refine lv_icmp_le (tgt := 16) hx hb d_Bytes_low_11 (by decide) (fun h_9 => ?_) (fun h_9 => ?_)
    · skip
      have g11_10 : v1.toInt ≤ L.toInt := (i_le rfl rfl).mp h_9
      refine lv_iconst (v := 0) hx hb d_Bytes_low_16 (by decide) ?_
      refine lv_istore_n hx hb d_Bytes_low_17 rfl hl (by decide) rfl (fun ls hl => ?_)
      have hl : lv_has ls 5 [(3, .int 0), (0, .ref h0), (1, .int x), (2, .int 2)] := hl
      refine lv_iconst (v := 0) hx hb d_Bytes_low_18 (by decide) ?_
      refine lv_istore hx hb d_Bytes_low_19 hl (by decide) rfl (fun ls hl => ?_)
      have hl : lv_has ls 5 [(4, .int 0), (3, .int 0), (0, .ref h0), (1, .int x), (2, .int 2)] := hl
      refine lv_iload hx hb d_Bytes_low_21 (lv_at hl 0 rfl) ?_
      refine lv_iload_n hx hb d_Bytes_low_23 rfl (lv_at hl 4 rfl) ?_
      refine lv_icmp_ge (tgt := 55) hx hb d_Bytes_low_24 (by decide) (fun h_9 => absurd h_9 (by decide)) (fun _ => ?_)
      refine lv_iload_n hx hb d_Bytes_low_27 rfl (lv_at hl 1 rfl) ?_
      refine lv_aload_n hx hb d_Bytes_low_28 rfl (lv_at hl 2 rfl) ?_
      refine va_get (D := D) (ci := 1) (v := .ref q) (C := "DiscMaker$Bytes") (T := F_Bytes) (N := 2) hx hb ht9 in_Bytes hown hK hP 0 rfl rfl 0 (by decide) (ht9 _ k256) (fun _ h9 => h9) rfl d_Bytes_low_29 ?_
      refine lv_iload_n hx hb d_Bytes_low_32 rfl (lv_at hl 3 rfl) ?_
      refine lv_iload hx hb d_Bytes_low_33 (lv_at hl 0 rfl) ?_
      refine lv_iadd hx hb d_Bytes_low_35 ?_
      refine lv_topi (fun v2 e_v2 => ?_)
      have t_v2 : v2.toInt = x.toInt + 0 := by rw [e_v2]; exact i_add rfl (by decide) (by omega) (by omega)
      refine va_bald hx hb hK hP 1 0 rfl rfl (vp_in_iff.mpr ⟨by omega, by omega⟩) d_Bytes_low_36 ?_
      refine lv_topi (fun v3 e_v3 => ?_)
      refine lv_sipush (v := 255) hx hb d_Bytes_low_37 (by decide) ?_
      refine lv_iand hx hb d_Bytes_low_40 ?_
      refine lv_topi (fun v4 e_v4 => ?_)
      have t_v4 : 0 ≤ v4.toInt ∧ v4.toInt ≤ 255 := by rw [e_v4]; exact i_and (by decide) (by decide)
      refine lv_bipush (v := 8) hx hb d_Bytes_low_41 (by decide) ?_
      refine lv_iload hx hb d_Bytes_low_43 (lv_at hl 0 rfl) ?_
      refine lv_imul hx hb d_Bytes_low_45 ?_
      refine W.eq (g2 := F0 m 46 ls [.int 0, .int v4, .int 0]) (by rw [show ((8 : Int32) * 0) = 0 from by decide]) ?_
      refine lv_ishl hx hb d_Bytes_low_46 ?_
      refine lv_topi (fun v5 e_v5 => ?_)
      refine lv_ior hx hb d_Bytes_low_47 ?_
      refine lv_topi (fun v6 e_v6 => ?_)
      refine lv_istore_n hx hb d_Bytes_low_48 rfl hl (by decide) rfl (fun ls hl => ?_)
      have hl : lv_has ls 5 [(3, .int v6), (4, .int 0), (0, .ref h0), (1, .int x), (2, .int 2)] := hl
      refine lv_iinc (v := 1) hx hb d_Bytes_low_49 hl (k := 1) rfl (by decide) (by decide +kernel) rfl (fun ls hl => ?_)
      have hl : lv_has ls 5 [(4, .int 1), (3, .int v6), (0, .ref h0), (1, .int x), (2, .int 2)] := hl
      refine lv_goto (tgt := 21) hx hb d_Bytes_low_52 (by decide) ?_
      refine lv_iload hx hb d_Bytes_low_21 (lv_at hl 0 rfl) ?_
      refine lv_iload_n hx hb d_Bytes_low_23 rfl (lv_at hl 4 rfl) ?_
      refine lv_icmp_ge (tgt := 55) hx hb d_Bytes_low_24 (by decide) (fun h_9 => absurd h_9 (by decide)) (fun _ => ?_)
      refine lv_iload_n hx hb d_Bytes_low_27 rfl (lv_at hl 1 rfl) ?_
      refine lv_aload_n hx hb d_Bytes_low_28 rfl (lv_at hl 2 rfl) ?_
      refine va_get (D := D) (ci := 1) (v := .ref q) (C := "DiscMaker$Bytes") (T := F_Bytes) (N := 2) hx hb ht9 in_Bytes hown hK hP 0 rfl rfl 0 (by decide) (ht9 _ k256) (fun _ h9 => h9) rfl d_Bytes_low_29 ?_
      refine lv_iload_n hx hb d_Bytes_low_32 rfl (lv_at hl 3 rfl) ?_
      refine lv_iload hx hb d_Bytes_low_33 (lv_at hl 0 rfl) ?_
      refine lv_iadd hx hb d_Bytes_low_35 ?_
      refine lv_topi (fun v7 e_v7 => ?_)
      have t_v7 : v7.toInt = x.toInt + 1 := by rw [e_v7]; exact i_add rfl (by decide) (by omega) (by omega)
      refine va_bald hx hb hK hP 1 0 rfl rfl (vp_in_iff.mpr ⟨by omega, by omega⟩) d_Bytes_low_36 ?_
      refine lv_topi (fun v8 e_v8 => ?_)
      refine lv_sipush (v := 255) hx hb d_Bytes_low_37 (by decide) ?_
      refine lv_iand hx hb d_Bytes_low_40 ?_
      refine lv_topi (fun v9 e_v9 => ?_)
      have t_v9 : 0 ≤ v9.toInt ∧ v9.toInt ≤ 255 := by rw [e_v9]; exact i_and (by decide) (by decide)
      refine lv_bipush (v := 8) hx hb d_Bytes_low_41 (by decide) ?_
      refine lv_iload hx hb d_Bytes_low_43 (lv_at hl 0 rfl) ?_
      refine lv_imul hx hb d_Bytes_low_45 ?_
      refine W.eq (g2 := F0 m 46 ls [.int 8, .int v9, .int v6]) (by rw [show ((8 : Int32) * 1) = 8 from by decide]) ?_
      refine lv_ishl hx hb d_Bytes_low_46 ?_
      refine lv_topi (fun v10 e_v10 => ?_)
      refine lv_ior hx hb d_Bytes_low_47 ?_
      refine lv_topi (fun v11 e_v11 => ?_)
      refine lv_istore_n hx hb d_Bytes_low_48 rfl hl (by decide) rfl (fun ls hl => ?_)
      have hl : lv_has ls 5 [(3, .int v11), (4, .int 1), (0, .ref h0), (1, .int x), (2, .int 2)] := hl
      refine lv_iinc (v := 2) hx hb d_Bytes_low_49 hl (k := 1) rfl (by decide) (by decide +kernel) rfl (fun ls hl => ?_)
      have L_2 : (2 : Int32).toInt = 2 := by decide
      have hl : lv_has ls 5 [(4, .int 2), (3, .int v11), (0, .ref h0), (1, .int x), (2, .int 2)] := hl
      refine lv_goto (tgt := 21) hx hb d_Bytes_low_52 (by decide) ?_
      refine lv_iload hx hb d_Bytes_low_21 (lv_at hl 0 rfl) ?_
      refine lv_iload_n hx hb d_Bytes_low_23 rfl (lv_at hl 4 rfl) ?_
      refine lv_icmp_ge (tgt := 55) hx hb d_Bytes_low_24 (by decide) (fun _ => ?_) (fun h_9 => absurd (by decide) h_9)
      refine lv_iload_n hx hb d_Bytes_low_55 rfl (lv_at hl 1 rfl) ?_
      have hP9 := hP.sub (ws' := [(h0, .inr (1, [.ref q, .int L])), (q, .inl (cB, n, .inl f))]) [0, 1] rfl
      have hD9 := hD.sub (ws' := [(h0, .inr (1, [.ref q, .int L])), (q, .inl (cB, n, .inl f))]) [0, 1] (by decide +kernel) rfl
      exact W.iret (v := v11) hx hb hr (fun t ht hW => ⟨⟨v11, (), rfl, trivial, by rw [ht]; exact hP9, hD9⟩, hS.F ht⟩) hS.2.2 d_Bytes_low_56
    · skip
      have g11_10 : ¬ v1.toInt ≤ L.toInt := fun h8 => h_9 ((i_le rfl rfl).mpr h8)
      refine lv_iconst (v := 0) hx hb d_Bytes_low_14 (by decide) ?_
      have hP9 := hP.sub (ws' := [(h0, .inr (1, [.ref q, .int L])), (q, .inl (cB, n, .inl f))]) [0, 1] rfl
      have hD9 := hD.sub (ws' := [(h0, .inr (1, [.ref q, .int L])), (q, .inl (cB, n, .inl f))]) [0, 1] (by decide +kernel) rfl
      exact W.iret (v := 0) hx hb hr (fun t ht hW => ⟨⟨0, (), rfl, trivial, by rw [ht]; exact hP9, hD9⟩, hS.F ht⟩) hS.2.2 d_Bytes_low_15

theorem d_Bytes_halvesAgree_0 : decode b_Bytes_halvesAgree 0 = .ok (.iload_n 1, 1) := by decide +kernel
theorem d_Bytes_halvesAgree_1 : decode b_Bytes_halvesAgree 1 = .ok (.ifCond .lt 15, 3) := by decide +kernel
theorem d_Bytes_halvesAgree_4 : decode b_Bytes_halvesAgree 4 = .ok (.iload_n 1, 1) := by decide +kernel
theorem d_Bytes_halvesAgree_5 : decode b_Bytes_halvesAgree 5 = .ok (.iconst 2, 1) := by decide +kernel
theorem d_Bytes_halvesAgree_6 : decode b_Bytes_halvesAgree 6 = .ok (.iload_n 2, 1) := by decide +kernel
theorem d_Bytes_halvesAgree_7 : decode b_Bytes_halvesAgree 7 = .ok (.imul, 1) := by decide +kernel
theorem d_Bytes_halvesAgree_8 : decode b_Bytes_halvesAgree 8 = .ok (.iadd, 1) := by decide +kernel
theorem d_Bytes_halvesAgree_9 : decode b_Bytes_halvesAgree 9 = .ok (.aload_n 0, 1) := by decide +kernel
theorem d_Bytes_halvesAgree_10 : decode b_Bytes_halvesAgree 10 = .ok (.getfield 25, 3) := by decide +kernel
theorem d_Bytes_halvesAgree_13 : decode b_Bytes_halvesAgree 13 = .ok (.if_icmp .le 5, 3) := by decide +kernel
theorem d_Bytes_halvesAgree_16 : decode b_Bytes_halvesAgree 16 = .ok (.iconst 0, 1) := by decide +kernel
theorem d_Bytes_halvesAgree_17 : decode b_Bytes_halvesAgree 17 = .ok (.ireturn, 1) := by decide +kernel
theorem d_Bytes_halvesAgree_18 : decode b_Bytes_halvesAgree 18 = .ok (.iconst 0, 1) := by decide +kernel
theorem d_Bytes_halvesAgree_19 : decode b_Bytes_halvesAgree 19 = .ok (.istore_n 3, 1) := by decide +kernel
theorem d_Bytes_halvesAgree_20 : decode b_Bytes_halvesAgree 20 = .ok (.iload_n 3, 1) := by decide +kernel
theorem d_Bytes_halvesAgree_21 : decode b_Bytes_halvesAgree 21 = .ok (.iload_n 2, 1) := by decide +kernel
theorem d_Bytes_halvesAgree_22 : decode b_Bytes_halvesAgree 22 = .ok (.if_icmp .ge 36, 3) := by decide +kernel
theorem d_Bytes_halvesAgree_25 : decode b_Bytes_halvesAgree 25 = .ok (.aload_n 0, 1) := by decide +kernel
theorem d_Bytes_halvesAgree_26 : decode b_Bytes_halvesAgree 26 = .ok (.getfield 7, 3) := by decide +kernel
theorem d_Bytes_halvesAgree_29 : decode b_Bytes_halvesAgree 29 = .ok (.iload_n 1, 1) := by decide +kernel
theorem d_Bytes_halvesAgree_30 : decode b_Bytes_halvesAgree 30 = .ok (.iload_n 3, 1) := by decide +kernel
theorem d_Bytes_halvesAgree_31 : decode b_Bytes_halvesAgree 31 = .ok (.iadd, 1) := by decide +kernel
theorem d_Bytes_halvesAgree_32 : decode b_Bytes_halvesAgree 32 = .ok (.baload, 1) := by decide +kernel
theorem d_Bytes_halvesAgree_33 : decode b_Bytes_halvesAgree 33 = .ok (.aload_n 0, 1) := by decide +kernel
theorem d_Bytes_halvesAgree_34 : decode b_Bytes_halvesAgree 34 = .ok (.getfield 7, 3) := by decide +kernel
theorem d_Bytes_halvesAgree_37 : decode b_Bytes_halvesAgree 37 = .ok (.iload_n 1, 1) := by decide +kernel
theorem d_Bytes_halvesAgree_38 : decode b_Bytes_halvesAgree 38 = .ok (.iconst 2, 1) := by decide +kernel
theorem d_Bytes_halvesAgree_39 : decode b_Bytes_halvesAgree 39 = .ok (.iload_n 2, 1) := by decide +kernel
theorem d_Bytes_halvesAgree_40 : decode b_Bytes_halvesAgree 40 = .ok (.imul, 1) := by decide +kernel
theorem d_Bytes_halvesAgree_41 : decode b_Bytes_halvesAgree 41 = .ok (.iadd, 1) := by decide +kernel
theorem d_Bytes_halvesAgree_42 : decode b_Bytes_halvesAgree 42 = .ok (.iconst 1, 1) := by decide +kernel
theorem d_Bytes_halvesAgree_43 : decode b_Bytes_halvesAgree 43 = .ok (.isub, 1) := by decide +kernel
theorem d_Bytes_halvesAgree_44 : decode b_Bytes_halvesAgree 44 = .ok (.iload_n 3, 1) := by decide +kernel
theorem d_Bytes_halvesAgree_45 : decode b_Bytes_halvesAgree 45 = .ok (.isub, 1) := by decide +kernel
theorem d_Bytes_halvesAgree_46 : decode b_Bytes_halvesAgree 46 = .ok (.baload, 1) := by decide +kernel
theorem d_Bytes_halvesAgree_47 : decode b_Bytes_halvesAgree 47 = .ok (.if_icmp .eq 5, 3) := by decide +kernel
theorem d_Bytes_halvesAgree_50 : decode b_Bytes_halvesAgree 50 = .ok (.iconst 0, 1) := by decide +kernel
theorem d_Bytes_halvesAgree_51 : decode b_Bytes_halvesAgree 51 = .ok (.ireturn, 1) := by decide +kernel
theorem d_Bytes_halvesAgree_52 : decode b_Bytes_halvesAgree 52 = .ok (.iinc 3 1, 3) := by decide +kernel
theorem d_Bytes_halvesAgree_55 : decode b_Bytes_halvesAgree 55 = .ok (.goto (-35), 3) := by decide +kernel
theorem d_Bytes_halvesAgree_58 : decode b_Bytes_halvesAgree 58 = .ok (.iconst 1, 1) := by decide +kernel
theorem d_Bytes_halvesAgree_59 : decode b_Bytes_halvesAgree 59 = .ok (.ireturn, 1) := by decide +kernel
set_option maxHeartbeats 4000000 in
set_option maxRecDepth 100000 in
theorem c3_halvesAgree (l : Launch) (D : va_G) (cB cI cJ cZ cN cF : ClassId) (sz : Nat) (h0 : Nat) (q : Nat) (n : Nat) (L : Int32) (f : Nat → Int32) (x : Int32) (y : Int32) (hL : 0 ≤ L.toInt ∧ L.toInt ≤ n) (hn : n ≤ 3000000) (hx : x.toInt ≤ 2000000000) (hy : 0 ≤ y.toInt ∧ y.toInt ≤ 4) : Met l y_Bytes_halvesAgree w_Bytes_halvesAgree ({ frames := 0, cells := 0, slots := 0, locals := 0 }) (va_Pc [.ref h0, .int x, .int y] (fun U => U.heap.size = sz ∧ va_P D CL [(h0, .inr (1, [.ref q, .int L])), (q, .inl (cB, n, .inl f))] U.heap ∧ va_K D CL (TY cB cI cJ cZ cN cF) U ∧ NN U ∧ va_D (fun _ => True) [(h0, .inr (1, [.ref q, .int L])), (q, .inl (cB, n, .inl f))])) (va_Qi (fun (r : Int32) (u : Unit) => (0 ≤ r.toInt ∧ r.toInt ≤ 1)) (fun (u : Unit) (t : State) => match u with | () => va_P D CL [(h0, .inr (1, [.ref q, .int L])), (q, .inl (cB, n, .inl f))] t.heap ∧ va_D (va_A [(h0, .inr (1, [.ref q, .int L])), (q, .inl (cB, n, .inl f))] sz) [(h0, .inr (1, [.ref q, .int L])), (q, .inl (cB, n, .inl f))]) (va_A [(h0, .inr (1, [.ref q, .int L])), (q, .inl (cB, n, .inl f))] sz)) 0 0 (va_A [(h0, .inr (1, [.ref q, .int L])), (q, .inl (cB, n, .inl f))] sz) := by
  refine Met.ofW (cc := b_Bytes_halvesAgree) (maxL := 4) (ret := some .boolean) (by decide +kernel) rfl ?_
  intro p e s m args below meth c s₁ B hml hv
  obtain ⟨rfl, hsz, hP, hK, hN, hD0⟩ := hv
  have hx := B.exec
  have hb := B.bytes
  have hr := B.returns
  have hts := atoms_spec (ws := w_Bytes_halvesAgree) B.pre
  have ht9 := fun (w : Cond) (h : w ∈ lw_g) => hts w (List.mem_cons_of_mem _ h)
  have hown : s.vm.findClass "DiscMaker$Bytes" = some m.cls := findClass_of_methodNamed B.named
  have hlocks := B.notSynchronized
  subst hsz
  have hD := hD0.self (sz := s.heap.size)
  generalize hAe : va_A [(h0, .inr (1, [.ref q, .int L])), (q, .inl (cB, n, .inl f))] s.heap.size = A at hD ⊢
  have hA : ∀ q : Nat, s.heap.size ≤ q → A q := fun q h => by rw [← hAe]; exact Or.inr h
  have hS : va_S A s.heap s.heap [] := va_S.rf
  have hP : va_P D CL [(h0, .inr (1, [.ref q, .int L])), (q, .inl (cB, n, .inl f))] s.heap := hP
  have hl := lv_entry [.ref h0, .int x, .int y] (n := 4) (Nat.le_of_ble_eq_true rfl)
  rw [lg_entry_eq]
  generalize (lg_sl [.ref h0, .int x, .int y] ++ List.replicate (4 - (lg_sl [.ref h0, .int x, .int y]).length) Slot.unset).toArray = ls at hl ⊢
  have hl : lv_has ls 4 [(0, .ref h0), (1, .int x), (2, .int y)] := hl
  have L_m1 : ((-1) : Int32).toInt = (-1) := by decide
  have L_0 : (0 : Int32).toInt = 0 := by decide
  have L_1 : (1 : Int32).toInt = 1 := by decide
  have L_2 : (2 : Int32).toInt = 2 := by decide
  refine lv_iload_n hx hb d_Bytes_halvesAgree_0 rfl (lv_at hl 1 rfl) ?_
  refine lv_if_lt (tgt := 16) hx hb d_Bytes_halvesAgree_1 (by decide) (fun h_9 => ?_) (fun h_9 => ?_)
  · skip
    have g1_2 : x.toInt < 0 := (i_lt rfl (by decide)).mp h_9
    refine lv_iconst (v := 0) hx hb d_Bytes_halvesAgree_16 (by decide) ?_
    have hP9 := hP.sub (ws' := [(h0, .inr (1, [.ref q, .int L])), (q, .inl (cB, n, .inl f))]) [0, 1] rfl
    have hD9 := hD.sub (ws' := [(h0, .inr (1, [.ref q, .int L])), (q, .inl (cB, n, .inl f))]) [0, 1] (by decide +kernel) rfl
    exact W.zret (v := 0) hx hb hr (by first | rfl | decide | exact i_narZ (by omega)) (fun t ht hW => ⟨⟨0, (), rfl, (by (try dsimp only); first | assumption | omega | trivial), by rw [ht]; exact hP9, hD9⟩, hS.F ht⟩) hS.2.2 d_Bytes_halvesAgree_17
  · skip
    have g1_2 : ¬ x.toInt < 0 := fun h8 => h_9 ((i_lt rfl (by decide)).mpr h8)
    refine lv_iload_n hx hb d_Bytes_halvesAgree_4 rfl (lv_at hl 1 rfl) ?_
    refine lv_iconst (v := 2) hx hb d_Bytes_halvesAgree_5 (by decide) ?_
    refine lv_iload_n hx hb d_Bytes_halvesAgree_6 rfl (lv_at hl 2 rfl) ?_
    refine lv_imul hx hb d_Bytes_halvesAgree_7 ?_
    refine lv_topi (fun v1 e_v1 => ?_)
    have t_v1 : v1.toInt = 2 * y.toInt := by rw [e_v1]; exact i_mul (by decide) rfl (by omega) (by omega)
    refine lv_iadd hx hb d_Bytes_halvesAgree_8 ?_
    refine lv_topi (fun v2 e_v2 => ?_)
    have t_v2 : v2.toInt = x.toInt + v1.toInt := by rw [e_v2]; exact i_add rfl rfl (by omega) (by omega)
    refine lv_aload_n hx hb d_Bytes_halvesAgree_9 rfl (lv_at hl 0 rfl) ?_
    refine va_get (D := D) (ci := 1) (v := .int L) (C := "DiscMaker$Bytes") (T := F_Bytes) (N := 2) hx hb ht9 in_Bytes hown hK hP 0 rfl rfl 1 (by decide) (ht9 _ k258) (fun _ h9 => h9) rfl d_Bytes_halvesAgree_10 ?_
    refine lv_icmp_le (tgt := 18) hx hb d_Bytes_halvesAgree_13 (by decide) (fun h_9 => ?_) (fun h_9 => ?_)
    · skip
      have g13_12 : v2.toInt ≤ L.toInt := (i_le rfl rfl).mp h_9
      refine lv_iconst (v := 0) hx hb d_Bytes_halvesAgree_18 (by decide) ?_
      refine lv_istore_n hx hb d_Bytes_halvesAgree_19 rfl hl (by decide) rfl (fun ls hl => ?_)
      have hl : lv_has ls 4 [(3, .int 0), (0, .ref h0), (1, .int x), (2, .int y)] := hl
      refine zz_labM (B := fun (lk : Nat) (K : Heap → List Loc → Array Slot → List Value → Prop) => ∀ (kx : Int32) (H : Heap) (locs : List Loc) (ls : Array Slot), lk = (y.toInt - kx.toInt).toNat → (0 ≤ kx.toInt ∧ kx.toInt ≤ y.toInt) → va_P D CL [(h0, .inr (1, [.ref q, .int L])), (q, .inl (cB, n, .inl f))] H → va_D A [(h0, .inr (1, [.ref q, .int L])), (q, .inl (cB, n, .inl f))] → va_S A s.heap H locs → lv_has ls 4 [(0, .ref h0), (1, .int x), (2, .int y), (3, .int kx)] → K H locs ls []) 20 ?_ ?_
      · skip
        intro lk ih20 kx H locs ls hm20 f1 hP hD hS hl
        refine lv_iload_n hx hb d_Bytes_halvesAgree_20 rfl (lv_at hl 3 rfl) ?_
        refine lv_iload_n hx hb d_Bytes_halvesAgree_21 rfl (lv_at hl 2 rfl) ?_
        refine lv_icmp_ge (tgt := 58) hx hb d_Bytes_halvesAgree_22 (by decide) (fun h_9 => ?_) (fun h_9 => ?_)
        · skip
          have g22_17 : y.toInt ≤ kx.toInt := (i_le rfl rfl).mp h_9
          refine lv_iconst (v := 1) hx hb d_Bytes_halvesAgree_58 (by decide) ?_
          have hP9 := hP.sub (ws' := [(h0, .inr (1, [.ref q, .int L])), (q, .inl (cB, n, .inl f))]) [0, 1] rfl
          have hD9 := hD.sub (ws' := [(h0, .inr (1, [.ref q, .int L])), (q, .inl (cB, n, .inl f))]) [0, 1] (by decide +kernel) rfl
          exact W.zret (v := 1) hx hb hr (by first | rfl | decide | exact i_narZ (by omega)) (fun t ht hW => ⟨⟨1, (), rfl, (by (try dsimp only); first | assumption | omega | trivial), by rw [ht]; exact hP9, hD9⟩, hS.F ht⟩) hS.2.2 d_Bytes_halvesAgree_59
        · skip
          have g22_17 : ¬ y.toInt ≤ kx.toInt := fun h8 => h_9 ((i_le rfl rfl).mpr h8)
          refine lv_aload_n hx hb d_Bytes_halvesAgree_25 rfl (lv_at hl 0 rfl) ?_
          refine va_get (D := D) (ci := 1) (v := .ref q) (C := "DiscMaker$Bytes") (T := F_Bytes) (N := 2) hx hb ht9 in_Bytes hown hK hP 0 rfl rfl 0 (by decide) (ht9 _ k256) (fun _ h9 => h9) rfl d_Bytes_halvesAgree_26 ?_
          refine lv_iload_n hx hb d_Bytes_halvesAgree_29 rfl (lv_at hl 1 rfl) ?_
          refine lv_iload_n hx hb d_Bytes_halvesAgree_30 rfl (lv_at hl 3 rfl) ?_
          refine lv_iadd hx hb d_Bytes_halvesAgree_31 ?_
          refine lv_topi (fun v3 e_v3 => ?_)
          have t_v3 : v3.toInt = x.toInt + kx.toInt := by rw [e_v3]; exact i_add rfl rfl (by omega) (by omega)
          refine va_bald hx hb hK hP 1 0 rfl rfl (vp_in_iff.mpr ⟨by omega, by omega⟩) d_Bytes_halvesAgree_32 ?_
          refine lv_topi (fun v4 e_v4 => ?_)
          refine lv_aload_n hx hb d_Bytes_halvesAgree_33 rfl (lv_at hl 0 rfl) ?_
          refine va_get (D := D) (ci := 1) (v := .ref q) (C := "DiscMaker$Bytes") (T := F_Bytes) (N := 2) hx hb ht9 in_Bytes hown hK hP 0 rfl rfl 0 (by decide) (ht9 _ k256) (fun _ h9 => h9) rfl d_Bytes_halvesAgree_34 ?_
          refine lv_iload_n hx hb d_Bytes_halvesAgree_37 rfl (lv_at hl 1 rfl) ?_
          refine lv_iconst (v := 2) hx hb d_Bytes_halvesAgree_38 (by decide) ?_
          refine lv_iload_n hx hb d_Bytes_halvesAgree_39 rfl (lv_at hl 2 rfl) ?_
          refine lv_imul hx hb d_Bytes_halvesAgree_40 ?_
          refine lv_topi (fun v5 e_v5 => ?_)
          have t_v5 : v5.toInt = 2 * y.toInt := by rw [e_v5]; exact i_mul (by decide) rfl (by omega) (by omega)
          refine lv_iadd hx hb d_Bytes_halvesAgree_41 ?_
          refine lv_topi (fun v6 e_v6 => ?_)
          have t_v6 : v6.toInt = x.toInt + v5.toInt := by rw [e_v6]; exact i_add rfl rfl (by omega) (by omega)
          refine lv_iconst (v := 1) hx hb d_Bytes_halvesAgree_42 (by decide) ?_
          refine lv_isub hx hb d_Bytes_halvesAgree_43 ?_
          refine lv_topi (fun v7 e_v7 => ?_)
          have t_v7 : v7.toInt = v6.toInt - 1 := by rw [e_v7]; exact i_sub rfl (by decide) (by omega) (by omega)
          refine lv_iload_n hx hb d_Bytes_halvesAgree_44 rfl (lv_at hl 3 rfl) ?_
          refine lv_isub hx hb d_Bytes_halvesAgree_45 ?_
          refine lv_topi (fun v8 e_v8 => ?_)
          have t_v8 : v8.toInt = v7.toInt - kx.toInt := by rw [e_v8]; exact i_sub rfl rfl (by omega) (by omega)
          refine va_bald hx hb hK hP 1 0 rfl rfl (vp_in_iff.mpr ⟨by omega, by omega⟩) d_Bytes_halvesAgree_46 ?_
          refine lv_topi (fun v9 e_v9 => ?_)
          refine lv_icmp_eq (tgt := 52) hx hb d_Bytes_halvesAgree_47 (by decide) (fun h_9 => ?_) (fun h_9 => ?_)
          · skip
            have g47_38 : v4.toInt = v9.toInt := (i_eq rfl rfl).mp h_9
            obtain ⟨v10, e_v10⟩ : ∃ z : Int32, z = kx + 1 := ⟨_, rfl⟩
            refine lv_iinc (v := v10) hx hb d_Bytes_halvesAgree_52 hl (k := 3) rfl e_v10.symm (by decide +kernel) rfl (fun ls hl => ?_)
            have t_v10 : v10.toInt = kx.toInt + 1 := by rw [e_v10]; exact i_add rfl (by decide) (by omega) (by omega)
            have hl : lv_has ls 4 [(3, .int v10), (0, .ref h0), (1, .int x), (2, .int y)] := hl
            refine lv_goto (tgt := 20) hx hb d_Bytes_halvesAgree_55 (by decide) ?_
            have hP := hP.sub (ws' := [(h0, .inr (1, [.ref q, .int L])), (q, .inl (cB, n, .inl f))]) [0, 1] rfl
            have hD := hD.sub (ws' := [(h0, .inr (1, [.ref q, .int L])), (q, .inl (cB, n, .inl f))]) [0, 1] (by decide +kernel) rfl
            have hl := lv_sub hl [1, 2, 3, 0] rfl
            exact ih20 _ (by first | omega | (dsimp only; omega)) v10 _ _ _ rfl ((by (try dsimp only); first | assumption | omega | trivial)) hP hD hS hl
          · skip
            have g47_38 : ¬ v4.toInt = v9.toInt := fun h8 => h_9 ((i_eq rfl rfl).mpr h8)
            refine lv_iconst (v := 0) hx hb d_Bytes_halvesAgree_50 (by decide) ?_
            have hP9 := hP.sub (ws' := [(h0, .inr (1, [.ref q, .int L])), (q, .inl (cB, n, .inl f))]) [0, 1] rfl
            have hD9 := hD.sub (ws' := [(h0, .inr (1, [.ref q, .int L])), (q, .inl (cB, n, .inl f))]) [0, 1] (by decide +kernel) rfl
            exact W.zret (v := 0) hx hb hr (by first | rfl | decide | exact i_narZ (by omega)) (fun t ht hW => ⟨⟨0, (), rfl, (by (try dsimp only); first | assumption | omega | trivial), by rw [ht]; exact hP9, hD9⟩, hS.F ht⟩) hS.2.2 d_Bytes_halvesAgree_51
      · skip
        intro kk20
        have hP := hP.sub (ws' := [(h0, .inr (1, [.ref q, .int L])), (q, .inl (cB, n, .inl f))]) [0, 1] rfl
        have hD := hD.sub (ws' := [(h0, .inr (1, [.ref q, .int L])), (q, .inl (cB, n, .inl f))]) [0, 1] (by decide +kernel) rfl
        have hl := lv_sub hl [1, 2, 3, 0] rfl
        exact kk20 _ 0 _ _ _ rfl ((by (try dsimp only); first | assumption | omega | trivial)) hP hD hS hl
    · skip
      have g13_12 : ¬ v2.toInt ≤ L.toInt := fun h8 => h_9 ((i_le rfl rfl).mpr h8)
      refine lv_iconst (v := 0) hx hb d_Bytes_halvesAgree_16 (by decide) ?_
      have hP9 := hP.sub (ws' := [(h0, .inr (1, [.ref q, .int L])), (q, .inl (cB, n, .inl f))]) [0, 1] rfl
      have hD9 := hD.sub (ws' := [(h0, .inr (1, [.ref q, .int L])), (q, .inl (cB, n, .inl f))]) [0, 1] (by decide +kernel) rfl
      exact W.zret (v := 0) hx hb hr (by first | rfl | decide | exact i_narZ (by omega)) (fun t ht hW => ⟨⟨0, (), rfl, (by (try dsimp only); first | assumption | omega | trivial), by rw [ht]; exact hP9, hD9⟩, hS.F ht⟩) hS.2.2 d_Bytes_halvesAgree_17

theorem d_Bytes_holds_0 : decode b_Bytes_holds 0 = .ok (.iconst 0, 1) := by decide +kernel
theorem d_Bytes_holds_1 : decode b_Bytes_holds 1 = .ok (.istore_n 3, 1) := by decide +kernel
theorem d_Bytes_holds_2 : decode b_Bytes_holds 2 = .ok (.iload_n 3, 1) := by decide +kernel
theorem d_Bytes_holds_3 : decode b_Bytes_holds 3 = .ok (.aload_n 2, 1) := by decide +kernel
theorem d_Bytes_holds_4 : decode b_Bytes_holds 4 = .ok (.arraylength, 1) := by decide +kernel
theorem d_Bytes_holds_5 : decode b_Bytes_holds 5 = .ok (.if_icmp .ge 24, 3) := by decide +kernel
theorem d_Bytes_holds_8 : decode b_Bytes_holds 8 = .ok (.aload_n 0, 1) := by decide +kernel
theorem d_Bytes_holds_9 : decode b_Bytes_holds 9 = .ok (.iload_n 1, 1) := by decide +kernel
theorem d_Bytes_holds_10 : decode b_Bytes_holds 10 = .ok (.iload_n 3, 1) := by decide +kernel
theorem d_Bytes_holds_11 : decode b_Bytes_holds 11 = .ok (.iadd, 1) := by decide +kernel
theorem d_Bytes_holds_12 : decode b_Bytes_holds 12 = .ok (.invokevirtual 33, 3) := by decide +kernel
theorem d_Bytes_holds_15 : decode b_Bytes_holds 15 = .ok (.aload_n 2, 1) := by decide +kernel
theorem d_Bytes_holds_16 : decode b_Bytes_holds 16 = .ok (.iload_n 3, 1) := by decide +kernel
theorem d_Bytes_holds_17 : decode b_Bytes_holds 17 = .ok (.baload, 1) := by decide +kernel
theorem d_Bytes_holds_18 : decode b_Bytes_holds 18 = .ok (.if_icmp .eq 5, 3) := by decide +kernel
theorem d_Bytes_holds_21 : decode b_Bytes_holds 21 = .ok (.iconst 0, 1) := by decide +kernel
theorem d_Bytes_holds_22 : decode b_Bytes_holds 22 = .ok (.ireturn, 1) := by decide +kernel
theorem d_Bytes_holds_23 : decode b_Bytes_holds 23 = .ok (.iinc 3 1, 3) := by decide +kernel
theorem d_Bytes_holds_26 : decode b_Bytes_holds 26 = .ok (.goto (-24), 3) := by decide +kernel
theorem d_Bytes_holds_29 : decode b_Bytes_holds 29 = .ok (.iconst 1, 1) := by decide +kernel
theorem d_Bytes_holds_30 : decode b_Bytes_holds 30 = .ok (.ireturn, 1) := by decide +kernel
set_option maxHeartbeats 4000000 in
set_option maxRecDepth 100000 in
theorem c3_holds (l : Launch) (D : va_G) (cB cI cJ cZ cN cF : ClassId) (sz : Nat) (h0 : Nat) (q : Nat) (n : Nat) (L : Int32) (f : Nat → Int32) (tt : Nat) (nt : Nat) (gv : Nat → Int32) (x : Int32) (hL : 0 ≤ L.toInt ∧ L.toInt ≤ n) (hn : n ≤ 3000000) (hnt : nt ≤ 1000) : Met l y_Bytes_holds w_Bytes_holds ({ frames := 1, cells := 0, slots := 0, locals := 27 }) (va_Pc [.ref h0, .int x, .ref tt] (fun U => U.heap.size = sz ∧ va_P D CL [(h0, .inr (1, [.ref q, .int L])), (q, .inl (cB, n, .inl f))] U.heap ∧ va_K D CL (TY cB cI cJ cZ cN cF) U ∧ NN U ∧ va_D (fun _ => True) [(h0, .inr (1, [.ref q, .int L])), (q, .inl (cB, n, .inl f))] ∧ va_T .byte tt nt (fun j => .int (gv j)) (va_A [(h0, .inr (1, [.ref q, .int L])), (q, .inl (cB, n, .inl f))] sz) U U.heap)) (va_Qi (fun (r : Int32) (u : Unit) => (0 ≤ r.toInt ∧ r.toInt ≤ 1)) (fun (u : Unit) (t : State) => match u with | () => va_P D CL [(h0, .inr (1, [.ref q, .int L])), (q, .inl (cB, n, .inl f))] t.heap ∧ va_D (va_A [(h0, .inr (1, [.ref q, .int L])), (q, .inl (cB, n, .inl f))] sz) [(h0, .inr (1, [.ref q, .int L])), (q, .inl (cB, n, .inl f))]) (va_A [(h0, .inr (1, [.ref q, .int L])), (q, .inl (cB, n, .inl f))] sz)) 0 0 (va_A [(h0, .inr (1, [.ref q, .int L])), (q, .inl (cB, n, .inl f))] sz) := by
  refine Met.ofW (cc := b_Bytes_holds) (maxL := 4) (ret := some .boolean) (by decide +kernel) rfl ?_
  intro p e s m args below meth c s₁ B hml hv
  obtain ⟨rfl, hsz, hP, hK, hN, hD0, hZt⟩ := hv
  have hx := B.exec
  have hb := B.bytes
  have hr := B.returns
  have hts := atoms_spec (ws := w_Bytes_holds) B.pre
  have ht9 := fun (w : Cond) (h : w ∈ lw_g) => hts w (List.mem_cons_of_mem _ h)
  have hown : s.vm.findClass "DiscMaker$Bytes" = some m.cls := findClass_of_methodNamed B.named
  have hlocks := B.notSynchronized
  subst hsz
  have hD := hD0.self (sz := s.heap.size)
  generalize hAe : va_A [(h0, .inr (1, [.ref q, .int L])), (q, .inl (cB, n, .inl f))] s.heap.size = A at hD hZt ⊢
  have hA : ∀ q : Nat, s.heap.size ≤ q → A q := fun q h => by rw [← hAe]; exact Or.inr h
  have hS : va_S A s.heap s.heap [] := va_S.rf
  have hP : va_P D CL [(h0, .inr (1, [.ref q, .int L])), (q, .inl (cB, n, .inl f))] s.heap := hP
  have hl := lv_entry [.ref h0, .int x, .ref tt] (n := 4) (Nat.le_of_ble_eq_true rfl)
  rw [lg_entry_eq]
  generalize (lg_sl [.ref h0, .int x, .ref tt] ++ List.replicate (4 - (lg_sl [.ref h0, .int x, .ref tt]).length) Slot.unset).toArray = ls at hl ⊢
  have hl : lv_has ls 4 [(0, .ref h0), (1, .int x), (2, .ref tt)] := hl
  have L_m1 : ((-1) : Int32).toInt = (-1) := by decide
  have L_0 : (0 : Int32).toInt = 0 := by decide
  have L_1 : (1 : Int32).toInt = 1 := by decide
  refine lv_iconst (v := 0) hx hb d_Bytes_holds_0 (by decide) ?_
  refine lv_istore_n hx hb d_Bytes_holds_1 rfl hl (by decide) rfl (fun ls hl => ?_)
  have hl : lv_has ls 4 [(3, .int 0), (0, .ref h0), (1, .int x), (2, .ref tt)] := hl
  refine zz_labM (B := fun (lk : Nat) (K : Heap → List Loc → Array Slot → List Value → Prop) => ∀ (kx : Int32) (H : Heap) (locs : List Loc) (ls : Array Slot), lk = (nt - kx.toInt).toNat → (0 ≤ kx.toInt ∧ kx.toInt ≤ nt) → va_P D CL [(h0, .inr (1, [.ref q, .int L])), (q, .inl (cB, n, .inl f))] H → va_D A [(h0, .inr (1, [.ref q, .int L])), (q, .inl (cB, n, .inl f))] → va_S A s.heap H locs → lv_has ls 4 [(0, .ref h0), (1, .int x), (2, .ref tt), (3, .int kx)] → K H locs ls []) 2 ?_ ?_
  · skip
    intro lk ih2 kx H locs ls hm2 f1 hP hD hS hl
    refine lv_iload_n hx hb d_Bytes_holds_2 rfl (lv_at hl 3 rfl) ?_
    refine lv_aload_n hx hb d_Bytes_holds_3 rfl (lv_at hl 2 rfl) ?_
    refine va_tlen (v := nI nt) hx hb hZt hS rfl d_Bytes_holds_4 ?_
    refine lv_topi (fun v1 e_v1 => ?_)
    have t_v1 : v1.toInt = nt := by rw [e_v1]; exact nI_toInt (by omega)
    refine lv_icmp_ge (tgt := 29) hx hb d_Bytes_holds_5 (by decide) (fun h_9 => ?_) (fun h_9 => ?_)
    · skip
      have g5_6 : v1.toInt ≤ kx.toInt := (i_le rfl rfl).mp h_9
      refine lv_iconst (v := 1) hx hb d_Bytes_holds_29 (by decide) ?_
      have hP9 := hP.sub (ws' := [(h0, .inr (1, [.ref q, .int L])), (q, .inl (cB, n, .inl f))]) [0, 1] rfl
      have hD9 := hD.sub (ws' := [(h0, .inr (1, [.ref q, .int L])), (q, .inl (cB, n, .inl f))]) [0, 1] (by decide +kernel) rfl
      exact W.zret (v := 1) hx hb hr (by first | rfl | decide | exact i_narZ (by omega)) (fun t ht hW => ⟨⟨1, (), rfl, (by (try dsimp only); first | assumption | omega | trivial), by rw [ht]; exact hP9, hD9⟩, hS.F ht⟩) hS.2.2 d_Bytes_holds_30
    · skip
      have g5_6 : ¬ v1.toInt ≤ kx.toInt := fun h8 => h_9 ((i_le rfl rfl).mpr h8)
      refine lv_aload_n hx hb d_Bytes_holds_8 rfl (lv_at hl 0 rfl) ?_
      refine lv_iload_n hx hb d_Bytes_holds_9 rfl (lv_at hl 1 rfl) ?_
      refine lv_iload_n hx hb d_Bytes_holds_10 rfl (lv_at hl 3 rfl) ?_
      refine lv_iadd hx hb d_Bytes_holds_11 ?_
      refine lv_topi (fun v2 e_v2 => ?_)
      have hPc := hP.sub (ws' := [(h0, .inr (1, [.ref q, .int L])), (q, .inl (cB, n, .inl f))]) [0, 1] rfl
      have hDc := hD.sub (ws' := [(h0, .inr (1, [.ref q, .int L])), (q, .inl (cB, n, .inl f))]) [0, 1] (by decide +kernel) rfl
      have hFc := va_free (wc := [(h0, .inr (1, [.ref q, .int L])), (q, .inl (cB, n, .inl f))]) hD hS hA [0, 1] rfl
      have hkc : 0 ≤ 0 := by decide
      have hks : 0 ≤ 0 := by decide
      refine va_calli (va_runV (C := "DiscMaker$Bytes") (As := [.int v2]) (rest := []) ⟨hx, hb, hml, hown, hts⟩ (c3_at l D cB cI cJ cZ cN cF H.size h0 q n L f v2 (by (try dsimp only); first | assumption | omega | trivial) (by (try dsimp only); first | assumption | omega | trivial)) (cwV 1 hts (lg_goodV k1064 k1065 k1066 k119 kc_Bytes_at) rfl rfl rfl (by decide +kernel) ⟨Nat.le_of_ble_eq_true rfl, Nat.le_of_ble_eq_true rfl⟩) ⟨fun a U g mk q => by obtain ⟨q0, q1, qP, qK, qN, qD⟩ := q; exact ⟨q0, q1, qP, va_K.moved (u := U) (U := U.calling g mk a) (Vm.Alike.refl U.vm) qK, qN.calling, qD⟩, va_recv hK hP (ci := 1) (q0 := 0) rfl rfl, fun U hU hW => ⟨rfl, by rw [hU], by rw [hU]; exact hPc, va_K.moved hW.alike hK, NN.warm hW hN, hDc.weaken (fun _ _ _ _ => trivial)⟩⟩ rfl rfl hl.1 rfl (lv_room (Nat.le_of_ble_eq_true rfl)) d_Bytes_holds_12 ⟨hkc, hks⟩) hS (fun q _ h => hFc q h) hFc (fun r3 u t H1 locs ht hvm hp_r3 hB hz1 hk1 hS => ?_)
      obtain ⟨hP1, hD1⟩ := hB
      rw [ht] at hP1
      obtain ⟨hP, hD⟩ := va_join (wr := []) (w1 := [(h0, .inr (1, [.ref q, .int L])), (q, .inl (cB, n, .inl f))]) hP hD [0, 1] [] rfl rfl (by decide +kernel) (by decide +kernel) hk1 hFc hP1 hD1
      clear hPc hDc hFc hP1 hD1 hk1 hz1 hkc hks
      generalize H1 = H at hP hS ⊢
      have hP : va_P D CL [(h0, .inr (1, [.ref q, .int L])), (q, .inl (cB, n, .inl f))] H := hP
      have hD : va_D A [(h0, .inr (1, [.ref q, .int L])), (q, .inl (cB, n, .inl f))] := hD
      try dsimp only at hp_r3
      obtain ⟨hr_4, hv_5⟩ := hp_r3
      refine lv_aload_n hx hb d_Bytes_holds_15 rfl (lv_at hl 2 rfl) ?_
      refine lv_iload_n hx hb d_Bytes_holds_16 rfl (lv_at hl 3 rfl) ?_
      refine va_tb (v := .int (gv kx.toNatClampNeg)) hx hb hZt hS (vp_in_iff.mpr ⟨by omega, by omega⟩) rfl d_Bytes_holds_17 ?_
      refine lv_topi (fun v6 e_v6 => ?_)
      refine lv_icmp_eq (tgt := 23) hx hb d_Bytes_holds_18 (by decide) (fun h_9 => ?_) (fun h_9 => ?_)
      · skip
        have g18_17 : r3.toInt = v6.toInt := (i_eq rfl rfl).mp h_9
        obtain ⟨v7, e_v7⟩ : ∃ z : Int32, z = kx + 1 := ⟨_, rfl⟩
        refine lv_iinc (v := v7) hx hb d_Bytes_holds_23 hl (k := 3) rfl e_v7.symm (by decide +kernel) rfl (fun ls hl => ?_)
        have t_v7 : v7.toInt = kx.toInt + 1 := by rw [e_v7]; exact i_add rfl (by decide) (by omega) (by omega)
        have hl : lv_has ls 4 [(3, .int v7), (0, .ref h0), (1, .int x), (2, .ref tt)] := hl
        refine lv_goto (tgt := 2) hx hb d_Bytes_holds_26 (by decide) ?_
        have hP := hP.sub (ws' := [(h0, .inr (1, [.ref q, .int L])), (q, .inl (cB, n, .inl f))]) [0, 1] rfl
        have hD := hD.sub (ws' := [(h0, .inr (1, [.ref q, .int L])), (q, .inl (cB, n, .inl f))]) [0, 1] (by decide +kernel) rfl
        have hl := lv_sub hl [1, 2, 3, 0] rfl
        exact ih2 _ (by first | omega | (dsimp only; omega)) v7 _ _ _ rfl ((by (try dsimp only); first | assumption | omega | trivial)) hP hD hS hl
      · skip
        have g18_17 : ¬ r3.toInt = v6.toInt := fun h8 => h_9 ((i_eq rfl rfl).mpr h8)
        refine lv_iconst (v := 0) hx hb d_Bytes_holds_21 (by decide) ?_
        have hP9 := hP.sub (ws' := [(h0, .inr (1, [.ref q, .int L])), (q, .inl (cB, n, .inl f))]) [0, 1] rfl
        have hD9 := hD.sub (ws' := [(h0, .inr (1, [.ref q, .int L])), (q, .inl (cB, n, .inl f))]) [0, 1] (by decide +kernel) rfl
        exact W.zret (v := 0) hx hb hr (by first | rfl | decide | exact i_narZ (by omega)) (fun t ht hW => ⟨⟨0, (), rfl, (by (try dsimp only); first | assumption | omega | trivial), by rw [ht]; exact hP9, hD9⟩, hS.F ht⟩) hS.2.2 d_Bytes_holds_22
  · skip
    intro kk2
    have hP := hP.sub (ws' := [(h0, .inr (1, [.ref q, .int L])), (q, .inl (cB, n, .inl f))]) [0, 1] rfl
    have hD := hD.sub (ws' := [(h0, .inr (1, [.ref q, .int L])), (q, .inl (cB, n, .inl f))]) [0, 1] (by decide +kernel) rfl
    have hl := lv_sub hl [1, 2, 3, 0] rfl
    exact kk2 _ 0 _ _ _ rfl ((by (try dsimp only); first | assumption | omega | trivial)) hP hD hS hl
