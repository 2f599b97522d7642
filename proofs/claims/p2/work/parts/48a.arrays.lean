theorem kNat : Cond.native ⟨"java/lang/System", "arraycopy", "(Ljava/lang/Object;ILjava/lang/Object;II)V"⟩ ∈ lw_g := lg_mem 611 (by decide +kernel) rfl
theorem kSame : Cond.sameMethod "[B" "java/lang/Object" "clone" "()Ljava/lang/Object;" ∈ lw_g := lg_mem 600 (by decide +kernel) rfl
theorem kNatC : Cond.native ⟨"java/lang/Object", "clone", "()Ljava/lang/Object;"⟩ ∈ lw_g := lg_mem 601 (by decide +kernel) rfl
theorem kInsC : Cond.instanceMethod ⟨"java/lang/Object", "clone", "()Ljava/lang/Object;"⟩ ∈ lw_g := lg_mem 602 (by decide +kernel) rfl
theorem kSelC : Cond.selects "[B" ⟨"[B", "clone", "()Ljava/lang/Object;"⟩ ⟨"java/lang/Object", "clone", "()Ljava/lang/Object;"⟩ ∈ lw_g := lg_mem 603 (by decide +kernel) rfl
theorem d_Arrays_fill_0 : decode b_Arrays_fill 0 = .ok (.iconst 0, 1) := by decide +kernel
theorem d_Arrays_fill_1 : decode b_Arrays_fill 1 = .ok (.istore_n 2, 1) := by decide +kernel
theorem d_Arrays_fill_2 : decode b_Arrays_fill 2 = .ok (.aload_n 0, 1) := by decide +kernel
theorem d_Arrays_fill_3 : decode b_Arrays_fill 3 = .ok (.arraylength, 1) := by decide +kernel
theorem d_Arrays_fill_4 : decode b_Arrays_fill 4 = .ok (.istore_n 3, 1) := by decide +kernel
theorem d_Arrays_fill_5 : decode b_Arrays_fill 5 = .ok (.iload_n 2, 1) := by decide +kernel
theorem d_Arrays_fill_6 : decode b_Arrays_fill 6 = .ok (.iload_n 3, 1) := by decide +kernel
theorem d_Arrays_fill_7 : decode b_Arrays_fill 7 = .ok (.if_icmp .ge 13, 3) := by decide +kernel
theorem d_Arrays_fill_10 : decode b_Arrays_fill 10 = .ok (.aload_n 0, 1) := by decide +kernel
theorem d_Arrays_fill_11 : decode b_Arrays_fill 11 = .ok (.iload_n 2, 1) := by decide +kernel
theorem d_Arrays_fill_12 : decode b_Arrays_fill 12 = .ok (.iload_n 1, 1) := by decide +kernel
theorem d_Arrays_fill_13 : decode b_Arrays_fill 13 = .ok (.bastore, 1) := by decide +kernel
theorem d_Arrays_fill_14 : decode b_Arrays_fill 14 = .ok (.iinc 2 1, 3) := by decide +kernel
theorem d_Arrays_fill_17 : decode b_Arrays_fill 17 = .ok (.goto (-12), 3) := by decide +kernel
theorem d_Arrays_fill_20 : decode b_Arrays_fill 20 = .ok (.return_, 1) := by decide +kernel
set_option maxHeartbeats 4000000 in
set_option maxRecDepth 100000 in
theorem c3_Arrays_fill (l : Launch) (D : va_G) (cB cI cJ cZ cN cF : ClassId) (sz : Nat) (q : Nat) (n : Nat) (f : Nat → Int32) (x : Int32) (hn : n ≤ 3000000) : Met l y_Arrays_fill w_Arrays_fill ({ frames := 0, cells := 0, slots := 0, locals := 0 }) (va_Pc [.ref q, .int x] (fun U => U.heap.size = sz ∧ va_P D CL [(q, .inl (cB, n, .inl f))] U.heap ∧ va_K D CL (TY cB cI cJ cZ cN cF) U ∧ NN U ∧ va_D (fun _ => True) [(q, .inl (cB, n, .inl f))])) (va_Qv (fun (u : (Nat → Int32)) => True) (fun (u : (Nat → Int32)) (t : State) => match u with | g => va_P D CL [(q, .inl (cB, n, .inl g))] t.heap ∧ va_D (va_A [(q, .inl (cB, n, .inl f))] sz) [(q, .inl (cB, n, .inl g))]) (va_A [(q, .inl (cB, n, .inl f))] sz)) 0 0 (va_A [(q, .inl (cB, n, .inl f))] sz) := by
  refine Met.ofW (cc := b_Arrays_fill) (maxL := 4) (ret := none) (by decide) rfl ?_
  intro p e s m args below meth c s₁ B hml hv
  obtain ⟨rfl, hsz, hP, hK, hN, hD0⟩ := hv
  have hx := B.exec
  have hb := B.bytes
  have hr := B.returns
  have hts := atoms_spec (ws := w_Arrays_fill) B.pre
  have ht9 := fun (w : Cond) (h : w ∈ lw_g) => hts w (List.mem_cons_of_mem _ h)
  have hown : s.vm.findClass "java/util/Arrays" = some m.cls := findClass_of_methodNamed B.named
  have hlocks := B.notSynchronized
  subst hsz
  have hD := hD0.self (sz := s.heap.size)
  generalize hAe : va_A [(q, .inl (cB, n, .inl f))] s.heap.size = A at hD ⊢
  have hA : ∀ q : Nat, s.heap.size ≤ q → A q := fun q h => by rw [← hAe]; exact Or.inr h
  have hS : va_S A s.heap s.heap [] := va_S.rf
  have hP : va_P D CL [(q, .inl (cB, n, .inl f))] s.heap := hP
  have hl := lv_entry [.ref q, .int x] (n := 4) (Nat.le_of_ble_eq_true rfl)
  rw [lg_entry_eq]
  generalize (lg_sl [.ref q, .int x] ++ List.replicate (4 - (lg_sl [.ref q, .int x]).length) Slot.unset).toArray = ls at hl ⊢
  have hl : lv_has ls 4 [(0, .ref q), (1, .int x)] := hl
  have L_m1 : ((-1) : Int32).toInt = (-1) := by decide
  have L_0 : (0 : Int32).toInt = 0 := by decide
  have L_1 : (1 : Int32).toInt = 1 := by decide
  refine lv_iconst (v := 0) hx hb d_Arrays_fill_0 (by decide) ?_
  refine lv_istore_n hx hb d_Arrays_fill_1 rfl hl (by decide) rfl (fun ls hl => ?_)
  have hl : lv_has ls 4 [(2, .int 0), (0, .ref q), (1, .int x)] := hl
  refine lv_aload_n hx hb d_Arrays_fill_2 rfl (lv_at hl 1 rfl) ?_
  refine va_alen (v := nI n) hx hb hK hP 0 0 rfl rfl rfl d_Arrays_fill_3 ?_
  refine lv_topi (fun v1 e_v1 => ?_)
  have t_v1 : v1.toInt = n := by rw [e_v1]; exact nI_toInt (by omega)
  refine lv_istore_n hx hb d_Arrays_fill_4 rfl hl (by decide) rfl (fun ls hl => ?_)
  have hl : lv_has ls 4 [(3, .int v1), (2, .int 0), (0, .ref q), (1, .int x)] := hl
  refine zz_lab (P := fun (lk : Nat) (H : Heap) (locs : List Loc) (ls : Array Slot) (stk : List Value) => ∃ (ln : Int32) (kx : Int32) (lf : Nat → Int32) , lk = (n - kx.toInt).toNat ∧ stk = [] ∧ (ln.toInt = n) ∧ (0 ≤ kx.toInt ∧ kx.toInt ≤ n) ∧ va_P D CL [(q, .inl (cB, n, .inl lf))] H ∧ va_D A [(q, .inl (cB, n, .inl lf))] ∧ va_S A s.heap H locs ∧ lv_has ls 4 [(0, .ref q), (1, .int x), (2, .int kx), (3, .int ln)]) 5 ?_ ?_
  · skip
    intro lk ih5 H locs ls stk hI
    obtain ⟨ln, kx, lf, hm5, rfl, e0, e1, hP, hD, hS, hl⟩ := hI
    refine lv_iload_n hx hb d_Arrays_fill_5 rfl (lv_at hl 2 rfl) ?_
    refine lv_iload_n hx hb d_Arrays_fill_6 rfl (lv_at hl 3 rfl) ?_
    refine lv_icmp_ge (tgt := 20) hx hb d_Arrays_fill_7 (by decide) (fun h_9 => ?_) (fun h_9 => ?_)
    · skip
      have g7_8 : ln.toInt ≤ kx.toInt := (i_le rfl rfl).mp h_9
      have hP9 := hP.sub (ws' := [(q, .inl (cB, n, .inl lf))]) [0] rfl
      have hD9 := hD.sub (ws' := [(q, .inl (cB, n, .inl lf))]) [0] (by decide) rfl
      exact W.vret hx hb hr (fun t ht hW => ⟨⟨lf, rfl, trivial, by rw [ht]; exact hP9, hD9⟩, hS.F ht⟩) hS.2.2 d_Arrays_fill_20
    · skip
      have g7_8 : ¬ ln.toInt ≤ kx.toInt := fun h8 => h_9 ((i_le rfl rfl).mpr h8)
      refine lv_aload_n hx hb d_Arrays_fill_10 rfl (lv_at hl 0 rfl) ?_
      refine lv_iload_n hx hb d_Arrays_fill_11 rfl (lv_at hl 2 rfl) ?_
      refine lv_iload_n hx hb d_Arrays_fill_12 rfl (lv_at hl 1 rfl) ?_
      refine zq_bast hx hb hK hP hD hS 0 0 rfl rfl (vp_in_iff.mpr ⟨by omega, by omega⟩) d_Arrays_fill_13 (fun fz2 e_fz2 H locs hP hD hS => ?_)
      have hP : va_P D CL [(q, .inl (cB, n, .inl fz2))] H := hP
      have hD : va_D A [(q, .inl (cB, n, .inl fz2))] := hD
      obtain ⟨v3, e_v3⟩ : ∃ z : Int32, z = kx + 1 := ⟨_, rfl⟩
      refine lv_iinc (v := v3) hx hb d_Arrays_fill_14 hl (k := 2) rfl e_v3.symm (by decide) rfl (fun ls hl => ?_)
      have t_v3 : v3.toInt = kx.toInt + 1 := by rw [e_v3]; exact i_add rfl (by decide) (by omega) (by omega)
      have hl : lv_has ls 4 [(2, .int v3), (0, .ref q), (1, .int x), (3, .int ln)] := hl
      refine lv_goto (tgt := 5) hx hb d_Arrays_fill_17 (by decide) ?_
      have hP := hP.sub (ws' := [(q, .inl (cB, n, .inl fz2))]) [0] rfl
      have hD := hD.sub (ws' := [(q, .inl (cB, n, .inl fz2))]) [0] (by decide) rfl
      have hl := lv_sub hl [1, 2, 0, 3] rfl
      exact ih5 (_) (by first | omega | (dsimp only; omega)) _ _ _ _ ⟨ln, v3, fz2, rfl, rfl, (by (try dsimp only); first | assumption | omega | trivial), (by (try dsimp only); first | assumption | omega | trivial), hP, hD, hS, hl⟩
  · skip
    intro kk5
    have hP := hP.sub (ws' := [(q, .inl (cB, n, .inl f))]) [0] rfl
    have hD := hD.sub (ws' := [(q, .inl (cB, n, .inl f))]) [0] (by decide) rfl
    have hl := lv_sub hl [2, 3, 1, 0] rfl
    exact kk5 _ _ _ _ _ ⟨v1, 0, f, rfl, rfl, (by (try dsimp only); first | assumption | omega | trivial), (by (try dsimp only); first | assumption | omega | trivial), hP, hD, hS, hl⟩

theorem d_Arrays_checkLength_0 : decode b_Arrays_checkLength 0 = .ok (.iload_n 1, 1) := by decide +kernel
theorem d_Arrays_checkLength_1 : decode b_Arrays_checkLength 1 = .ok (.iload_n 0, 1) := by decide +kernel
theorem d_Arrays_checkLength_2 : decode b_Arrays_checkLength 2 = .ok (.if_icmp .ge 35, 3) := by decide +kernel
theorem d_Arrays_checkLength_37 : decode b_Arrays_checkLength 37 = .ok (.return_, 1) := by decide +kernel
set_option maxHeartbeats 4000000 in
set_option maxRecDepth 100000 in
theorem c3_checkLength (l : Launch) (D : va_G) (cB cI cJ cZ cN cF : ClassId) (sz : Nat) (x : Int32) (y : Int32) (hxy : x.toInt ≤ y.toInt) : Met l y_Arrays_checkLength w_Arrays_checkLength ({ frames := 0, cells := 0, slots := 0, locals := 0 }) (va_Pc [.int x, .int y] (fun U => U.heap.size = sz ∧ va_P D CL [] U.heap ∧ va_K D CL (TY cB cI cJ cZ cN cF) U ∧ NN U ∧ va_D (fun _ => True) [])) (va_Qv (fun (u : Unit) => True) (fun (u : Unit) (t : State) => match u with | () => va_P D CL [] t.heap ∧ va_D (va_A [] sz) []) (va_A [] sz)) 0 0 (va_A [] sz) := by
  refine Met.ofW (cc := b_Arrays_checkLength) (maxL := 2) (ret := none) (by decide) rfl ?_
  intro p e s m args below meth c s₁ B hml hv
  obtain ⟨rfl, hsz, hP, hK, hN, hD0⟩ := hv
  have hx := B.exec
  have hb := B.bytes
  have hr := B.returns
  have hts := atoms_spec (ws := w_Arrays_checkLength) B.pre
  have ht9 := fun (w : Cond) (h : w ∈ lw_g) => hts w (List.mem_cons_of_mem _ h)
  have hown : s.vm.findClass "java/util/Arrays" = some m.cls := findClass_of_methodNamed B.named
  have hlocks := B.notSynchronized
  subst hsz
  have hD := hD0.self (sz := s.heap.size)
  generalize hAe : va_A [] s.heap.size = A at hD ⊢
  have hA : ∀ q : Nat, s.heap.size ≤ q → A q := fun q h => by rw [← hAe]; exact Or.inr h
  have hS : va_S A s.heap s.heap [] := va_S.rf
  have hP : va_P D CL [] s.heap := hP
  have hl := lv_entry [.int x, .int y] (n := 2) (Nat.le_of_ble_eq_true rfl)
  rw [lg_entry_eq]
  generalize (lg_sl [.int x, .int y] ++ List.replicate (2 - (lg_sl [.int x, .int y]).length) Slot.unset).toArray = ls at hl ⊢
  have hl : lv_has ls 2 [(0, .int x), (1, .int y)] := hl
  have L_m1 : ((-1) : Int32).toInt = (-1) := by decide
  have L_0 : (0 : Int32).toInt = 0 := by decide
  have L_1 : (1 : Int32).toInt = 1 := by decide
  refine lv_iload_n hx hb d_Arrays_checkLength_0 rfl (lv_at hl 1 rfl) ?_
  refine lv_iload_n hx hb d_Arrays_checkLength_1 rfl (lv_at hl 0 rfl) ?_
  refine lv_icmp_ge (tgt := 37) hx hb d_Arrays_checkLength_2 (by decide) (fun h_9 => ?_) (fun h_9 => ?_)
  · skip
    have g2_3 : x.toInt ≤ y.toInt := (i_le rfl rfl).mp h_9
    have hP9 := hP.sub (ws' := []) [] rfl
    have hD9 := hD.sub (ws' := []) [] (by decide) rfl
    exact W.vret hx hb hr (fun t ht hW => ⟨⟨(), rfl, trivial, by rw [ht]; exact hP9, hD9⟩, hS.F ht⟩) hS.2.2 d_Arrays_checkLength_37
  · skip
    have g2_3 : ¬ x.toInt ≤ y.toInt := fun h8 => h_9 ((i_le rfl rfl).mpr h8)
    exfalso
    omega

theorem d_Arrays_copyOfRangeByte_0 : decode b_Arrays_copyOfRangeByte 0 = .ok (.iload_n 1, 1) := by decide +kernel
theorem d_Arrays_copyOfRangeByte_1 : decode b_Arrays_copyOfRangeByte 1 = .ok (.iload_n 2, 1) := by decide +kernel
theorem d_Arrays_copyOfRangeByte_2 : decode b_Arrays_copyOfRangeByte 2 = .ok (.invokestatic 343, 3) := by decide +kernel
theorem d_Arrays_copyOfRangeByte_5 : decode b_Arrays_copyOfRangeByte 5 = .ok (.iload_n 2, 1) := by decide +kernel
theorem d_Arrays_copyOfRangeByte_6 : decode b_Arrays_copyOfRangeByte 6 = .ok (.iload_n 1, 1) := by decide +kernel
theorem d_Arrays_copyOfRangeByte_7 : decode b_Arrays_copyOfRangeByte 7 = .ok (.isub, 1) := by decide +kernel
theorem d_Arrays_copyOfRangeByte_8 : decode b_Arrays_copyOfRangeByte 8 = .ok (.istore_n 3, 1) := by decide +kernel
theorem d_Arrays_copyOfRangeByte_9 : decode b_Arrays_copyOfRangeByte 9 = .ok (.iload_n 3, 1) := by decide +kernel
theorem d_Arrays_copyOfRangeByte_10 : decode b_Arrays_copyOfRangeByte 10 = .ok (.newarray .byte, 2) := by decide +kernel
theorem d_Arrays_copyOfRangeByte_12 : decode b_Arrays_copyOfRangeByte 12 = .ok (.astore 4, 2) := by decide +kernel
theorem d_Arrays_copyOfRangeByte_14 : decode b_Arrays_copyOfRangeByte 14 = .ok (.aload_n 0, 1) := by decide +kernel
theorem d_Arrays_copyOfRangeByte_15 : decode b_Arrays_copyOfRangeByte 15 = .ok (.iload_n 1, 1) := by decide +kernel
theorem d_Arrays_copyOfRangeByte_16 : decode b_Arrays_copyOfRangeByte 16 = .ok (.aload 4, 2) := by decide +kernel
theorem d_Arrays_copyOfRangeByte_18 : decode b_Arrays_copyOfRangeByte 18 = .ok (.iconst 0, 1) := by decide +kernel
theorem d_Arrays_copyOfRangeByte_19 : decode b_Arrays_copyOfRangeByte 19 = .ok (.aload_n 0, 1) := by decide +kernel
theorem d_Arrays_copyOfRangeByte_20 : decode b_Arrays_copyOfRangeByte 20 = .ok (.arraylength, 1) := by decide +kernel
theorem d_Arrays_copyOfRangeByte_21 : decode b_Arrays_copyOfRangeByte 21 = .ok (.iload_n 1, 1) := by decide +kernel
theorem d_Arrays_copyOfRangeByte_22 : decode b_Arrays_copyOfRangeByte 22 = .ok (.isub, 1) := by decide +kernel
theorem d_Arrays_copyOfRangeByte_23 : decode b_Arrays_copyOfRangeByte 23 = .ok (.iload_n 3, 1) := by decide +kernel
theorem d_Arrays_copyOfRangeByte_24 : decode b_Arrays_copyOfRangeByte 24 = .ok (.invokestatic 304, 3) := by decide +kernel
theorem d_Arrays_copyOfRangeByte_27 : decode b_Arrays_copyOfRangeByte 27 = .ok (.invokestatic 150, 3) := by decide +kernel
theorem d_Arrays_copyOfRangeByte_30 : decode b_Arrays_copyOfRangeByte 30 = .ok (.aload 4, 2) := by decide +kernel
theorem d_Arrays_copyOfRangeByte_32 : decode b_Arrays_copyOfRangeByte 32 = .ok (.areturn, 1) := by decide +kernel
set_option maxHeartbeats 4000000 in
set_option maxRecDepth 100000 in
theorem c3_copyOfRangeByte (l : Launch) (D : va_G) (cB cI cJ cZ cN cF : ClassId) (sz : Nat) (q : Nat) (f : Nat → Int32) (x : Int32) (y : Int32) (hxy : 0 ≤ x.toInt ∧ x.toInt ≤ y.toInt ∧ y.toInt ≤ 400) (hB : Rg (-128) 127 400 f) : Met l y_Arrays_copyOfRangeByte w_Arrays_copyOfRangeByte ({ frames := 1, cells := 1, slots := 400, locals := 60 }) (va_Pc [.ref q, .int x, .int y] (fun U => U.heap.size = sz ∧ va_P D CL [(q, .inl (cB, 400, .inl f))] U.heap ∧ va_K D CL (TY cB cI cJ cZ cN cF) U ∧ NN U ∧ va_D (fun _ => True) [(q, .inl (cB, 400, .inl f))])) (va_Qr (fun (u : Nat × (Nat → Int32)) => match u with | (n2, g) => ((n2 : Int) = y.toInt - x.toInt) ∧ (Rg (-128) 127 n2 g)) (fun (u : Nat × (Nat → Int32)) (a : Nat) (t : State) => match u with | (n2, g) => va_P D CL [(q, .inl (cB, 400, .inl f)), (a, .inl (cB, n2, .inl g))] t.heap ∧ va_D (va_A [(q, .inl (cB, 400, .inl f))] sz) [(q, .inl (cB, 400, .inl f)), (a, .inl (cB, n2, .inl g))]) (va_A [(q, .inl (cB, 400, .inl f))] sz)) 1 400 (va_A [(q, .inl (cB, 400, .inl f))] sz) := by
  refine Met.ofW (cc := b_Arrays_copyOfRangeByte) (maxL := 5) (ret := some (.array .byte)) (by decide) rfl ?_
  intro p e s m args below meth c s₁ B hml hv
  obtain ⟨rfl, hsz, hP, hK, hN, hD0⟩ := hv
  have hx := B.exec
  have hb := B.bytes
  have hr := B.returns
  have hts := atoms_spec (ws := w_Arrays_copyOfRangeByte) B.pre
  have ht9 := fun (w : Cond) (h : w ∈ lw_g) => hts w (List.mem_cons_of_mem _ h)
  have hown : s.vm.findClass "java/util/Arrays" = some m.cls := findClass_of_methodNamed B.named
  have hlocks := B.notSynchronized
  subst hsz
  have hD := hD0.self (sz := s.heap.size)
  generalize hAe : va_A [(q, .inl (cB, 400, .inl f))] s.heap.size = A at hD ⊢
  have hA : ∀ q : Nat, s.heap.size ≤ q → A q := fun q h => by rw [← hAe]; exact Or.inr h
  have hS : va_S A s.heap s.heap [] := va_S.rf
  have hP : va_P D CL [(q, .inl (cB, 400, .inl f))] s.heap := hP
  have hl := lv_entry [.ref q, .int x, .int y] (n := 5) (Nat.le_of_ble_eq_true rfl)
  rw [lg_entry_eq]
  generalize (lg_sl [.ref q, .int x, .int y] ++ List.replicate (5 - (lg_sl [.ref q, .int x, .int y]).length) Slot.unset).toArray = ls at hl ⊢
  have hl : lv_has ls 5 [(0, .ref q), (1, .int x), (2, .int y)] := hl
  have L_m1 : ((-1) : Int32).toInt = (-1) := by decide
  have L_0 : (0 : Int32).toInt = 0 := by decide
  have L_1 : (1 : Int32).toInt = 1 := by decide
  refine lv_iload_n hx hb d_Arrays_copyOfRangeByte_0 rfl (lv_at hl 1 rfl) ?_
  refine lv_iload_n hx hb d_Arrays_copyOfRangeByte_1 rfl (lv_at hl 2 rfl) ?_
  have hPc := hP.sub (ws' := []) [] rfl
  have hDc := hD.sub (ws' := []) [] (by decide) rfl
  have hFc := va_free (wc := []) hD hS hA [] rfl
  have hkc : 0 ≤ 1 := by decide
  have hks : 0 ≤ 400 := by decide
  refine va_callv (va_runS (As := [.int x, .int y]) (rest := []) ⟨hx, hb, hml, hown, hts⟩ (c3_checkLength l D cB cI cJ cZ cN cF s.heap.size x y (by (try dsimp only); first | assumption | omega | trivial)) (cwS 2 hts (lg_goodS k493 k494 k126 kc_Arrays_checkLength) rfl rfl rfl (by decide +kernel) ⟨Nat.le_of_ble_eq_true rfl, Nat.le_of_ble_eq_true rfl⟩) ⟨fun a U g mk q => by obtain ⟨q0, q1, qP, qK, qN, qD⟩ := q; exact ⟨q0, q1, qP, va_K.moved (u := U) (U := U.calling g mk a) (Vm.Alike.refl U.vm) qK, qN.calling, qD⟩, fun U hU hW => ⟨rfl, by rw [hU], by rw [hU]; exact hPc, va_K.moved hW.alike hK, NN.warm hW hN, hDc.weaken (fun _ _ _ _ => trivial)⟩⟩ rfl rfl hl.1 rfl (lv_room (Nat.le_of_ble_eq_true rfl)) d_Arrays_copyOfRangeByte_2 ⟨hkc, hks⟩) hS (fun q _ h => hFc q h) hFc (fun u t H1 locs ht hvm hp_r1 hB hz1 hk1 hS => ?_)
  obtain ⟨hP1, hD1⟩ := hB
  rw [ht] at hP1
  obtain ⟨hP, hD⟩ := va_join (wr := [(q, .inl (cB, 400, .inl f))]) (w1 := []) hP hD [] [0] rfl rfl (by decide) (by decide) hk1 hFc hP1 hD1
  clear hPc hDc hFc hP1 hD1 hk1 hz1
  generalize H1 = H at hP hS ⊢
  have hP : va_P D CL [(q, .inl (cB, 400, .inl f))] H := hP
  have hD : va_D A [(q, .inl (cB, 400, .inl f))] := hD
  refine lv_iload_n hx hb d_Arrays_copyOfRangeByte_5 rfl (lv_at hl 2 rfl) ?_
  refine lv_iload_n hx hb d_Arrays_copyOfRangeByte_6 rfl (lv_at hl 1 rfl) ?_
  refine lv_isub hx hb d_Arrays_copyOfRangeByte_7 ?_
  refine lv_topi (fun v2 e_v2 => ?_)
  have t_v2 : v2.toInt = y.toInt - x.toInt := by rw [e_v2]; exact i_sub rfl rfl (by omega) (by omega)
  refine lv_istore_n hx hb d_Arrays_copyOfRangeByte_8 rfl hl (by decide) rfl (fun ls hl => ?_)
  have hl : lv_has ls 5 [(3, .int v2), (0, .ref q), (1, .int x), (2, .int y)] := hl
  refine lv_iload_n hx hb d_Arrays_copyOfRangeByte_9 rfl (lv_at hl 0 rfl) ?_
  obtain ⟨N4, e_N4⟩ : ∃ z : Nat, v2.toNatClampNeg = z := ⟨_, rfl⟩
  have t_N4 : (N4 : Int) = v2.toInt := by rw [← e_N4]; exact i_cl (by omega)
  have hc_10 : 1 ≤ 1 := by decide
  have hs_10 : 0 + N4 ≤ 400 := Nat.le_trans (m := 400) (by omega) (by decide)
  refine zz_newa (atype := .byte) (cK := cB) (ty := .byte) (N' := N4) (a0 := (N4, .inl (fun _ => 0))) 0 (fun _ _ _ h1 h2 => Option.some.inj (h1.symm.trans h2)) rfl hx hb (ht9 _ k164) rfl hK hP hD hS hA (fun _ => rfl) (by rw [i_lt (a := v2) rfl (b := 0) L_0]; omega) e_N4 (by show N4 * 1 ≤ 536870912; omega) hc_10 hs_10 d_Arrays_copyOfRangeByte_10 (fun q3 H hP hD hS => ?_)
  have hP : va_P D CL [(q, .inl (cB, 400, .inl f)), (q3, .inl (cB, N4, .inl (fun _ => 0)))] H := hP
  have hD : va_D A [(q, .inl (cB, 400, .inl f)), (q3, .inl (cB, N4, .inl (fun _ => 0)))] := hD
  refine W.widen (k := 1) (n := 400) (by decide) (by omega) ?_
  refine lv_astore hx hb d_Arrays_copyOfRangeByte_12 hl (by decide) rfl (fun ls hl => ?_)
  have hl : lv_has ls 5 [(4, .ref q3), (3, .int v2), (0, .ref q), (1, .int x), (2, .int y)] := hl
  refine lv_aload_n hx hb d_Arrays_copyOfRangeByte_14 rfl (lv_at hl 2 rfl) ?_
  refine lv_iload_n hx hb d_Arrays_copyOfRangeByte_15 rfl (lv_at hl 3 rfl) ?_
  refine lv_aload hx hb d_Arrays_copyOfRangeByte_16 (lv_at hl 0 rfl) ?_
  refine lv_iconst (v := 0) hx hb d_Arrays_copyOfRangeByte_18 (by decide) ?_
  refine lv_aload_n hx hb d_Arrays_copyOfRangeByte_19 rfl (lv_at hl 2 rfl) ?_
  refine va_alen (v := 400) hx hb hK hP 0 0 rfl rfl rfl d_Arrays_copyOfRangeByte_20 ?_
  have L_400 : (400 : Int32).toInt = 400 := by decide
  refine lv_iload_n hx hb d_Arrays_copyOfRangeByte_21 rfl (lv_at hl 3 rfl) ?_
  refine lv_isub hx hb d_Arrays_copyOfRangeByte_22 ?_
  refine lv_topi (fun v5 e_v5 => ?_)
  have t_v5 : v5.toInt = 400 - x.toInt := by rw [e_v5]; exact i_sub (by decide) rfl (by omega) (by omega)
  refine lv_iload_n hx hb d_Arrays_copyOfRangeByte_23 rfl (lv_at hl 1 rfl) ?_
  refine va_mmin (x := v5) (y := v2) hx hb (hml.trans hl.1.symm) hown (ht9 _ k606) (ht9 _ k607) (ht9 _ k137) (ht9 _ kMin) (Nat.le_of_ble_eq_true rfl) (Nat.le_of_ble_eq_true rfl) (by decide) (by decide) d_Arrays_copyOfRangeByte_24 ?_
  refine lv_topi (fun v6 e_v6 => ?_)
  have t_v6 : (v6.toInt = v5.toInt ∧ v5.toInt ≤ v2.toInt) ∨ (v6.toInt = v2.toInt ∧ v2.toInt < v5.toInt) := by rw [e_v6]; exact i_min rfl rfl
  have hcn := i_cl (a := v6) (by omega)
  have hcs := i_cl (a := x) (by omega)
  refine va_copyi hx hb (hml.trans hl.1.symm) hown (ht9 _ k609) (ht9 _ kNat) (ht9 _ k610) (ht9 _ k138) hK hP hD hS 0 1 0 0 rfl rfl rfl rfl rfl (by rw [i_lt (a := x) rfl (b := 0) L_0]; omega) (by decide) (by rw [i_lt (a := v6) rfl (b := 0) L_0]; omega) (by omega) (by show 0 + _ ≤ _; omega) (fun i hi => i_fitB (hB _ (by omega))) (Nat.le_of_ble_eq_true rfl) (Nat.le_of_ble_eq_true rfl) d_Arrays_copyOfRangeByte_27 (fun H locs hP hD hS => ?_)
  have hP : va_P D CL [(q, .inl (cB, 400, .inl f)), (q3, .inl (cB, N4, .inl (va_cpy f (fun _ => 0) x.toNatClampNeg 0 v6.toNatClampNeg)))] H := hP
  have hD : va_D A [(q, .inl (cB, 400, .inl f)), (q3, .inl (cB, N4, .inl (va_cpy f (fun _ => 0) x.toNatClampNeg 0 v6.toNatClampNeg)))] := hD
  refine lv_aload hx hb d_Arrays_copyOfRangeByte_30 (lv_at hl 0 rfl) ?_
  have hP9 := hP.sub (ws' := [(q, .inl (cB, 400, .inl f)), (q3, .inl (cB, N4, .inl (va_cpy f (fun _ => 0) x.toNatClampNeg 0 v6.toNatClampNeg)))]) [0, 1] rfl
  have hD9 := hD.sub (ws' := [(q, .inl (cB, 400, .inl f)), (q3, .inl (cB, N4, .inl (va_cpy f (fun _ => 0) x.toNatClampNeg 0 v6.toNatClampNeg)))]) [0, 1] (by decide) rfl
  exact W.aret (v := .ref q3) hx hb hr (Or.inr ⟨_, rfl⟩) (Or.inr ⟨_, rfl⟩) (fun t ht hW => ⟨⟨(N4, (va_cpy f (fun _ => 0) x.toNatClampNeg 0 v6.toNatClampNeg)), q3, rfl, ⟨(by (try dsimp only); first | assumption | omega | trivial), (Rg_cpy hB (fun _ => by decide) (by omega) _)⟩, by rw [ht]; exact hP9, hD9⟩, hS.F ht⟩) hS.2.2 d_Arrays_copyOfRangeByte_32

theorem d_Arrays_copyOfRange_0 : decode b_Arrays_copyOfRange 0 = .ok (.iload_n 1, 1) := by decide +kernel
theorem d_Arrays_copyOfRange_1 : decode b_Arrays_copyOfRange 1 = .ok (.ifCond .ne 9, 3) := by decide +kernel
theorem d_Arrays_copyOfRange_4 : decode b_Arrays_copyOfRange 4 = .ok (.iload_n 2, 1) := by decide +kernel
theorem d_Arrays_copyOfRange_5 : decode b_Arrays_copyOfRange 5 = .ok (.aload_n 0, 1) := by decide +kernel
theorem d_Arrays_copyOfRange_6 : decode b_Arrays_copyOfRange 6 = .ok (.arraylength, 1) := by decide +kernel
theorem d_Arrays_copyOfRange_7 : decode b_Arrays_copyOfRange 7 = .ok (.if_icmp .eq 10, 3) := by decide +kernel
theorem d_Arrays_copyOfRange_10 : decode b_Arrays_copyOfRange 10 = .ok (.aload_n 0, 1) := by decide +kernel
theorem d_Arrays_copyOfRange_11 : decode b_Arrays_copyOfRange 11 = .ok (.iload_n 1, 1) := by decide +kernel
theorem d_Arrays_copyOfRange_12 : decode b_Arrays_copyOfRange 12 = .ok (.iload_n 2, 1) := by decide +kernel
theorem d_Arrays_copyOfRange_13 : decode b_Arrays_copyOfRange 13 = .ok (.invokestatic 339, 3) := by decide +kernel
theorem d_Arrays_copyOfRange_16 : decode b_Arrays_copyOfRange 16 = .ok (.areturn, 1) := by decide +kernel
theorem d_Arrays_copyOfRange_17 : decode b_Arrays_copyOfRange 17 = .ok (.aload_n 0, 1) := by decide +kernel
theorem d_Arrays_copyOfRange_18 : decode b_Arrays_copyOfRange 18 = .ok (.invokevirtual 310, 3) := by decide +kernel
theorem d_Arrays_copyOfRange_21 : decode b_Arrays_copyOfRange 21 = .ok (.checkcast, 1) := by decide +kernel
theorem d_Arrays_copyOfRange_24 : decode b_Arrays_copyOfRange 24 = .ok (.areturn, 1) := by decide +kernel
set_option maxHeartbeats 4000000 in
set_option maxRecDepth 100000 in
theorem c3_copyOfRange (l : Launch) (D : va_G) (cB cI cJ cZ cN cF : ClassId) (sz : Nat) (q : Nat) (f : Nat → Int32) (x : Int32) (y : Int32) (hxy : 0 ≤ x.toInt ∧ x.toInt ≤ y.toInt ∧ y.toInt ≤ 400) (hB : Rg (-128) 127 400 f) : Met l y_Arrays_copyOfRange w_Arrays_copyOfRange ({ frames := 2, cells := 1, slots := 400, locals := 90 }) (va_Pc [.ref q, .int x, .int y] (fun U => U.heap.size = sz ∧ va_P D CL [(q, .inl (cB, 400, .inl f))] U.heap ∧ va_K D CL (TY cB cI cJ cZ cN cF) U ∧ NN U ∧ va_D (fun _ => True) [(q, .inl (cB, 400, .inl f))] ∧ CST (va_A [(q, .inl (cB, 400, .inl f))] sz) U U.heap)) (va_Qr (fun (u : Nat × (Nat → Int32)) => match u with | (n2, g) => ((n2 : Int) = y.toInt - x.toInt) ∧ (Rg (-128) 127 n2 g)) (fun (u : Nat × (Nat → Int32)) (a : Nat) (t : State) => match u with | (n2, g) => va_P D CL [(q, .inl (cB, 400, .inl f)), (a, .inl (cB, n2, .inl g))] t.heap ∧ va_D (va_A [(q, .inl (cB, 400, .inl f))] sz) [(q, .inl (cB, 400, .inl f)), (a, .inl (cB, n2, .inl g))]) (va_A [(q, .inl (cB, 400, .inl f))] sz)) 1 400 (va_A [(q, .inl (cB, 400, .inl f))] sz) := by
  refine Met.ofW (cc := b_Arrays_copyOfRange) (maxL := 3) (ret := some (.array .byte)) (by decide) rfl ?_
  intro p e s m args below meth c s₁ B hml hv
  obtain ⟨rfl, hsz, hP, hK, hN, hD0, hZc⟩ := hv
  have hx := B.exec
  have hb := B.bytes
  have hr := B.returns
  have hts := atoms_spec (ws := w_Arrays_copyOfRange) B.pre
  have ht9 := fun (w : Cond) (h : w ∈ lw_g) => hts w (List.mem_cons_of_mem _ h)
  have hown : s.vm.findClass "java/util/Arrays" = some m.cls := findClass_of_methodNamed B.named
  have hlocks := B.notSynchronized
  subst hsz
  have hD := hD0.self (sz := s.heap.size)
  generalize hAe : va_A [(q, .inl (cB, 400, .inl f))] s.heap.size = A at hD hZc ⊢
  have hA : ∀ q : Nat, s.heap.size ≤ q → A q := fun q h => by rw [← hAe]; exact Or.inr h
  have hS : va_S A s.heap s.heap [] := va_S.rf
  have hP : va_P D CL [(q, .inl (cB, 400, .inl f))] s.heap := hP
  have hl := lv_entry [.ref q, .int x, .int y] (n := 3) (Nat.le_of_ble_eq_true rfl)
  rw [lg_entry_eq]
  generalize (lg_sl [.ref q, .int x, .int y] ++ List.replicate (3 - (lg_sl [.ref q, .int x, .int y]).length) Slot.unset).toArray = ls at hl ⊢
  have hl : lv_has ls 3 [(0, .ref q), (1, .int x), (2, .int y)] := hl
  have L_m1 : ((-1) : Int32).toInt = (-1) := by decide
  have L_0 : (0 : Int32).toInt = 0 := by decide
  have L_1 : (1 : Int32).toInt = 1 := by decide
  refine lv_iload_n hx hb d_Arrays_copyOfRange_0 rfl (lv_at hl 1 rfl) ?_
  refine lv_if_ne (tgt := 10) hx hb d_Arrays_copyOfRange_1 (by decide) (fun h_9 => ?_) (fun h_9 => ?_)
  · skip
    have g1_2 : ¬ x.toInt = 0 := fun h8 => h_9 ((i_eq rfl (by decide)).mpr h8)
    refine lv_aload_n hx hb d_Arrays_copyOfRange_10 rfl (lv_at hl 0 rfl) ?_
    refine lv_iload_n hx hb d_Arrays_copyOfRange_11 rfl (lv_at hl 1 rfl) ?_
    refine lv_iload_n hx hb d_Arrays_copyOfRange_12 rfl (lv_at hl 2 rfl) ?_
    have hPc := hP.sub (ws' := [(q, .inl (cB, 400, .inl f))]) [0] rfl
    have hDc := hD.sub (ws' := [(q, .inl (cB, 400, .inl f))]) [0] (by decide) rfl
    have hFc := va_free (wc := [(q, .inl (cB, 400, .inl f))]) hD hS hA [0] rfl
    have hkc : 1 ≤ 1 := by decide
    have hks : 400 ≤ 400 := by decide
    refine va_callr (va_runS (As := [.ref q, .int x, .int y]) (rest := []) ⟨hx, hb, hml, hown, hts⟩ (c3_copyOfRangeByte l D cB cI cJ cZ cN cF s.heap.size q f x y (by (try dsimp only); first | assumption | omega | trivial) (by (try dsimp only); first | assumption | omega | trivial)) (cwS 3 hts (lg_goodS k490 k491 k126 kc_Arrays_copyOfRangeByte) rfl rfl rfl (by decide +kernel) ⟨Nat.le_of_ble_eq_true rfl, Nat.le_of_ble_eq_true rfl⟩) ⟨fun a U g mk q => by obtain ⟨q0, q1, qP, qK, qN, qD⟩ := q; exact ⟨q0, q1, qP, va_K.moved (u := U) (U := U.calling g mk a) (Vm.Alike.refl U.vm) qK, qN.calling, qD⟩, fun U hU hW => ⟨rfl, by rw [hU], by rw [hU]; exact hPc, va_K.moved hW.alike hK, NN.warm hW hN, hDc.weaken (fun _ _ _ _ => trivial)⟩⟩ rfl rfl hl.1 rfl (lv_room (Nat.le_of_ble_eq_true rfl)) d_Arrays_copyOfRange_13 ⟨hkc, hks⟩) hS (fun q _ h => hFc q h) hFc (fun u r1 t H1 locs ht hvm hp_r1 hB hz1 hk1 hS => ?_)
    obtain ⟨n2_2, g_3⟩ := u
    obtain ⟨hP1, hD1⟩ := hB
    rw [ht] at hP1
    obtain ⟨hP, hD⟩ := va_join (wr := []) (w1 := [(q, .inl (cB, 400, .inl f)), (r1, .inl (cB, n2_2, .inl g_3))]) hP hD [0] [] rfl rfl (by decide) (by decide) hk1 hFc hP1 hD1
    clear hPc hDc hFc hP1 hD1 hk1 hz1
    generalize H1 = H at hP hS ⊢
    have hP : va_P D CL [(q, .inl (cB, 400, .inl f)), (r1, .inl (cB, n2_2, .inl g_3))] H := hP
    have hD : va_D A [(q, .inl (cB, 400, .inl f)), (r1, .inl (cB, n2_2, .inl g_3))] := hD
    refine W.widen (k := 1) (n := 400) (by decide) (by decide) ?_
    try dsimp only at hp_r1
    obtain ⟨hn2_4, hB2_5⟩ := hp_r1
    have hP9 := hP.sub (ws' := [(q, .inl (cB, 400, .inl f)), (r1, .inl (cB, n2_2, .inl g_3))]) [0, 1] rfl
    have hD9 := hD.sub (ws' := [(q, .inl (cB, 400, .inl f)), (r1, .inl (cB, n2_2, .inl g_3))]) [0, 1] (by decide) rfl
    exact W.aret (v := .ref r1) hx hb hr (Or.inr ⟨_, rfl⟩) (Or.inr ⟨_, rfl⟩) (fun t ht hW => ⟨⟨(n2_2, g_3), r1, rfl, ⟨(by (try dsimp only); first | assumption | omega | trivial), hB2_5⟩, by rw [ht]; exact hP9, hD9⟩, hS.F ht⟩) hS.2.2 d_Arrays_copyOfRange_16
  · skip
    have g1_2 : x.toInt = 0 := (i_eq rfl (by decide)).mp h_9
    refine lv_iload_n hx hb d_Arrays_copyOfRange_4 rfl (lv_at hl 2 rfl) ?_
    refine lv_aload_n hx hb d_Arrays_copyOfRange_5 rfl (lv_at hl 0 rfl) ?_
    refine va_alen (v := 400) hx hb hK hP 0 0 rfl rfl rfl d_Arrays_copyOfRange_6 ?_
    have L_400 : (400 : Int32).toInt = 400 := by decide
    refine lv_icmp_eq (tgt := 17) hx hb d_Arrays_copyOfRange_7 (by decide) (fun h_9 => ?_) (fun h_9 => ?_)
    · skip
      have g7_11 : y.toInt = 400 := (i_eq rfl (by decide)).mp h_9
      refine lv_aload_n hx hb d_Arrays_copyOfRange_17 rfl (lv_at hl 0 rfl) ?_
      have hc_18 : 1 ≤ 1 := by decide
      have hs_18 : 400 ≤ 400 := by decide
      have hnmB : s.vm.findClass "[B" = some cB := (hK.2 0 (cB, .byte) rfl).2
      refine va_clone (ad := "[B") hx hb (hml.trans hl.1.symm) hown (ht9 _ k599) (ht9 _ kSame) (ht9 _ kNatC) (ht9 _ kInsC) (ht9 _ kSelC) hZc hK hP hD hS hA 0 0 rfl rfl hnmB (fun i v hv => by
        have hi : i < 400 := by have h := (Array.getElem?_eq_some_iff.mp hv).1; exact h.trans_eq (arrV_size _ _ _)
        have h2 : (arrV cB 400 (fun j => .int (f j))).slots[i]? = some v := hv
        rw [arrV_read _ _ hi] at h2; cases h2; exact i_fitB (hB _ hi)) (Nat.le_of_ble_eq_true rfl) (Nat.le_of_ble_eq_true rfl) hc_18 hs_18 d_Arrays_copyOfRange_18 (fun q6 H hK9 hP hD hS => ?_)
      have hP : va_P D CL [(q, .inl (cB, 400, .inl f)), (q6, .inl (cB, 400, .inl f))] H := hP
      have hD : va_D A [(q, .inl (cB, 400, .inl f)), (q6, .inl (cB, 400, .inl f))] := hD
      refine W.widen (k := 1) (n := 400) (by decide) (by decide) ?_
      refine va_castA (nm := "[B") hx hb hown (ht9 _ k605) hP 1 rfl hnmB d_Arrays_copyOfRange_21 ?_
      have hP9 := hP.sub (ws' := [(q, .inl (cB, 400, .inl f)), (q6, .inl (cB, 400, .inl f))]) [0, 1] rfl
      have hD9 := hD.sub (ws' := [(q, .inl (cB, 400, .inl f)), (q6, .inl (cB, 400, .inl f))]) [0, 1] (by decide) rfl
      exact W.aret (v := .ref q6) hx hb hr (Or.inr ⟨_, rfl⟩) (Or.inr ⟨_, rfl⟩) (fun t ht hW => ⟨⟨(400, f), q6, rfl, ⟨(by (try dsimp only); first | assumption | omega | trivial), hB⟩, by rw [ht]; exact hP9, hD9⟩, hS.F ht⟩) hS.2.2 d_Arrays_copyOfRange_24
    · skip
      have g7_11 : ¬ y.toInt = 400 := fun h8 => h_9 ((i_eq rfl (by decide)).mpr h8)
      refine lv_aload_n hx hb d_Arrays_copyOfRange_10 rfl (lv_at hl 0 rfl) ?_
      refine lv_iload_n hx hb d_Arrays_copyOfRange_11 rfl (lv_at hl 1 rfl) ?_
      refine lv_iload_n hx hb d_Arrays_copyOfRange_12 rfl (lv_at hl 2 rfl) ?_
      have hPc := hP.sub (ws' := [(q, .inl (cB, 400, .inl f))]) [0] rfl
      have hDc := hD.sub (ws' := [(q, .inl (cB, 400, .inl f))]) [0] (by decide) rfl
      have hFc := va_free (wc := [(q, .inl (cB, 400, .inl f))]) hD hS hA [0] rfl
      have hkc : 1 ≤ 1 := by decide
      have hks : 400 ≤ 400 := by decide
      refine va_callr (va_runS (As := [.ref q, .int x, .int y]) (rest := []) ⟨hx, hb, hml, hown, hts⟩ (c3_copyOfRangeByte l D cB cI cJ cZ cN cF s.heap.size q f x y (by (try dsimp only); first | assumption | omega | trivial) (by (try dsimp only); first | assumption | omega | trivial)) (cwS 3 hts (lg_goodS k490 k491 k126 kc_Arrays_copyOfRangeByte) rfl rfl rfl (by decide +kernel) ⟨Nat.le_of_ble_eq_true rfl, Nat.le_of_ble_eq_true rfl⟩) ⟨fun a U g mk q => by obtain ⟨q0, q1, qP, qK, qN, qD⟩ := q; exact ⟨q0, q1, qP, va_K.moved (u := U) (U := U.calling g mk a) (Vm.Alike.refl U.vm) qK, qN.calling, qD⟩, fun U hU hW => ⟨rfl, by rw [hU], by rw [hU]; exact hPc, va_K.moved hW.alike hK, NN.warm hW hN, hDc.weaken (fun _ _ _ _ => trivial)⟩⟩ rfl rfl hl.1 rfl (lv_room (Nat.le_of_ble_eq_true rfl)) d_Arrays_copyOfRange_13 ⟨hkc, hks⟩) hS (fun q _ h => hFc q h) hFc (fun u r7 t H1 locs ht hvm hp_r7 hB hz1 hk1 hS => ?_)
      obtain ⟨n2_8, g_9⟩ := u
      obtain ⟨hP1, hD1⟩ := hB
      rw [ht] at hP1
      obtain ⟨hP, hD⟩ := va_join (wr := []) (w1 := [(q, .inl (cB, 400, .inl f)), (r7, .inl (cB, n2_8, .inl g_9))]) hP hD [0] [] rfl rfl (by decide) (by decide) hk1 hFc hP1 hD1
      clear hPc hDc hFc hP1 hD1 hk1 hz1
      generalize H1 = H at hP hS ⊢
      have hP : va_P D CL [(q, .inl (cB, 400, .inl f)), (r7, .inl (cB, n2_8, .inl g_9))] H := hP
      have hD : va_D A [(q, .inl (cB, 400, .inl f)), (r7, .inl (cB, n2_8, .inl g_9))] := hD
      refine W.widen (k := 1) (n := 400) (by decide) (by decide) ?_
      try dsimp only at hp_r7
      obtain ⟨hn2_10, hB2_11⟩ := hp_r7
      have hP9 := hP.sub (ws' := [(q, .inl (cB, 400, .inl f)), (r7, .inl (cB, n2_8, .inl g_9))]) [0, 1] rfl
      have hD9 := hD.sub (ws' := [(q, .inl (cB, 400, .inl f)), (r7, .inl (cB, n2_8, .inl g_9))]) [0, 1] (by decide) rfl
      exact W.aret (v := .ref r7) hx hb hr (Or.inr ⟨_, rfl⟩) (Or.inr ⟨_, rfl⟩) (fun t ht hW => ⟨⟨(n2_8, g_9), r7, rfl, ⟨(by (try dsimp only); first | assumption | omega | trivial), hB2_11⟩, by rw [ht]; exact hP9, hD9⟩, hS.F ht⟩) hS.2.2 d_Arrays_copyOfRange_16

theorem d_Text_part_0 : decode b_Text_part 0 = .ok (.iload_n 1, 1) := by decide +kernel
theorem d_Text_part_1 : decode b_Text_part 1 = .ok (.iload_n 2, 1) := by decide +kernel
theorem d_Text_part_2 : decode b_Text_part 2 = .ok (.if_icmp .ge 15, 3) := by decide +kernel
theorem d_Text_part_5 : decode b_Text_part 5 = .ok (.aload_n 0, 1) := by decide +kernel
theorem d_Text_part_6 : decode b_Text_part 6 = .ok (.getfield 9, 3) := by decide +kernel
theorem d_Text_part_9 : decode b_Text_part 9 = .ok (.iload_n 1, 1) := by decide +kernel
theorem d_Text_part_10 : decode b_Text_part 10 = .ok (.iload_n 2, 1) := by decide +kernel
theorem d_Text_part_11 : decode b_Text_part 11 = .ok (.invokestatic 23, 3) := by decide +kernel
theorem d_Text_part_14 : decode b_Text_part 14 = .ok (.goto 6, 3) := by decide +kernel
theorem d_Text_part_17 : decode b_Text_part 17 = .ok (.iconst 0, 1) := by decide +kernel
theorem d_Text_part_18 : decode b_Text_part 18 = .ok (.newarray .byte, 2) := by decide +kernel
theorem d_Text_part_20 : decode b_Text_part 20 = .ok (.areturn, 1) := by decide +kernel
set_option maxHeartbeats 4000000 in
set_option maxRecDepth 100000 in
theorem c3_part (l : Launch) (D : va_G) (cB cI cJ cZ cN cF : ClassId) (sz : Nat) (h0 : Nat) (q : Nat) (L : Int32) (f : Nat → Int32) (x : Int32) (y : Int32) (hx : 0 ≤ x.toInt ∧ y.toInt ≤ 400) (hB : Rg (-128) 127 400 f) : Met l y_Text_part w_Text_part ({ frames := 3, cells := 1, slots := 400, locals := 118 }) (va_Pc [.ref h0, .int x, .int y] (fun U => U.heap.size = sz ∧ va_P D CL [(h0, .inr (9, [.ref q, .int L])), (q, .inl (cB, 400, .inl f))] U.heap ∧ va_K D CL (TY cB cI cJ cZ cN cF) U ∧ NN U ∧ va_D (fun _ => True) [(h0, .inr (9, [.ref q, .int L])), (q, .inl (cB, 400, .inl f))] ∧ CST (va_A [(h0, .inr (9, [.ref q, .int L])), (q, .inl (cB, 400, .inl f))] sz) U U.heap)) (va_Qr (fun (u : Nat × (Nat → Int32)) => match u with | (n2, g) => ((n2 : Int) ≤ 400 ∧ ((n2 : Int) = y.toInt - x.toInt ∨ (y.toInt ≤ x.toInt ∧ n2 = 0))) ∧ (Rg (-128) 127 n2 g)) (fun (u : Nat × (Nat → Int32)) (a : Nat) (t : State) => match u with | (n2, g) => va_P D CL [(h0, .inr (9, [.ref q, .int L])), (q, .inl (cB, 400, .inl f)), (a, .inl (cB, n2, .inl g))] t.heap ∧ va_D (va_A [(h0, .inr (9, [.ref q, .int L])), (q, .inl (cB, 400, .inl f))] sz) [(h0, .inr (9, [.ref q, .int L])), (q, .inl (cB, 400, .inl f)), (a, .inl (cB, n2, .inl g))]) (va_A [(h0, .inr (9, [.ref q, .int L])), (q, .inl (cB, 400, .inl f))] sz)) 1 400 (va_A [(h0, .inr (9, [.ref q, .int L])), (q, .inl (cB, 400, .inl f))] sz) := by
  refine Met.ofW (cc := b_Text_part) (maxL := 3) (ret := some (.array .byte)) (by decide) rfl ?_
  intro p e s m args below meth c s₁ B hml hv
  obtain ⟨rfl, hsz, hP, hK, hN, hD0, hZc⟩ := hv
  have hx := B.exec
  have hb := B.bytes
  have hr := B.returns
  have hts := atoms_spec (ws := w_Text_part) B.pre
  have ht9 := fun (w : Cond) (h : w ∈ lw_g) => hts w (List.mem_cons_of_mem _ h)
  have hown : s.vm.findClass "DiscMaker$Text" = some m.cls := findClass_of_methodNamed B.named
  have hlocks := B.notSynchronized
  subst hsz
  have hD := hD0.self (sz := s.heap.size)
  generalize hAe : va_A [(h0, .inr (9, [.ref q, .int L])), (q, .inl (cB, 400, .inl f))] s.heap.size = A at hD hZc ⊢
  have hA : ∀ q : Nat, s.heap.size ≤ q → A q := fun q h => by rw [← hAe]; exact Or.inr h
  have hS : va_S A s.heap s.heap [] := va_S.rf
  have hP : va_P D CL [(h0, .inr (9, [.ref q, .int L])), (q, .inl (cB, 400, .inl f))] s.heap := hP
  have hl := lv_entry [.ref h0, .int x, .int y] (n := 3) (Nat.le_of_ble_eq_true rfl)
  rw [lg_entry_eq]
  generalize (lg_sl [.ref h0, .int x, .int y] ++ List.replicate (3 - (lg_sl [.ref h0, .int x, .int y]).length) Slot.unset).toArray = ls at hl ⊢
  have hl : lv_has ls 3 [(0, .ref h0), (1, .int x), (2, .int y)] := hl
  have L_m1 : ((-1) : Int32).toInt = (-1) := by decide
  have L_0 : (0 : Int32).toInt = 0 := by decide
  have L_1 : (1 : Int32).toInt = 1 := by decide
  refine lv_iload_n hx hb d_Text_part_0 rfl (lv_at hl 1 rfl) ?_
  refine lv_iload_n hx hb d_Text_part_1 rfl (lv_at hl 2 rfl) ?_
  refine lv_icmp_ge (tgt := 17) hx hb d_Text_part_2 (by decide) (fun h_9 => ?_) (fun h_9 => ?_)
  · skip
    have g2_3 : y.toInt ≤ x.toInt := (i_le rfl rfl).mp h_9
    refine lv_iconst (v := 0) hx hb d_Text_part_17 (by decide) ?_
    have hc_18 : 1 ≤ 1 := by decide
    have hs_18 : 0 ≤ 400 := by decide
    refine zz_newa (atype := .byte) (cK := cB) (ty := .byte) (N' := 0) (a0 := (0, .inl (fun _ => 0))) 0 (fun _ _ _ h1 h2 => Option.some.inj (h1.symm.trans h2)) rfl hx hb (ht9 _ k164) rfl hK hP hD hS hA (fun _ => rfl) (by decide) (by decide) (by decide) hc_18 hs_18 d_Text_part_18 (fun q1 H hP hD hS => ?_)
    have hP : va_P D CL [(h0, .inr (9, [.ref q, .int L])), (q, .inl (cB, 400, .inl f)), (q1, .inl (cB, 0, .inl (fun _ => 0)))] H := hP
    have hD : va_D A [(h0, .inr (9, [.ref q, .int L])), (q, .inl (cB, 400, .inl f)), (q1, .inl (cB, 0, .inl (fun _ => 0)))] := hD
    refine W.widen (k := 1) (n := 0) (by decide) (by decide) ?_
    have hP9 := hP.sub (ws' := [(h0, .inr (9, [.ref q, .int L])), (q, .inl (cB, 400, .inl f)), (q1, .inl (cB, 0, .inl (fun _ => 0)))]) [0, 1, 2] rfl
    have hD9 := hD.sub (ws' := [(h0, .inr (9, [.ref q, .int L])), (q, .inl (cB, 400, .inl f)), (q1, .inl (cB, 0, .inl (fun _ => 0)))]) [0, 1, 2] (by decide) rfl
    refine W.widen (k := 1) (n := 400) (by decide) (by decide) ?_
    exact W.aret (v := .ref q1) hx hb hr (Or.inr ⟨_, rfl⟩) (Or.inr ⟨_, rfl⟩) (fun t ht hW => ⟨⟨(0, (fun _ => 0)), q1, rfl, ⟨(by (try dsimp only); first | assumption | omega | trivial), (fun j hj => absurd hj (by omega))⟩, by rw [ht]; exact hP9, hD9⟩, hS.F ht⟩) hS.2.2 d_Text_part_20
  · skip
    have g2_3 : ¬ y.toInt ≤ x.toInt := fun h8 => h_9 ((i_le rfl rfl).mpr h8)
    refine lv_aload_n hx hb d_Text_part_5 rfl (lv_at hl 0 rfl) ?_
    refine va_get (D := D) (ci := 9) (v := .ref q) (C := "DiscMaker$Text") (T := F_Text) (N := 2) hx hb ht9 in_Text hown hK hP 0 rfl rfl 0 (by decide) (ht9 _ k157) (fun _ h9 => h9) rfl d_Text_part_6 ?_
    refine lv_iload_n hx hb d_Text_part_9 rfl (lv_at hl 1 rfl) ?_
    refine lv_iload_n hx hb d_Text_part_10 rfl (lv_at hl 2 rfl) ?_
    have hPc := hP.sub (ws' := [(q, .inl (cB, 400, .inl f))]) [1] rfl
    have hDc := hD.sub (ws' := [(q, .inl (cB, 400, .inl f))]) [1] (by decide) rfl
    have hFc := va_free (wc := [(q, .inl (cB, 400, .inl f))]) hD hS hA [1] rfl
    have hkc : 1 ≤ 1 := by decide
    have hks : 400 ≤ 400 := by decide
    refine va_callr (va_runS (As := [.ref q, .int x, .int y]) (rest := []) ⟨hx, hb, hml, hown, hts⟩ (c3_copyOfRange l D cB cI cJ cZ cN cF s.heap.size q f x y (by (try dsimp only); first | assumption | omega | trivial) (by (try dsimp only); first | assumption | omega | trivial)) (va_cwS 3 hts (lg_goodSX k487 k488 k126 kc_Arrays_copyOfRange) rfl rfl rfl (by decide +kernel) ⟨Nat.le_of_ble_eq_true rfl, Nat.le_of_ble_eq_true rfl⟩) ⟨fun a U g mk q => by obtain ⟨q0, q1, qP, qK, qN, qD, qZ0⟩ := q; exact ⟨q0, q1, qP, va_K.moved (u := U) (U := U.calling g mk a) (Vm.Alike.refl U.vm) qK, qN.calling, qD, CST_blind qZ0⟩, fun U hU hW => ⟨rfl, by rw [hU], by rw [hU]; exact hPc, va_K.moved hW.alike hK, NN.warm hW hN, hDc.weaken (fun _ _ _ _ => trivial), va_Nw.warmC hW hZc⟩⟩ rfl rfl hl.1 rfl (lv_room (Nat.le_of_ble_eq_true rfl)) d_Text_part_11 ⟨hkc, hks⟩) hS (fun q _ h => hFc q h) hFc (fun u r2 t H1 locs ht hvm hp_r2 hB hz1 hk1 hS => ?_)
    obtain ⟨n2_3, g_4⟩ := u
    obtain ⟨hP1, hD1⟩ := hB
    rw [ht] at hP1
    obtain ⟨hP, hD⟩ := va_join (wr := [(h0, .inr (9, [.ref q, .int L]))]) (w1 := [(q, .inl (cB, 400, .inl f)), (r2, .inl (cB, n2_3, .inl g_4))]) hP hD [1] [0] rfl rfl (by decide) (by decide) hk1 hFc hP1 hD1
    clear hPc hDc hFc hP1 hD1 hk1 hz1
    generalize H1 = H at hP hS ⊢
    have hP : va_P D CL [(h0, .inr (9, [.ref q, .int L])), (q, .inl (cB, 400, .inl f)), (r2, .inl (cB, n2_3, .inl g_4))] H := hP
    have hD : va_D A [(h0, .inr (9, [.ref q, .int L])), (q, .inl (cB, 400, .inl f)), (r2, .inl (cB, n2_3, .inl g_4))] := hD
    refine W.widen (k := 1) (n := 400) (by decide) (by decide) ?_
    try dsimp only at hp_r2
    obtain ⟨hn2_5, hB2_6⟩ := hp_r2
    refine lv_goto (tgt := 20) hx hb d_Text_part_14 (by decide) ?_
    have hP9 := hP.sub (ws' := [(h0, .inr (9, [.ref q, .int L])), (q, .inl (cB, 400, .inl f)), (r2, .inl (cB, n2_3, .inl g_4))]) [0, 1, 2] rfl
    have hD9 := hD.sub (ws' := [(h0, .inr (9, [.ref q, .int L])), (q, .inl (cB, 400, .inl f)), (r2, .inl (cB, n2_3, .inl g_4))]) [0, 1, 2] (by decide) rfl
    exact W.aret (v := .ref r2) hx hb hr (Or.inr ⟨_, rfl⟩) (Or.inr ⟨_, rfl⟩) (fun t ht hW => ⟨⟨(n2_3, g_4), r2, rfl, ⟨(by (try dsimp only); first | assumption | omega | trivial), hB2_6⟩, by rw [ht]; exact hP9, hD9⟩, hS.F ht⟩) hS.2.2 d_Text_part_20

theorem d_Bytes_reset_0 : decode b_Bytes_reset 0 = .ok (.iload_n 1, 1) := by decide +kernel
theorem d_Bytes_reset_1 : decode b_Bytes_reset 1 = .ok (.aload_n 0, 1) := by decide +kernel
theorem d_Bytes_reset_2 : decode b_Bytes_reset 2 = .ok (.getfield 7, 3) := by decide +kernel
theorem d_Bytes_reset_5 : decode b_Bytes_reset 5 = .ok (.arraylength, 1) := by decide +kernel
theorem d_Bytes_reset_6 : decode b_Bytes_reset 6 = .ok (.if_icmp .le 23, 3) := by decide +kernel
theorem d_Bytes_reset_9 : decode b_Bytes_reset 9 = .ok (.aload_n 0, 1) := by decide +kernel
theorem d_Bytes_reset_10 : decode b_Bytes_reset 10 = .ok (.iload_n 1, 1) := by decide +kernel
theorem d_Bytes_reset_11 : decode b_Bytes_reset 11 = .ok (.iconst 2, 1) := by decide +kernel
theorem d_Bytes_reset_12 : decode b_Bytes_reset 12 = .ok (.aload_n 0, 1) := by decide +kernel
theorem d_Bytes_reset_13 : decode b_Bytes_reset 13 = .ok (.getfield 7, 3) := by decide +kernel
theorem d_Bytes_reset_16 : decode b_Bytes_reset 16 = .ok (.arraylength, 1) := by decide +kernel
theorem d_Bytes_reset_17 : decode b_Bytes_reset 17 = .ok (.imul, 1) := by decide +kernel
theorem d_Bytes_reset_18 : decode b_Bytes_reset 18 = .ok (.invokestatic 13, 3) := by decide +kernel
theorem d_Bytes_reset_21 : decode b_Bytes_reset 21 = .ok (.newarray .byte, 2) := by decide +kernel
theorem d_Bytes_reset_23 : decode b_Bytes_reset 23 = .ok (.putfield 7, 3) := by decide +kernel
theorem d_Bytes_reset_26 : decode b_Bytes_reset 26 = .ok (.goto 11, 3) := by decide +kernel
theorem d_Bytes_reset_29 : decode b_Bytes_reset 29 = .ok (.aload_n 0, 1) := by decide +kernel
theorem d_Bytes_reset_30 : decode b_Bytes_reset 30 = .ok (.getfield 7, 3) := by decide +kernel
theorem d_Bytes_reset_33 : decode b_Bytes_reset 33 = .ok (.iconst 0, 1) := by decide +kernel
theorem d_Bytes_reset_34 : decode b_Bytes_reset 34 = .ok (.invokestatic 19, 3) := by decide +kernel
theorem d_Bytes_reset_37 : decode b_Bytes_reset 37 = .ok (.aload_n 0, 1) := by decide +kernel
theorem d_Bytes_reset_38 : decode b_Bytes_reset 38 = .ok (.iload_n 1, 1) := by decide +kernel
theorem d_Bytes_reset_39 : decode b_Bytes_reset 39 = .ok (.putfield 25, 3) := by decide +kernel
theorem d_Bytes_reset_42 : decode b_Bytes_reset 42 = .ok (.return_, 1) := by decide +kernel
set_option maxHeartbeats 4000000 in
set_option maxRecDepth 100000 in
theorem c3_reset (l : Launch) (D : va_G) (cB cI cJ cZ cN cF : ClassId) (sz : Nat) (h0 : Nat) (q : Nat) (n : Nat) (L : Int32) (f : Nat → Int32) (T0 : Nat) (x : Int32) (hL : 0 ≤ L.toInt ∧ L.toInt ≤ n) (hn : n ≤ 3000000) (hx : 0 ≤ x.toInt ∧ x.toInt ≤ 1400000) : Met l y_Bytes_reset w_Bytes_reset ({ frames := 1, cells := 1, slots := 2800000, locals := 30 }) (va_Pc [.ref h0, .int x] (fun U => U.heap.size = sz ∧ va_P D CL [(h0, .inr (1, [.ref q, .int L])), (q, .inl (cB, n, .inl f))] U.heap ∧ va_K D CL (TY cB cI cJ cZ cN cF) U ∧ NN U ∧ va_D (fun _ => True) [(h0, .inr (1, [.ref q, .int L])), (q, .inl (cB, n, .inl f))] ∧ TOT T0 (va_A [(h0, .inr (1, [.ref q, .int L])), (q, .inl (cB, n, .inl f))] sz) U U.heap)) (va_Qv (fun (u : Nat × Nat × (Nat → Int32)) => match u with | (q2, n2, g) => (x.toInt ≤ n2 ∧ n2 ≤ 3000000) ∧ (n2 = n ∨ (2 * n ≤ n2 ∧ n < n2))) (fun (u : Nat × Nat × (Nat → Int32)) (t : State) => match u with | (q2, n2, g) => ((n2 = n ∧ tot t.heap ≤ T0) ∨ (n < n2 ∧ tot t.heap ≤ T0 + n2)) ∧ va_P D CL [(h0, .inr (1, [.ref q2, .int x])), (q2, .inl (cB, n2, .inl g))] t.heap ∧ va_D (va_A [(h0, .inr (1, [.ref q, .int L])), (q, .inl (cB, n, .inl f))] sz) [(h0, .inr (1, [.ref q2, .int x])), (q2, .inl (cB, n2, .inl g))]) (va_A [(h0, .inr (1, [.ref q, .int L])), (q, .inl (cB, n, .inl f))] sz)) 1 2800000 (va_A [(h0, .inr (1, [.ref q, .int L])), (q, .inl (cB, n, .inl f))] sz) := by
  refine Met.ofW (cc := b_Bytes_reset) (maxL := 2) (ret := none) (by decide) rfl ?_
  intro p e s m args below meth c s₁ B hml hv
  obtain ⟨rfl, hsz, hP, hK, hN, hD0, hZq⟩ := hv
  have hx := B.exec
  have hb := B.bytes
  have hr := B.returns
  have hts := atoms_spec (ws := w_Bytes_reset) B.pre
  have ht9 := fun (w : Cond) (h : w ∈ lw_g) => hts w (List.mem_cons_of_mem _ h)
  have hown : s.vm.findClass "DiscMaker$Bytes" = some m.cls := findClass_of_methodNamed B.named
  have hlocks := B.notSynchronized
  subst hsz
  have hD := hD0.self (sz := s.heap.size)
  generalize hAe : va_A [(h0, .inr (1, [.ref q, .int L])), (q, .inl (cB, n, .inl f))] s.heap.size = A at hD hZq ⊢
  have hA : ∀ q : Nat, s.heap.size ≤ q → A q := fun q h => by rw [← hAe]; exact Or.inr h
  have hS : va_S A s.heap s.heap [] := va_S.rf
  have hP : va_P D CL [(h0, .inr (1, [.ref q, .int L])), (q, .inl (cB, n, .inl f))] s.heap := hP
  have hl := lv_entry [.ref h0, .int x] (n := 2) (Nat.le_of_ble_eq_true rfl)
  rw [lg_entry_eq]
  generalize (lg_sl [.ref h0, .int x] ++ List.replicate (2 - (lg_sl [.ref h0, .int x]).length) Slot.unset).toArray = ls at hl ⊢
  have hl : lv_has ls 2 [(0, .ref h0), (1, .int x)] := hl
  have L_m1 : ((-1) : Int32).toInt = (-1) := by decide
  have L_0 : (0 : Int32).toInt = 0 := by decide
  have L_1 : (1 : Int32).toInt = 1 := by decide
  have L_2 : (2 : Int32).toInt = 2 := by decide
  refine lv_iload_n hx hb d_Bytes_reset_0 rfl (lv_at hl 1 rfl) ?_
  refine lv_aload_n hx hb d_Bytes_reset_1 rfl (lv_at hl 0 rfl) ?_
  refine va_get (D := D) (ci := 1) (v := .ref q) (C := "DiscMaker$Bytes") (T := F_Bytes) (N := 2) hx hb ht9 in_Bytes hown hK hP 0 rfl rfl 0 (by decide) (ht9 _ k256) (fun _ h9 => h9) rfl d_Bytes_reset_2 ?_
  refine va_alen (v := nI n) hx hb hK hP 1 0 rfl rfl rfl d_Bytes_reset_5 ?_
  refine lv_topi (fun v1 e_v1 => ?_)
  have t_v1 : v1.toInt = n := by rw [e_v1]; exact nI_toInt (by omega)
  refine lv_icmp_le (tgt := 29) hx hb d_Bytes_reset_6 (by decide) (fun h_9 => ?_) (fun h_9 => ?_)
  · skip
    have g6_5 : x.toInt ≤ v1.toInt := (i_le rfl rfl).mp h_9
    refine lv_aload_n hx hb d_Bytes_reset_29 rfl (lv_at hl 0 rfl) ?_
    refine va_get (D := D) (ci := 1) (v := .ref q) (C := "DiscMaker$Bytes") (T := F_Bytes) (N := 2) hx hb ht9 in_Bytes hown hK hP 0 rfl rfl 0 (by decide) (ht9 _ k256) (fun _ h9 => h9) rfl d_Bytes_reset_30 ?_
    refine lv_iconst (v := 0) hx hb d_Bytes_reset_33 (by decide) ?_
    have hPc := hP.sub (ws' := [(q, .inl (cB, n, .inl f))]) [1] rfl
    have hDc := hD.sub (ws' := [(q, .inl (cB, n, .inl f))]) [1] (by decide) rfl
    have hFc := va_free (wc := [(q, .inl (cB, n, .inl f))]) hD hS hA [1] rfl
    have hkc : 0 ≤ 1 := by decide
    have hks : 0 ≤ 2800000 := by decide
    refine va_callv (va_runS (As := [.ref q, .int 0]) (rest := []) ⟨hx, hb, hml, hown, hts⟩ (c3_Arrays_fill l D cB cI cJ cZ cN cF s.heap.size q n f 0 (by (try dsimp only); first | assumption | omega | trivial)) (va_cwS 2 hts (lg_goodSX k1086 k844 k126 kc_Arrays_fill) rfl rfl rfl (by decide +kernel) ⟨Nat.le_of_ble_eq_true rfl, Nat.le_of_ble_eq_true rfl⟩) ⟨fun a U g mk q => by obtain ⟨q0, q1, qP, qK, qN, qD⟩ := q; exact ⟨q0, q1, qP, va_K.moved (u := U) (U := U.calling g mk a) (Vm.Alike.refl U.vm) qK, qN.calling, qD⟩, fun U hU hW => ⟨rfl, by rw [hU], by rw [hU]; exact hPc, va_K.moved hW.alike hK, NN.warm hW hN, hDc.weaken (fun _ _ _ _ => trivial)⟩⟩ rfl rfl hl.1 rfl (lv_room (Nat.le_of_ble_eq_true rfl)) d_Bytes_reset_34 ⟨hkc, hks⟩) hS (fun q _ h => hFc q h) hFc (fun u t H1 locs ht hvm hp_r2 hB hz1 hk1 hS => ?_)
    obtain ⟨g_3, rfl⟩ : ∃ z, z = u := ⟨_, rfl⟩
    obtain ⟨hP1, hD1⟩ := hB
    rw [ht] at hP1
    obtain ⟨hP, hD⟩ := va_join (wr := [(h0, .inr (1, [.ref q, .int L]))]) (w1 := [(q, .inl (cB, n, .inl g_3))]) hP hD [1] [0] rfl rfl (by decide) (by decide) hk1 hFc hP1 hD1
    clear hPc hDc hFc hP1 hD1 hk1 hz1
    generalize H1 = H at hP hS ⊢
    have hP : va_P D CL [(h0, .inr (1, [.ref q, .int L])), (q, .inl (cB, n, .inl g_3))] H := hP
    have hD : va_D A [(h0, .inr (1, [.ref q, .int L])), (q, .inl (cB, n, .inl g_3))] := hD
    refine lv_aload_n hx hb d_Bytes_reset_37 rfl (lv_at hl 0 rfl) ?_
    refine lv_iload_n hx hb d_Bytes_reset_38 rfl (lv_at hl 1 rfl) ?_
    refine va_put (D := D) (ci := 1) (v := .int x) (ty := .int) (C := "DiscMaker$Bytes") (T := F_Bytes) (N := 2) hx hb ht9 in_Bytes t_Bytes t_Bytes_ok n_Bytes hown hK hP hD hS 0 rfl rfl 1 (by decide) (ht9 _ k258) (fun _ h9 => h9) rfl (by decide +kernel) rfl rfl (Nat.le_of_ble_eq_true rfl) d_Bytes_reset_39 (fun H locs hP hD hS => ?_)
    have hP : va_P D CL [(h0, .inr (1, [.ref q, .int x])), (q, .inl (cB, n, .inl g_3))] H := hP
    have hD : va_D A [(h0, .inr (1, [.ref q, .int x])), (q, .inl (cB, n, .inl g_3))] := hD
    have hT0 : tot s.heap = T0 := hZq
    refine zz_know (fun hk9 hn9 => ?_)
    have hP9 := hP.sub (ws' := [(h0, .inr (1, [.ref q, .int x])), (q, .inl (cB, n, .inl g_3))]) [0, 1] rfl
    have hD9 := hD.sub (ws' := [(h0, .inr (1, [.ref q, .int x])), (q, .inl (cB, n, .inl g_3))]) [0, 1] (by decide) rfl
    refine W.widen (k := 1) (n := 2800000) (by decide) (by decide) ?_
    exact W.vret hx hb hr (fun t ht hW => ⟨⟨(q, n, g_3), rfl, ⟨(by (try dsimp only); first | assumption | omega | trivial), (by (try dsimp only); first | assumption | omega | trivial)⟩, Or.inl ⟨rfl, by rw [ht]; omega⟩, by rw [ht]; exact hP9, hD9⟩, hS.F ht⟩) hS.2.2 d_Bytes_reset_42
  · skip
    have g6_5 : ¬ x.toInt ≤ v1.toInt := fun h8 => h_9 ((i_le rfl rfl).mpr h8)
    refine lv_aload_n hx hb d_Bytes_reset_9 rfl (lv_at hl 0 rfl) ?_
    refine lv_iload_n hx hb d_Bytes_reset_10 rfl (lv_at hl 1 rfl) ?_
    refine lv_iconst (v := 2) hx hb d_Bytes_reset_11 (by decide) ?_
    refine lv_aload_n hx hb d_Bytes_reset_12 rfl (lv_at hl 0 rfl) ?_
    refine va_get (D := D) (ci := 1) (v := .ref q) (C := "DiscMaker$Bytes") (T := F_Bytes) (N := 2) hx hb ht9 in_Bytes hown hK hP 0 rfl rfl 0 (by decide) (ht9 _ k256) (fun _ h9 => h9) rfl d_Bytes_reset_13 ?_
    refine va_alen (v := nI n) hx hb hK hP 1 0 rfl rfl rfl d_Bytes_reset_16 ?_
    refine lv_topi (fun v4 e_v4 => ?_)
    have t_v4 : v4.toInt = n := by rw [e_v4]; exact nI_toInt (by omega)
    refine lv_imul hx hb d_Bytes_reset_17 ?_
    refine lv_topi (fun v5 e_v5 => ?_)
    have t_v5 : v5.toInt = 2 * v4.toInt := by rw [e_v5]; exact i_mul (by decide) rfl (by omega) (by omega)
    refine va_mmax (x := x) (y := v5) hx hb (hml.trans hl.1.symm) hown (ht9 _ k1085) (ht9 _ k589) (ht9 _ k137) (ht9 _ kMax) (Nat.le_of_ble_eq_true rfl) (Nat.le_of_ble_eq_true rfl) (by decide) (by decide) d_Bytes_reset_18 ?_
    refine lv_topi (fun v6 e_v6 => ?_)
    have t_v6 : (v6.toInt = x.toInt ∧ v5.toInt ≤ x.toInt) ∨ (v6.toInt = v5.toInt ∧ x.toInt < v5.toInt) := by rw [e_v6]; exact i_max rfl rfl
    obtain ⟨N8, e_N8⟩ : ∃ z : Nat, v6.toNatClampNeg = z := ⟨_, rfl⟩
    have t_N8 : (N8 : Int) = v6.toInt := by rw [← e_N8]; exact i_cl (by omega)
    have hc_21 : 1 ≤ 1 := by decide
    have hs_21 : 0 + N8 ≤ 2800000 := Nat.le_trans (m := 2800000) (by omega) (by decide)
    refine zz_newa (atype := .byte) (cK := cB) (ty := .byte) (N' := N8) (a0 := (N8, .inl (fun _ => 0))) 0 (fun _ _ _ h1 h2 => Option.some.inj (h1.symm.trans h2)) rfl hx hb (ht9 _ k164) rfl hK hP hD hS hA (fun _ => rfl) (by rw [i_lt (a := v6) rfl (b := 0) L_0]; omega) e_N8 (by show N8 * 1 ≤ 536870912; omega) hc_21 hs_21 d_Bytes_reset_21 (fun q7 H hP hD hS => ?_)
    have hP : va_P D CL [(h0, .inr (1, [.ref q, .int L])), (q, .inl (cB, n, .inl f)), (q7, .inl (cB, N8, .inl (fun _ => 0)))] H := hP
    have hD : va_D A [(h0, .inr (1, [.ref q, .int L])), (q, .inl (cB, n, .inl f)), (q7, .inl (cB, N8, .inl (fun _ => 0)))] := hD
    refine va_put (D := D) (ci := 1) (v := .ref q7) (ty := .array .byte) (C := "DiscMaker$Bytes") (T := F_Bytes) (N := 2) hx hb ht9 in_Bytes t_Bytes t_Bytes_ok n_Bytes hown hK hP hD hS 0 rfl rfl 0 (by decide) (ht9 _ k256) (fun _ h9 => h9) rfl (by decide +kernel) rfl rfl (Nat.le_of_ble_eq_true rfl) d_Bytes_reset_23 (fun H locs hP hD hS => ?_)
    have hP : va_P D CL [(h0, .inr (1, [.ref q7, .int L])), (q, .inl (cB, n, .inl f)), (q7, .inl (cB, N8, .inl (fun _ => 0)))] H := hP
    have hD : va_D A [(h0, .inr (1, [.ref q7, .int L])), (q, .inl (cB, n, .inl f)), (q7, .inl (cB, N8, .inl (fun _ => 0)))] := hD
    refine lv_goto (tgt := 37) hx hb d_Bytes_reset_26 (by decide) ?_
    refine lv_aload_n hx hb d_Bytes_reset_37 rfl (lv_at hl 0 rfl) ?_
    refine lv_iload_n hx hb d_Bytes_reset_38 rfl (lv_at hl 1 rfl) ?_
    refine va_put (D := D) (ci := 1) (v := .int x) (ty := .int) (C := "DiscMaker$Bytes") (T := F_Bytes) (N := 2) hx hb ht9 in_Bytes t_Bytes t_Bytes_ok n_Bytes hown hK hP hD hS 0 rfl rfl 1 (by decide) (ht9 _ k258) (fun _ h9 => h9) rfl (by decide +kernel) rfl rfl (Nat.le_of_ble_eq_true rfl) d_Bytes_reset_39 (fun H locs hP hD hS => ?_)
    have hP : va_P D CL [(h0, .inr (1, [.ref q7, .int x])), (q, .inl (cB, n, .inl f)), (q7, .inl (cB, N8, .inl (fun _ => 0)))] H := hP
    have hD : va_D A [(h0, .inr (1, [.ref q7, .int x])), (q, .inl (cB, n, .inl f)), (q7, .inl (cB, N8, .inl (fun _ => 0)))] := hD
    have hT0 : tot s.heap = T0 := hZq
    refine zz_know (fun hk9 hn9 => ?_)
    have hP9 := hP.sub (ws' := [(h0, .inr (1, [.ref q7, .int x])), (q7, .inl (cB, N8, .inl (fun _ => 0)))]) [0, 2] rfl
    have hD9 := hD.sub (ws' := [(h0, .inr (1, [.ref q7, .int x])), (q7, .inl (cB, N8, .inl (fun _ => 0)))]) [0, 2] (by decide) rfl
    refine W.widen (k := 1) (n := 2800000) (by decide) (by omega) ?_
    exact W.vret hx hb hr (fun t ht hW => ⟨⟨(q7, N8, (fun _ => 0)), rfl, ⟨(by (try dsimp only); first | assumption | omega | trivial), (by (try dsimp only); first | assumption | omega | trivial)⟩, Or.inr ⟨by omega, by rw [ht]; omega⟩, by rw [ht]; exact hP9, hD9⟩, hS.F ht⟩) hS.2.2 d_Bytes_reset_42
