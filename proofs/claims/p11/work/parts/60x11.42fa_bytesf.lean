set_option maxHeartbeats 4000000 in
set_option maxRecDepth 100000 in
theorem c3_putF (l : Launch) (D : va_G) (cB cI cJ cZ cN cF : ClassId) (sz : Nat) (h0 : Nat) (q : Nat) (n : Nat) (L : Int32) (f : Nat → Int32) (x : Int32) (y : Int32) (hL : 0 ≤ L.toInt ∧ L.toInt ≤ n) (hn : n ≤ 3000000) (hin : 0 ≤ x.toInt ∧ x.toInt < L.toInt) : Met l y_Bytes_put w_Bytes_put ({ frames := 0, cells := 0, slots := 0, locals := 0 }) (va_Pc [.ref h0, .int x, .int y] (fun U => U.heap.size = sz ∧ va_P D CL [(h0, .inr (1, [.ref q, .int L])), (q, .inl (cB, n, .inl f))] U.heap ∧ va_K D CL (TY cB cI cJ cZ cN cF) U ∧ NN U ∧ va_D (fun _ => True) [(h0, .inr (1, [.ref q, .int L])), (q, .inl (cB, n, .inl f))])) (va_Qv (fun (u : (Nat → Int32)) => match u with | g => (Pt (imC f) (imC g) x.toInt y.toInt)) (fun (u : (Nat → Int32)) (t : State) => match u with | g => va_P D CL [(h0, .inr (1, [.ref q, .int L])), (q, .inl (cB, n, .inl g))] t.heap ∧ va_D (va_A [(h0, .inr (1, [.ref q, .int L])), (q, .inl (cB, n, .inl f))] sz) [(h0, .inr (1, [.ref q, .int L])), (q, .inl (cB, n, .inl g))]) (va_A [(h0, .inr (1, [.ref q, .int L])), (q, .inl (cB, n, .inl f))] sz)) 0 0 (va_A [(h0, .inr (1, [.ref q, .int L])), (q, .inl (cB, n, .inl f))] sz) := by
  refine Met.ofW (cc := b_Bytes_put) (maxL := 3) (ret := none) (by decide +kernel) rfl ?_
  intro p e s m args below meth c s₁ B hml hv
  obtain ⟨rfl, hsz, hP, hK, hN, hD0⟩ := hv
  have hx := B.exec
  have hb := B.bytes
  have hr := B.returns
  have hts := atoms_spec (ws := w_Bytes_put) B.pre
  have ht9 := fun (w : Cond) (h : w ∈ lw_g) => hts w (List.mem_cons_of_mem _ h)
  have hown : s.vm.findClass "DiscMaker$Bytes" = some m.cls := findClass_of_methodNamed B.named
  have hlocks := B.notSynchronized
  subst hsz
  have hD := hD0.self (sz := s.heap.size)
  generalize hAe : va_A [(h0, .inr (1, [.ref q, .int L])), (q, .inl (cB, n, .inl f))] s.heap.size = A at hD ⊢
  have hA : ∀ q : Nat, s.heap.size ≤ q → A q := fun q h => by rw [← hAe]; exact Or.inr h
  have hS : va_S A s.heap s.heap [] := va_S.rf
  have hP : va_P D CL [(h0, .inr (1, [.ref q, .int L])), (q, .inl (cB, n, .inl f))] s.heap := hP
  have hl := lv_entry [.ref h0, .int x, .int y] (n := 3) (Nat.le_of_ble_eq_true rfl)
  rw [lg_entry_eq]
  generalize (lg_sl [.ref h0, .int x, .int y] ++ List.replicate (3 - (lg_sl [.ref h0, .int x, .int y]).length) Slot.unset).toArray = ls at hl ⊢
  have hl : lv_has ls 3 [(0, .ref h0), (1, .int x), (2, .int y)] := hl
  have L_m1 : ((-1) : Int32).toInt = (-1) := by decide
  have L_0 : (0 : Int32).toInt = 0 := by decide
  have L_1 : (1 : Int32).toInt = 1 := by decide
  refine lv_iload_n hx hb d_Bytes_put_0 rfl (lv_at hl 1 rfl) ?_
  refine lv_if_lt (tgt := 20) hx hb d_Bytes_put_1 (by decide) (fun h_9 => ?_) (fun h_9 => ?_)
  · skip
    have g1_2 : x.toInt < 0 := (i_lt rfl (by decide)).mp h_9
    exfalso
    omega
  · skip
    have g1_2 : ¬ x.toInt < 0 := fun h8 => h_9 ((i_lt rfl (by decide)).mpr h8)
    refine lv_iload_n hx hb d_Bytes_put_4 rfl (lv_at hl 1 rfl) ?_
    refine lv_aload_n hx hb d_Bytes_put_5 rfl (lv_at hl 0 rfl) ?_
    refine va_get (D := D) (ci := 1) (v := .int L) (C := "DiscMaker$Bytes") (T := F_Bytes) (N := 2) hx hb ht9 in_Bytes hown hK hP 0 rfl rfl 1 (by decide) (ht9 _ k258) (fun _ h9 => h9) rfl d_Bytes_put_6 ?_
    refine lv_icmp_ge (tgt := 20) hx hb d_Bytes_put_9 (by decide) (fun h_9 => ?_) (fun h_9 => ?_)
    · skip
      have g9_6 : L.toInt ≤ x.toInt := (i_le rfl rfl).mp h_9
      exfalso
      omega
    · skip
      have g9_6 : ¬ L.toInt ≤ x.toInt := fun h8 => h_9 ((i_le rfl rfl).mpr h8)
      refine lv_aload_n hx hb d_Bytes_put_12 rfl (lv_at hl 0 rfl) ?_
      refine va_get (D := D) (ci := 1) (v := .ref q) (C := "DiscMaker$Bytes") (T := F_Bytes) (N := 2) hx hb ht9 in_Bytes hown hK hP 0 rfl rfl 0 (by decide) (ht9 _ k256) (fun _ h9 => h9) rfl d_Bytes_put_13 ?_
      refine lv_iload_n hx hb d_Bytes_put_16 rfl (lv_at hl 1 rfl) ?_
      refine lv_iload_n hx hb d_Bytes_put_17 rfl (lv_at hl 2 rfl) ?_
      refine lv_i2b hx hb d_Bytes_put_18 rfl ?_
      refine lv_topi (fun v1 e_v1 => ?_)
      have t_v1 : (-128) ≤ v1.toInt ∧ v1.toInt ≤ 127 := by rw [e_v1]; exact i_b _
      refine zq_bast hx hb hK hP hD hS 1 0 rfl rfl (vp_in_iff.mpr ⟨by omega, by omega⟩) d_Bytes_put_19 (fun fz2 e_fz2 H locs hP hD hS => ?_)
      have hP : va_P D CL [(h0, .inr (1, [.ref q, .int L])), (q, .inl (cB, n, .inl fz2))] H := hP
      have hD : va_D A [(h0, .inr (1, [.ref q, .int L])), (q, .inl (cB, n, .inl fz2))] := hD
      have hP9 := hP.sub (ws' := [(h0, .inr (1, [.ref q, .int L])), (q, .inl (cB, n, .inl fz2))]) [0, 1] rfl
      have hD9 := hD.sub (ws' := [(h0, .inr (1, [.ref q, .int L])), (q, .inl (cB, n, .inl fz2))]) [0, 1] (by decide +kernel) rfl
      exact W.vret hx hb hr (fun t ht hW => ⟨⟨fz2, rfl, (Pt_mod (Pt_of e_fz2 (i_cl (a := x) (by omega))) (by rw [e_v1]; exact nar_mod y)), by rw [ht]; exact hP9, hD9⟩, hS.F ht⟩) hS.2.2 d_Bytes_put_20

set_option maxHeartbeats 4000000 in
set_option maxRecDepth 100000 in
theorem c3_extendF (l : Launch) (D : va_G) (cB cI cJ cZ cN cF : ClassId) (sz : Nat) (h0 : Nat) (q : Nat) (n : Nat) (L : Int32) (f : Nat → Int32) (x : Int32) (hL : 0 ≤ L.toInt ∧ L.toInt ≤ n) (hn : n ≤ 3000000) (hx0 : 0 ≤ x.toInt ∧ L.toInt + x.toInt ≤ n) : Met l y_Bytes_extend w_Bytes_extend ({ frames := 0, cells := 0, slots := 0, locals := 0 }) (va_Pc [.ref h0, .int x] (fun U => U.heap.size = sz ∧ va_P D CL [(h0, .inr (1, [.ref q, .int L])), (q, .inl (cB, n, .inl f))] U.heap ∧ va_K D CL (TY cB cI cJ cZ cN cF) U ∧ NN U ∧ va_D (fun _ => True) [(h0, .inr (1, [.ref q, .int L])), (q, .inl (cB, n, .inl f))])) (va_Qi (fun (r : Int32) (u : Int32 × (Nat → Int32)) => match u with | (L2, g) => (r.toInt = L.toInt) ∧ (L2.toInt = L.toInt + x.toInt) ∧ (BL (imC f) (imC g) L.toInt (List.replicate x.toInt.toNat 0))) (fun (u : Int32 × (Nat → Int32)) (t : State) => match u with | (L2, g) => va_P D CL [(h0, .inr (1, [.ref q, .int L2])), (q, .inl (cB, n, .inl g))] t.heap ∧ va_D (va_A [(h0, .inr (1, [.ref q, .int L])), (q, .inl (cB, n, .inl f))] sz) [(h0, .inr (1, [.ref q, .int L2])), (q, .inl (cB, n, .inl g))]) (va_A [(h0, .inr (1, [.ref q, .int L])), (q, .inl (cB, n, .inl f))] sz)) 0 0 (va_A [(h0, .inr (1, [.ref q, .int L])), (q, .inl (cB, n, .inl f))] sz) := by
  refine Met.ofW (cc := b_Bytes_extend) (maxL := 4) (ret := some .int) (by decide +kernel) rfl ?_
  intro p e s m args below meth c s₁ B hml hv
  obtain ⟨rfl, hsz, hP, hK, hN, hD0⟩ := hv
  have hx := B.exec
  have hb := B.bytes
  have hr := B.returns
  have hts := atoms_spec (ws := w_Bytes_extend) B.pre
  have ht9 := fun (w : Cond) (h : w ∈ lw_g) => hts w (List.mem_cons_of_mem _ h)
  have hown : s.vm.findClass "DiscMaker$Bytes" = some m.cls := findClass_of_methodNamed B.named
  have hlocks := B.notSynchronized
  subst hsz
  have hD := hD0.self (sz := s.heap.size)
  generalize hAe : va_A [(h0, .inr (1, [.ref q, .int L])), (q, .inl (cB, n, .inl f))] s.heap.size = A at hD ⊢
  have hA : ∀ q : Nat, s.heap.size ≤ q → A q := fun q h => by rw [← hAe]; exact Or.inr h
  have hS : va_S A s.heap s.heap [] := va_S.rf
  have hP : va_P D CL [(h0, .inr (1, [.ref q, .int L])), (q, .inl (cB, n, .inl f))] s.heap := hP
  have hl := lv_entry [.ref h0, .int x] (n := 4) (Nat.le_of_ble_eq_true rfl)
  rw [lg_entry_eq]
  generalize (lg_sl [.ref h0, .int x] ++ List.replicate (4 - (lg_sl [.ref h0, .int x]).length) Slot.unset).toArray = ls at hl ⊢
  have hl : lv_has ls 4 [(0, .ref h0), (1, .int x)] := hl
  have L_m1 : ((-1) : Int32).toInt = (-1) := by decide
  have L_0 : (0 : Int32).toInt = 0 := by decide
  have L_1 : (1 : Int32).toInt = 1 := by decide
  refine lv_aload_n hx hb d_Bytes_extend_0 rfl (lv_at hl 0 rfl) ?_
  refine va_get (D := D) (ci := 1) (v := .int L) (C := "DiscMaker$Bytes") (T := F_Bytes) (N := 2) hx hb ht9 in_Bytes hown hK hP 0 rfl rfl 1 (by decide) (ht9 _ k258) (fun _ h9 => h9) rfl d_Bytes_extend_1 ?_
  refine lv_istore_n hx hb d_Bytes_extend_4 rfl hl (by decide) rfl (fun ls hl => ?_)
  have hl : lv_has ls 4 [(2, .int L), (0, .ref h0), (1, .int x)] := hl
  refine lv_aload_n hx hb d_Bytes_extend_5 rfl (lv_at hl 1 rfl) ?_
  refine lv_aload_n hx hb d_Bytes_extend_6 rfl (lv_at hl 1 rfl) ?_
  refine va_get (D := D) (ci := 1) (v := .int L) (C := "DiscMaker$Bytes") (T := F_Bytes) (N := 2) hx hb ht9 in_Bytes hown hK hP 0 rfl rfl 1 (by decide) (ht9 _ k258) (fun _ h9 => h9) rfl d_Bytes_extend_7 ?_
  refine lv_iload_n hx hb d_Bytes_extend_10 rfl (lv_at hl 2 rfl) ?_
  refine lv_iadd hx hb d_Bytes_extend_11 ?_
  refine lv_topi (fun v1 e_v1 => ?_)
  have t_v1 : v1.toInt = L.toInt + x.toInt := by rw [e_v1]; exact i_add rfl rfl (by omega) (by omega)
  refine lv_aload_n hx hb d_Bytes_extend_12 rfl (lv_at hl 1 rfl) ?_
  refine va_get (D := D) (ci := 1) (v := .ref q) (C := "DiscMaker$Bytes") (T := F_Bytes) (N := 2) hx hb ht9 in_Bytes hown hK hP 0 rfl rfl 0 (by decide) (ht9 _ k256) (fun _ h9 => h9) rfl d_Bytes_extend_13 ?_
  refine va_alen (v := nI n) hx hb hK hP 1 0 rfl rfl rfl d_Bytes_extend_16 ?_
  refine lv_topi (fun v2 e_v2 => ?_)
  have t_v2 : v2.toInt = n := by rw [e_v2]; exact nI_toInt (by omega)
  refine lv_icmp_le (tgt := 28) hx hb d_Bytes_extend_17 (by decide) (fun h_9 => ?_) (fun h_9 => ?_)
  · skip
    have g17_12 : v1.toInt ≤ v2.toInt := (i_le rfl rfl).mp h_9
    refine lv_aload_n hx hb d_Bytes_extend_28 rfl (lv_at hl 1 rfl) ?_
    refine va_get (D := D) (ci := 1) (v := .int L) (C := "DiscMaker$Bytes") (T := F_Bytes) (N := 2) hx hb ht9 in_Bytes hown hK hP 0 rfl rfl 1 (by decide) (ht9 _ k258) (fun _ h9 => h9) rfl d_Bytes_extend_29 ?_
    refine lv_iload_n hx hb d_Bytes_extend_32 rfl (lv_at hl 2 rfl) ?_
    refine lv_iadd hx hb d_Bytes_extend_33 ?_
    refine lv_topi (fun v3 e_v3 => ?_)
    have t_v3 : v3.toInt = L.toInt + x.toInt := by rw [e_v3]; exact i_add rfl rfl (by omega) (by omega)
    refine va_put (D := D) (ci := 1) (v := .int v3) (ty := .int) (C := "DiscMaker$Bytes") (T := F_Bytes) (N := 2) hx hb ht9 in_Bytes t_Bytes t_Bytes_ok n_Bytes hown hK hP hD hS 0 rfl rfl 1 (by decide) (ht9 _ k258) (fun _ h9 => h9) rfl (by decide +kernel) rfl rfl (Nat.le_of_ble_eq_true rfl) d_Bytes_extend_34 (fun H locs hP hD hS => ?_)
    have hP : va_P D CL [(h0, .inr (1, [.ref q, .int v3])), (q, .inl (cB, n, .inl f))] H := hP
    have hD : va_D A [(h0, .inr (1, [.ref q, .int v3])), (q, .inl (cB, n, .inl f))] := hD
    refine lv_iload_n hx hb d_Bytes_extend_37 rfl (lv_at hl 0 rfl) ?_
    refine lv_istore_n hx hb d_Bytes_extend_38 rfl hl (by decide) rfl (fun ls hl => ?_)
    have hl : lv_has ls 4 [(3, .int L), (2, .int L), (0, .ref h0), (1, .int x)] := hl
    refine zz_labM (B := fun (lk : Nat) (K : Heap → List Loc → Array Slot → List Value → Prop) => ∀ (kx : Int32) (le : Int32) (lf : Nat → Int32) (H : Heap) (locs : List Loc) (ls : Array Slot), lk = (le.toInt - kx.toInt).toNat → (le.toInt = L.toInt + x.toInt) → (L.toInt ≤ kx.toInt ∧ kx.toInt ≤ le.toInt) → (BL (imC f) (imC lf) L.toInt (tbL (fun _ => 0) (kx.toInt - L.toInt).toNat)) → va_P D CL [(h0, .inr (1, [.ref q, .int le])), (q, .inl (cB, n, .inl lf))] H → va_D A [(h0, .inr (1, [.ref q, .int le])), (q, .inl (cB, n, .inl lf))] → va_S A s.heap H locs → lv_has ls 4 [(0, .ref h0), (1, .int x), (2, .int L), (3, .int kx)] → K H locs ls []) 39 ?_ ?_
    · skip
      intro lk ih39 kx le lf H locs ls hm39 f1 f2 f3 hP hD hS hl
      refine lv_iload_n hx hb d_Bytes_extend_39 rfl (lv_at hl 3 rfl) ?_
      refine lv_aload_n hx hb d_Bytes_extend_40 rfl (lv_at hl 0 rfl) ?_
      refine va_get (D := D) (ci := 1) (v := .int le) (C := "DiscMaker$Bytes") (T := F_Bytes) (N := 2) hx hb ht9 in_Bytes hown hK hP 0 rfl rfl 1 (by decide) (ht9 _ k258) (fun _ h9 => h9) rfl d_Bytes_extend_41 ?_
      refine lv_icmp_ge (tgt := 60) hx hb d_Bytes_extend_44 (by decide) (fun h_9 => ?_) (fun h_9 => ?_)
      · skip
        have g44_23 : le.toInt ≤ kx.toInt := (i_le rfl rfl).mp h_9
        refine lv_iload_n hx hb d_Bytes_extend_60 rfl (lv_at hl 2 rfl) ?_
        have hP9 := hP.sub (ws' := [(h0, .inr (1, [.ref q, .int le])), (q, .inl (cB, n, .inl lf))]) [0, 1] rfl
        have hD9 := hD.sub (ws' := [(h0, .inr (1, [.ref q, .int le])), (q, .inl (cB, n, .inl lf))]) [0, 1] (by decide +kernel) rfl
        exact W.iret (v := L) hx hb hr (fun t ht hW => ⟨⟨L, (le, lf), rfl, ⟨rfl, (by (try dsimp only); first | assumption | omega | trivial), (f3.tbc (by omega))⟩, by rw [ht]; exact hP9, hD9⟩, hS.F ht⟩) hS.2.2 d_Bytes_extend_61
      · skip
        have g44_23 : ¬ le.toInt ≤ kx.toInt := fun h8 => h_9 ((i_le rfl rfl).mpr h8)
        refine lv_aload_n hx hb d_Bytes_extend_47 rfl (lv_at hl 0 rfl) ?_
        refine va_get (D := D) (ci := 1) (v := .ref q) (C := "DiscMaker$Bytes") (T := F_Bytes) (N := 2) hx hb ht9 in_Bytes hown hK hP 0 rfl rfl 0 (by decide) (ht9 _ k256) (fun _ h9 => h9) rfl d_Bytes_extend_48 ?_
        refine lv_iload_n hx hb d_Bytes_extend_51 rfl (lv_at hl 3 rfl) ?_
        refine lv_iconst (v := 0) hx hb d_Bytes_extend_52 (by decide) ?_
        refine zq_bast hx hb hK hP hD hS 1 0 rfl rfl (vp_in_iff.mpr ⟨by omega, by omega⟩) d_Bytes_extend_53 (fun fz4 e_fz4 H locs hP hD hS => ?_)
        have hP : va_P D CL [(h0, .inr (1, [.ref q, .int le])), (q, .inl (cB, n, .inl fz4))] H := hP
        have hD : va_D A [(h0, .inr (1, [.ref q, .int le])), (q, .inl (cB, n, .inl fz4))] := hD
        obtain ⟨v5, e_v5⟩ : ∃ z : Int32, z = kx + 1 := ⟨_, rfl⟩
        refine lv_iinc (v := v5) hx hb d_Bytes_extend_54 hl (k := 3) rfl e_v5.symm (by decide +kernel) rfl (fun ls hl => ?_)
        have t_v5 : v5.toInt = kx.toInt + 1 := by rw [e_v5]; exact i_add rfl (by decide) (by omega) (by omega)
        have hl : lv_has ls 4 [(3, .int v5), (0, .ref h0), (1, .int x), (2, .int L)] := hl
        refine lv_goto (tgt := 39) hx hb d_Bytes_extend_57 (by decide) ?_
        have hP := hP.sub (ws' := [(h0, .inr (1, [.ref q, .int le])), (q, .inl (cB, n, .inl fz4))]) [0, 1] rfl
        have hD := hD.sub (ws' := [(h0, .inr (1, [.ref q, .int le])), (q, .inl (cB, n, .inl fz4))]) [0, 1] (by decide +kernel) rfl
        have hl := lv_sub hl [1, 2, 3, 0] rfl
        exact ih39 _ (by first | omega | (dsimp only; omega)) v5 le fz4 _ _ _ rfl ((by (try dsimp only); first | assumption | omega | trivial)) ((by (try dsimp only); first | assumption | omega | trivial)) ((BL.step f3 (Pt_of e_fz4 (i_cl (a := kx) (by omega))) (by omega) (by omega) (show v5.toInt - L.toInt = kx.toInt - L.toInt + 1 by omega) (by show (0 : Int32).toInt % 256 = (0 : Int); decide))) hP hD hS hl
    · skip
      intro kk39
      have hP := hP.sub (ws' := [(h0, .inr (1, [.ref q, .int v3])), (q, .inl (cB, n, .inl f))]) [0, 1] rfl
      have hD := hD.sub (ws' := [(h0, .inr (1, [.ref q, .int v3])), (q, .inl (cB, n, .inl f))]) [0, 1] (by decide +kernel) rfl
      have hl := lv_sub hl [2, 3, 1, 0] rfl
      exact kk39 _ L v3 f _ _ _ rfl ((by (try dsimp only); first | assumption | omega | trivial)) ((by (try dsimp only); first | assumption | omega | trivial)) ((BL_tb0 (by omega))) hP hD hS hl
  · skip
    have g17_12 : ¬ v1.toInt ≤ v2.toInt := fun h8 => h_9 ((i_le rfl rfl).mpr h8)
    exfalso
    omega

set_option maxHeartbeats 4000000 in
set_option maxRecDepth 100000 in
theorem c3_fillF (l : Launch) (D : va_G) (cB cI cJ cZ cN cF : ClassId) (sz : Nat) (h0 : Nat) (q : Nat) (n : Nat) (L : Int32) (f : Nat → Int32) (x : Int32) (y : Int32) (z : Int32) (hL : 0 ≤ L.toInt ∧ L.toInt ≤ n) (hn : n ≤ 3000000) (hin : 0 ≤ x.toInt ∧ x.toInt ≤ y.toInt ∧ y.toInt ≤ L.toInt) : Met l y_Bytes_fill w_Bytes_fill ({ frames := 1, cells := 0, slots := 0, locals := 28 }) (va_Pc [.ref h0, .int x, .int y, .int z] (fun U => U.heap.size = sz ∧ va_P D CL [(h0, .inr (1, [.ref q, .int L])), (q, .inl (cB, n, .inl f))] U.heap ∧ va_K D CL (TY cB cI cJ cZ cN cF) U ∧ NN U ∧ va_D (fun _ => True) [(h0, .inr (1, [.ref q, .int L])), (q, .inl (cB, n, .inl f))])) (va_Qv (fun (u : (Nat → Int32)) => match u with | g => (BL (imC f) (imC g) x.toInt (List.replicate (y.toInt - x.toInt).toNat (z.toInt % 256)))) (fun (u : (Nat → Int32)) (t : State) => match u with | g => va_P D CL [(h0, .inr (1, [.ref q, .int L])), (q, .inl (cB, n, .inl g))] t.heap ∧ va_D (va_A [(h0, .inr (1, [.ref q, .int L])), (q, .inl (cB, n, .inl f))] sz) [(h0, .inr (1, [.ref q, .int L])), (q, .inl (cB, n, .inl g))]) (va_A [(h0, .inr (1, [.ref q, .int L])), (q, .inl (cB, n, .inl f))] sz)) 0 0 (va_A [(h0, .inr (1, [.ref q, .int L])), (q, .inl (cB, n, .inl f))] sz) := by
  refine Met.ofW (cc := b_Bytes_fill) (maxL := 5) (ret := none) (by decide +kernel) rfl ?_
  intro p e s m args below meth c s₁ B hml hv
  obtain ⟨rfl, hsz, hP, hK, hN, hD0⟩ := hv
  have hx := B.exec
  have hb := B.bytes
  have hr := B.returns
  have hts := atoms_spec (ws := w_Bytes_fill) B.pre
  have ht9 := fun (w : Cond) (h : w ∈ lw_g) => hts w (List.mem_cons_of_mem _ h)
  have hown : s.vm.findClass "DiscMaker$Bytes" = some m.cls := findClass_of_methodNamed B.named
  have hlocks := B.notSynchronized
  subst hsz
  have hD := hD0.self (sz := s.heap.size)
  generalize hAe : va_A [(h0, .inr (1, [.ref q, .int L])), (q, .inl (cB, n, .inl f))] s.heap.size = A at hD ⊢
  have hA : ∀ q : Nat, s.heap.size ≤ q → A q := fun q h => by rw [← hAe]; exact Or.inr h
  have hS : va_S A s.heap s.heap [] := va_S.rf
  have hP : va_P D CL [(h0, .inr (1, [.ref q, .int L])), (q, .inl (cB, n, .inl f))] s.heap := hP
  have hl := lv_entry [.ref h0, .int x, .int y, .int z] (n := 5) (Nat.le_of_ble_eq_true rfl)
  rw [lg_entry_eq]
  generalize (lg_sl [.ref h0, .int x, .int y, .int z] ++ List.replicate (5 - (lg_sl [.ref h0, .int x, .int y, .int z]).length) Slot.unset).toArray = ls at hl ⊢
  have hl : lv_has ls 5 [(0, .ref h0), (1, .int x), (2, .int y), (3, .int z)] := hl
  have L_m1 : ((-1) : Int32).toInt = (-1) := by decide
  have L_0 : (0 : Int32).toInt = 0 := by decide
  have L_1 : (1 : Int32).toInt = 1 := by decide
  refine lv_iload_n hx hb d_Bytes_fill_0 rfl (lv_at hl 1 rfl) ?_
  refine lv_istore hx hb d_Bytes_fill_1 hl (by decide) rfl (fun ls hl => ?_)
  have hl : lv_has ls 5 [(4, .int x), (0, .ref h0), (1, .int x), (2, .int y), (3, .int z)] := hl
  refine zz_labM (B := fun (lk : Nat) (K : Heap → List Loc → Array Slot → List Value → Prop) => ∀ (kx : Int32) (lf : Nat → Int32) (H : Heap) (locs : List Loc) (ls : Array Slot), lk = (y.toInt - kx.toInt).toNat → (x.toInt ≤ kx.toInt ∧ kx.toInt ≤ y.toInt) → (BL (imC f) (imC lf) x.toInt (tbL (fun _ => z.toInt % 256) (kx.toInt - x.toInt).toNat)) → va_P D CL [(h0, .inr (1, [.ref q, .int L])), (q, .inl (cB, n, .inl lf))] H → va_D A [(h0, .inr (1, [.ref q, .int L])), (q, .inl (cB, n, .inl lf))] → va_S A s.heap H locs → lv_has ls 5 [(0, .ref h0), (1, .int x), (2, .int y), (3, .int z), (4, .int kx)] → K H locs ls []) 3 ?_ ?_
  · skip
    intro lk ih3 kx lf H locs ls hm3 f2 f3 hP hD hS hl
    refine lv_iload hx hb d_Bytes_fill_3 (lv_at hl 4 rfl) ?_
    refine lv_iload_n hx hb d_Bytes_fill_5 rfl (lv_at hl 2 rfl) ?_
    refine lv_icmp_ge (tgt := 22) hx hb d_Bytes_fill_6 (by decide) (fun h_9 => ?_) (fun h_9 => ?_)
    · skip
      have g6_5 : y.toInt ≤ kx.toInt := (i_le rfl rfl).mp h_9
      have hP9 := hP.sub (ws' := [(h0, .inr (1, [.ref q, .int L])), (q, .inl (cB, n, .inl lf))]) [0, 1] rfl
      have hD9 := hD.sub (ws' := [(h0, .inr (1, [.ref q, .int L])), (q, .inl (cB, n, .inl lf))]) [0, 1] (by decide +kernel) rfl
      exact W.vret hx hb hr (fun t ht hW => ⟨⟨lf, rfl, (f3.tbc (by omega)), by rw [ht]; exact hP9, hD9⟩, hS.F ht⟩) hS.2.2 d_Bytes_fill_22
    · skip
      have g6_5 : ¬ y.toInt ≤ kx.toInt := fun h8 => h_9 ((i_le rfl rfl).mpr h8)
      refine lv_aload_n hx hb d_Bytes_fill_9 rfl (lv_at hl 0 rfl) ?_
      refine lv_iload hx hb d_Bytes_fill_10 (lv_at hl 4 rfl) ?_
      refine lv_iload_n hx hb d_Bytes_fill_12 rfl (lv_at hl 3 rfl) ?_
      have hPc := hP.sub (ws' := [(h0, .inr (1, [.ref q, .int L])), (q, .inl (cB, n, .inl lf))]) [0, 1] rfl
      have hDc := hD.sub (ws' := [(h0, .inr (1, [.ref q, .int L])), (q, .inl (cB, n, .inl lf))]) [0, 1] (by decide +kernel) rfl
      have hFc := va_free (wc := [(h0, .inr (1, [.ref q, .int L])), (q, .inl (cB, n, .inl lf))]) hD hS hA [0, 1] rfl
      have hkc : 0 ≤ 0 := by decide
      have hks : 0 ≤ 0 := by decide
      refine va_callv (va_runV (C := "DiscMaker$Bytes") (As := [.int kx, .int z]) (rest := []) ⟨hx, hb, hml, hown, hts⟩ (c3_putF l D cB cI cJ cZ cN cF H.size h0 q n L lf kx z (by (try dsimp only); first | assumption | omega | trivial) (by (try dsimp only); first | assumption | omega | trivial) (by (try dsimp only); first | assumption | omega | trivial)) (cwV 2 hts (lg_goodV k988 k912 k913 k119 kc_Bytes_put) rfl rfl rfl (by decide +kernel) ⟨Nat.le_of_ble_eq_true rfl, Nat.le_of_ble_eq_true rfl⟩) ⟨fun a U g mk q => by obtain ⟨q0, q1, qP, qK, qN, qD⟩ := q; exact ⟨q0, q1, qP, va_K.moved (u := U) (U := U.calling g mk a) (Vm.Alike.refl U.vm) qK, qN.calling, qD⟩, va_recv hK hP (ci := 1) (q0 := 0) rfl rfl, fun U hU hW => ⟨rfl, by rw [hU], by rw [hU]; exact hPc, va_K.moved hW.alike hK, NN.warm hW hN, hDc.weaken (fun _ _ _ _ => trivial)⟩⟩ rfl rfl hl.1 rfl (lv_room (Nat.le_of_ble_eq_true rfl)) d_Bytes_fill_13 ⟨hkc, hks⟩) hS (fun q _ h => hFc q h) hFc (fun u t H1 locs ht hvm hp_r1 hB hz1 hk1 hS => ?_)
      obtain ⟨g_2, rfl⟩ : ∃ z, z = u := ⟨_, rfl⟩
      obtain ⟨hP1, hD1⟩ := hB
      rw [ht] at hP1
      obtain ⟨hP, hD⟩ := va_join (wr := []) (w1 := [(h0, .inr (1, [.ref q, .int L])), (q, .inl (cB, n, .inl g_2))]) hP hD [0, 1] [] rfl rfl (by decide +kernel) (by decide +kernel) hk1 hFc hP1 hD1
      clear hPc hDc hFc hP1 hD1 hk1 hz1 hkc hks
      generalize H1 = H at hP hS ⊢
      have hP : va_P D CL [(h0, .inr (1, [.ref q, .int L])), (q, .inl (cB, n, .inl g_2))] H := hP
      have hD : va_D A [(h0, .inr (1, [.ref q, .int L])), (q, .inl (cB, n, .inl g_2))] := hD
      try dsimp only at hp_r1
      have hw_3 := hp_r1
      obtain ⟨v4, e_v4⟩ : ∃ z : Int32, z = kx + 1 := ⟨_, rfl⟩
      refine lv_iinc (v := v4) hx hb d_Bytes_fill_16 hl (k := 4) rfl e_v4.symm (by decide +kernel) rfl (fun ls hl => ?_)
      have t_v4 : v4.toInt = kx.toInt + 1 := by rw [e_v4]; exact i_add rfl (by decide) (by omega) (by omega)
      have hl : lv_has ls 5 [(4, .int v4), (0, .ref h0), (1, .int x), (2, .int y), (3, .int z)] := hl
      refine lv_goto (tgt := 3) hx hb d_Bytes_fill_19 (by decide) ?_
      have hP := hP.sub (ws' := [(h0, .inr (1, [.ref q, .int L])), (q, .inl (cB, n, .inl g_2))]) [0, 1] rfl
      have hD := hD.sub (ws' := [(h0, .inr (1, [.ref q, .int L])), (q, .inl (cB, n, .inl g_2))]) [0, 1] (by decide +kernel) rfl
      have hl := lv_sub hl [1, 2, 3, 4, 0] rfl
      exact ih3 _ (by first | omega | (dsimp only; omega)) v4 g_2 _ _ _ rfl ((by (try dsimp only); first | assumption | omega | trivial)) ((BL.step f3 hw_3 (by omega) (by omega) (show v4.toInt - x.toInt = kx.toInt - x.toInt + 1 by omega) rfl)) hP hD hS hl
  · skip
    intro kk3
    have hP := hP.sub (ws' := [(h0, .inr (1, [.ref q, .int L])), (q, .inl (cB, n, .inl f))]) [0, 1] rfl
    have hD := hD.sub (ws' := [(h0, .inr (1, [.ref q, .int L])), (q, .inl (cB, n, .inl f))]) [0, 1] (by decide +kernel) rfl
    have hl := lv_sub hl [1, 2, 3, 4, 0] rfl
    exact kk3 _ x f _ _ _ rfl ((by (try dsimp only); first | assumption | omega | trivial)) ((BL_tb0 (by omega))) hP hD hS hl

set_option maxHeartbeats 4000000 in
set_option maxRecDepth 100000 in
theorem c3_putRowF (l : Launch) (D : va_G) (cB cI cJ cZ cN cF : ClassId) (sz : Nat) (h0 : Nat) (q : Nat) (n : Nat) (L : Int32) (f : Nat → Int32) (tt : Nat) (nt : Nat) (gv : Nat → Int32) (x : Int32) (hL : 0 ≤ L.toInt ∧ L.toInt ≤ n) (hn : n ≤ 3000000) (hnt : nt ≤ 1000) (hin : 0 ≤ x.toInt ∧ x.toInt + nt ≤ L.toInt) : Met l y_Bytes_putRow w_Bytes_putRow ({ frames := 1, cells := 0, slots := 0, locals := 28 }) (va_Pc [.ref h0, .int x, .ref tt] (fun U => U.heap.size = sz ∧ va_P D CL [(h0, .inr (1, [.ref q, .int L])), (q, .inl (cB, n, .inl f))] U.heap ∧ va_K D CL (TY cB cI cJ cZ cN cF) U ∧ NN U ∧ va_D (fun _ => True) [(h0, .inr (1, [.ref q, .int L])), (q, .inl (cB, n, .inl f))] ∧ RO D [(tt, .inl (cB, nt, .inl gv))] (va_A [(h0, .inr (1, [.ref q, .int L])), (q, .inl (cB, n, .inl f))] sz) U U.heap)) (va_Qv (fun (u : (Nat → Int32)) => match u with | g => (BL (imC f) (imC g) x.toInt (tbL (fun i => (gv i).toInt % 256) nt))) (fun (u : (Nat → Int32)) (t : State) => match u with | g => va_P D CL [(h0, .inr (1, [.ref q, .int L])), (q, .inl (cB, n, .inl g))] t.heap ∧ va_D (va_A [(h0, .inr (1, [.ref q, .int L])), (q, .inl (cB, n, .inl f))] sz) [(h0, .inr (1, [.ref q, .int L])), (q, .inl (cB, n, .inl g))]) (va_A [(h0, .inr (1, [.ref q, .int L])), (q, .inl (cB, n, .inl f))] sz)) 0 0 (va_A [(h0, .inr (1, [.ref q, .int L])), (q, .inl (cB, n, .inl f))] sz) := by
  refine Met.ofW (cc := b_Bytes_putRow) (maxL := 4) (ret := none) (by decide +kernel) rfl ?_
  intro p e s m args below meth c s₁ B hml hv
  obtain ⟨rfl, hsz, hP, hK, hN, hD0, hZr⟩ := hv
  have hx := B.exec
  have hb := B.bytes
  have hr := B.returns
  have hts := atoms_spec (ws := w_Bytes_putRow) B.pre
  have ht9 := fun (w : Cond) (h : w ∈ lw_g) => hts w (List.mem_cons_of_mem _ h)
  have hown : s.vm.findClass "DiscMaker$Bytes" = some m.cls := findClass_of_methodNamed B.named
  have hlocks := B.notSynchronized
  subst hsz
  have hD := hD0.self (sz := s.heap.size)
  generalize hAe : va_A [(h0, .inr (1, [.ref q, .int L])), (q, .inl (cB, n, .inl f))] s.heap.size = A at hD hZr ⊢
  have hA : ∀ q : Nat, s.heap.size ≤ q → A q := fun q h => by rw [← hAe]; exact Or.inr h
  have hS : va_S A s.heap s.heap [] := va_S.rf
  have hP : va_P D CL [(h0, .inr (1, [.ref q, .int L])), (q, .inl (cB, n, .inl f))] s.heap := hP
  have hl := lv_entry [.ref h0, .int x, .ref tt] (n := 4) (Nat.le_of_ble_eq_true rfl)
  rw [lg_entry_eq]
  generalize (lg_sl [.ref h0, .int x, .ref tt] ++ List.replicate (4 - (lg_sl [.ref h0, .int x, .ref tt]).length) Slot.unset).toArray = ls at hl ⊢
  have hl : lv_has ls 4 [(0, .ref h0), (1, .int x), (2, .ref tt)] := hl
  have L_m1 : ((-1) : Int32).toInt = (-1) := by decide
  have L_0 : (0 : Int32).toInt = 0 := by decide
  have L_1 : (1 : Int32).toInt = 1 := by decide
  refine lv_iconst (v := 0) hx hb d_Bytes_putRow_0 (by decide) ?_
  refine lv_istore_n hx hb d_Bytes_putRow_1 rfl hl (by decide) rfl (fun ls hl => ?_)
  have hl : lv_has ls 4 [(3, .int 0), (0, .ref h0), (1, .int x), (2, .ref tt)] := hl
  refine zz_labM (B := fun (lk : Nat) (K : Heap → List Loc → Array Slot → List Value → Prop) => ∀ (kx : Int32) (lf : Nat → Int32) (H : Heap) (locs : List Loc) (ls : Array Slot), lk = (nt - kx.toInt).toNat → (0 ≤ kx.toInt ∧ (kx.toInt = 0 ∨ kx.toInt ≤ nt)) → (BL (imC f) (imC lf) x.toInt (tbL (fun i => (gv i).toInt % 256) kx.toInt.toNat)) → va_P D CL [(h0, .inr (1, [.ref q, .int L])), (q, .inl (cB, n, .inl lf))] H → va_D A [(h0, .inr (1, [.ref q, .int L])), (q, .inl (cB, n, .inl lf))] → va_S A s.heap H locs → lv_has ls 4 [(0, .ref h0), (1, .int x), (2, .ref tt), (3, .int kx)] → K H locs ls []) 2 ?_ ?_
  · skip
    intro lk ih2 kx lf H locs ls hm2 f1 f3 hP hD hS hl
    refine lv_iload_n hx hb d_Bytes_putRow_2 rfl (lv_at hl 3 rfl) ?_
    refine lv_aload_n hx hb d_Bytes_putRow_3 rfl (lv_at hl 2 rfl) ?_
    have hPR := RO_at hZr hS
    refine va_alen (v := nI nt) hx hb hK hPR 0 0 rfl rfl rfl d_Bytes_putRow_4 ?_
    refine lv_topi (fun v1 e_v1 => ?_)
    have t_v1 : v1.toInt = nt := by rw [e_v1]; exact nI_toInt (by omega)
    refine lv_icmp_ge (tgt := 24) hx hb d_Bytes_putRow_5 (by decide) (fun h_9 => ?_) (fun h_9 => ?_)
    · skip
      have g5_6 : v1.toInt ≤ kx.toInt := (i_le rfl rfl).mp h_9
      have hP9 := hP.sub (ws' := [(h0, .inr (1, [.ref q, .int L])), (q, .inl (cB, n, .inl lf))]) [0, 1] rfl
      have hD9 := hD.sub (ws' := [(h0, .inr (1, [.ref q, .int L])), (q, .inl (cB, n, .inl lf))]) [0, 1] (by decide +kernel) rfl
      exact W.vret hx hb hr (fun t ht hW => ⟨⟨lf, rfl, (by (try dsimp only); have h7 := f3; rw [show kx.toInt.toNat = nt by omega] at h7; exact h7), by rw [ht]; exact hP9, hD9⟩, hS.F ht⟩) hS.2.2 d_Bytes_putRow_24
    · skip
      have g5_6 : ¬ v1.toInt ≤ kx.toInt := fun h8 => h_9 ((i_le rfl rfl).mpr h8)
      refine lv_aload_n hx hb d_Bytes_putRow_8 rfl (lv_at hl 0 rfl) ?_
      refine lv_iload_n hx hb d_Bytes_putRow_9 rfl (lv_at hl 1 rfl) ?_
      refine lv_iload_n hx hb d_Bytes_putRow_10 rfl (lv_at hl 3 rfl) ?_
      refine lv_iadd hx hb d_Bytes_putRow_11 ?_
      refine lv_topi (fun v2 e_v2 => ?_)
      have t_v2 : v2.toInt = x.toInt + kx.toInt := by rw [e_v2]; exact i_add rfl rfl (by omega) (by omega)
      refine lv_aload_n hx hb d_Bytes_putRow_12 rfl (lv_at hl 2 rfl) ?_
      refine lv_iload_n hx hb d_Bytes_putRow_13 rfl (lv_at hl 3 rfl) ?_
      have hPR := RO_at hZr hS
      refine va_bald hx hb hK hPR 0 0 rfl rfl (vp_in_iff.mpr ⟨by omega, by omega⟩) d_Bytes_putRow_14 ?_
      refine lv_topi (fun v3 e_v3 => ?_)
      have hPc := hP.sub (ws' := [(h0, .inr (1, [.ref q, .int L])), (q, .inl (cB, n, .inl lf))]) [0, 1] rfl
      have hDc := hD.sub (ws' := [(h0, .inr (1, [.ref q, .int L])), (q, .inl (cB, n, .inl lf))]) [0, 1] (by decide +kernel) rfl
      have hFc := va_free (wc := [(h0, .inr (1, [.ref q, .int L])), (q, .inl (cB, n, .inl lf))]) hD hS hA [0, 1] rfl
      have hkc : 0 ≤ 0 := by decide
      have hks : 0 ≤ 0 := by decide
      refine va_callv (va_runV (C := "DiscMaker$Bytes") (As := [.int v2, .int v3]) (rest := []) ⟨hx, hb, hml, hown, hts⟩ (c3_putF l D cB cI cJ cZ cN cF H.size h0 q n L lf v2 v3 (by (try dsimp only); first | assumption | omega | trivial) (by (try dsimp only); first | assumption | omega | trivial) (by (try dsimp only); first | assumption | omega | trivial)) (cwV 2 hts (lg_goodV k988 k912 k913 k119 kc_Bytes_put) rfl rfl rfl (by decide +kernel) ⟨Nat.le_of_ble_eq_true rfl, Nat.le_of_ble_eq_true rfl⟩) ⟨fun a U g mk q => by obtain ⟨q0, q1, qP, qK, qN, qD⟩ := q; exact ⟨q0, q1, qP, va_K.moved (u := U) (U := U.calling g mk a) (Vm.Alike.refl U.vm) qK, qN.calling, qD⟩, va_recv hK hP (ci := 1) (q0 := 0) rfl rfl, fun U hU hW => ⟨rfl, by rw [hU], by rw [hU]; exact hPc, va_K.moved hW.alike hK, NN.warm hW hN, hDc.weaken (fun _ _ _ _ => trivial)⟩⟩ rfl rfl hl.1 rfl (lv_room (Nat.le_of_ble_eq_true rfl)) d_Bytes_putRow_15 ⟨hkc, hks⟩) hS (fun q _ h => hFc q h) hFc (fun u t H1 locs ht hvm hp_r4 hB hz1 hk1 hS => ?_)
      obtain ⟨g_5, rfl⟩ : ∃ z, z = u := ⟨_, rfl⟩
      obtain ⟨hP1, hD1⟩ := hB
      rw [ht] at hP1
      obtain ⟨hP, hD⟩ := va_join (wr := []) (w1 := [(h0, .inr (1, [.ref q, .int L])), (q, .inl (cB, n, .inl g_5))]) hP hD [0, 1] [] rfl rfl (by decide +kernel) (by decide +kernel) hk1 hFc hP1 hD1
      clear hPc hDc hFc hP1 hD1 hk1 hz1 hkc hks
      generalize H1 = H at hP hS ⊢
      have hP : va_P D CL [(h0, .inr (1, [.ref q, .int L])), (q, .inl (cB, n, .inl g_5))] H := hP
      have hD : va_D A [(h0, .inr (1, [.ref q, .int L])), (q, .inl (cB, n, .inl g_5))] := hD
      try dsimp only at hp_r4
      have hw_6 := hp_r4
      obtain ⟨v7, e_v7⟩ : ∃ z : Int32, z = kx + 1 := ⟨_, rfl⟩
      refine lv_iinc (v := v7) hx hb d_Bytes_putRow_18 hl (k := 3) rfl e_v7.symm (by decide +kernel) rfl (fun ls hl => ?_)
      have t_v7 : v7.toInt = kx.toInt + 1 := by rw [e_v7]; exact i_add rfl (by decide) (by omega) (by omega)
      have hl : lv_has ls 4 [(3, .int v7), (0, .ref h0), (1, .int x), (2, .ref tt)] := hl
      refine lv_goto (tgt := 2) hx hb d_Bytes_putRow_21 (by decide) ?_
      have hP := hP.sub (ws' := [(h0, .inr (1, [.ref q, .int L])), (q, .inl (cB, n, .inl g_5))]) [0, 1] rfl
      have hD := hD.sub (ws' := [(h0, .inr (1, [.ref q, .int L])), (q, .inl (cB, n, .inl g_5))]) [0, 1] (by decide +kernel) rfl
      have hl := lv_sub hl [1, 2, 3, 0] rfl
      exact ih2 _ (by first | omega | (dsimp only; omega)) v7 g_5 _ _ _ rfl ((by (try dsimp only); first | assumption | omega | trivial)) ((BL.step f3 hw_6 (by omega) (by omega) (show v7.toInt = kx.toInt + 1 by omega) (by rw [e_v3, show kx.toInt.toNat = kx.toNatClampNeg by (have h7 := i_cl (a := kx) (by omega); omega)]))) hP hD hS hl
  · skip
    intro kk2
    have hP := hP.sub (ws' := [(h0, .inr (1, [.ref q, .int L])), (q, .inl (cB, n, .inl f))]) [0, 1] rfl
    have hD := hD.sub (ws' := [(h0, .inr (1, [.ref q, .int L])), (q, .inl (cB, n, .inl f))]) [0, 1] (by decide +kernel) rfl
    have hl := lv_sub hl [1, 2, 3, 0] rfl
    exact kk2 _ 0 f _ _ _ rfl ((by (try dsimp only); first | assumption | omega | trivial)) ((BL_tb0 (by omega))) hP hD hS hl

set_option maxHeartbeats 4000000 in
set_option maxRecDepth 100000 in
theorem c3_putRowTF (l : Launch) (D : va_G) (cB cI cJ cZ cN cF : ClassId) (sz : Nat) (h0 : Nat) (q : Nat) (n : Nat) (L : Int32) (f : Nat → Int32) (tt : Nat) (nt : Nat) (gv : Nat → Int32) (x : Int32) (hL : 0 ≤ L.toInt ∧ L.toInt ≤ n) (hn : n ≤ 3000000) (hnt : nt ≤ 1000) (hin : 0 ≤ x.toInt ∧ x.toInt + nt ≤ L.toInt) : Met l y_Bytes_putRow w_Bytes_putRow ({ frames := 1, cells := 0, slots := 0, locals := 28 }) (va_Pc [.ref h0, .int x, .ref tt] (fun U => U.heap.size = sz ∧ va_P D CL [(h0, .inr (1, [.ref q, .int L])), (q, .inl (cB, n, .inl f))] U.heap ∧ va_K D CL (TY cB cI cJ cZ cN cF) U ∧ NN U ∧ va_D (fun _ => True) [(h0, .inr (1, [.ref q, .int L])), (q, .inl (cB, n, .inl f))] ∧ va_T .byte tt nt (fun j => .int (gv j)) (va_A [(h0, .inr (1, [.ref q, .int L])), (q, .inl (cB, n, .inl f))] sz) U U.heap)) (va_Qv (fun (u : (Nat → Int32)) => match u with | g => (BL (imC f) (imC g) x.toInt (tbL (fun i => (gv i).toInt % 256) nt))) (fun (u : (Nat → Int32)) (t : State) => match u with | g => va_P D CL [(h0, .inr (1, [.ref q, .int L])), (q, .inl (cB, n, .inl g))] t.heap ∧ va_D (va_A [(h0, .inr (1, [.ref q, .int L])), (q, .inl (cB, n, .inl f))] sz) [(h0, .inr (1, [.ref q, .int L])), (q, .inl (cB, n, .inl g))]) (va_A [(h0, .inr (1, [.ref q, .int L])), (q, .inl (cB, n, .inl f))] sz)) 0 0 (va_A [(h0, .inr (1, [.ref q, .int L])), (q, .inl (cB, n, .inl f))] sz) := by
  refine Met.ofW (cc := b_Bytes_putRow) (maxL := 4) (ret := none) (by decide +kernel) rfl ?_
  intro p e s m args below meth c s₁ B hml hv
  obtain ⟨rfl, hsz, hP, hK, hN, hD0, hZt⟩ := hv
  have hx := B.exec
  have hb := B.bytes
  have hr := B.returns
  have hts := atoms_spec (ws := w_Bytes_putRow) B.pre
  have ht9 := fun (w : Cond) (h : w ∈ lw_g) => hts w (List.mem_cons_of_mem _ h)
  have hown : s.vm.findClass "DiscMaker$Bytes" = some m.cls := findClass_of_methodNamed B.named
  have hlocks := B.notSynchronized
  subst hsz
  have hD := hD0.self (sz := s.heap.size)
  generalize hAe : va_A [(h0, .inr (1, [.ref q, .int L])), (q, .inl (cB, n, .inl f))] s.heap.size = A at hD hZt ⊢
  have hA : ∀ q : Nat, s.heap.size ≤ q → A q := fun q h => by rw [← hAe]; exact Or.inr h
  have hS : va_S A s.heap s.heap [] := va_S.rf
  have hP : va_P D CL [(h0, .inr (1, [.ref q, .int L])), (q, .inl (cB, n, .inl f))] s.heap := hP
  have hl := lv_entry [.ref h0, .int x, .ref tt] (n := 4) (Nat.le_of_ble_eq_true rfl)
  rw [lg_entry_eq]
  generalize (lg_sl [.ref h0, .int x, .ref tt] ++ List.replicate (4 - (lg_sl [.ref h0, .int x, .ref tt]).length) Slot.unset).toArray = ls at hl ⊢
  have hl : lv_has ls 4 [(0, .ref h0), (1, .int x), (2, .ref tt)] := hl
  have L_m1 : ((-1) : Int32).toInt = (-1) := by decide
  have L_0 : (0 : Int32).toInt = 0 := by decide
  have L_1 : (1 : Int32).toInt = 1 := by decide
  refine lv_iconst (v := 0) hx hb d_Bytes_putRow_0 (by decide) ?_
  refine lv_istore_n hx hb d_Bytes_putRow_1 rfl hl (by decide) rfl (fun ls hl => ?_)
  have hl : lv_has ls 4 [(3, .int 0), (0, .ref h0), (1, .int x), (2, .ref tt)] := hl
  refine zz_labM (B := fun (lk : Nat) (K : Heap → List Loc → Array Slot → List Value → Prop) => ∀ (kx : Int32) (lf : Nat → Int32) (H : Heap) (locs : List Loc) (ls : Array Slot), lk = (nt - kx.toInt).toNat → (0 ≤ kx.toInt ∧ (kx.toInt = 0 ∨ kx.toInt ≤ nt)) → (BL (imC f) (imC lf) x.toInt (tbL (fun i => (gv i).toInt % 256) kx.toInt.toNat)) → va_P D CL [(h0, .inr (1, [.ref q, .int L])), (q, .inl (cB, n, .inl lf))] H → va_D A [(h0, .inr (1, [.ref q, .int L])), (q, .inl (cB, n, .inl lf))] → va_S A s.heap H locs → lv_has ls 4 [(0, .ref h0), (1, .int x), (2, .ref tt), (3, .int kx)] → K H locs ls []) 2 ?_ ?_
  · skip
    intro lk ih2 kx lf H locs ls hm2 f1 f3 hP hD hS hl
    refine lv_iload_n hx hb d_Bytes_putRow_2 rfl (lv_at hl 3 rfl) ?_
    refine lv_aload_n hx hb d_Bytes_putRow_3 rfl (lv_at hl 2 rfl) ?_
    refine va_tlen (v := nI nt) hx hb hZt hS rfl d_Bytes_putRow_4 ?_
    refine lv_topi (fun v1 e_v1 => ?_)
    have t_v1 : v1.toInt = nt := by rw [e_v1]; exact nI_toInt (by omega)
    refine lv_icmp_ge (tgt := 24) hx hb d_Bytes_putRow_5 (by decide) (fun h_9 => ?_) (fun h_9 => ?_)
    · skip
      have g5_6 : v1.toInt ≤ kx.toInt := (i_le rfl rfl).mp h_9
      have hP9 := hP.sub (ws' := [(h0, .inr (1, [.ref q, .int L])), (q, .inl (cB, n, .inl lf))]) [0, 1] rfl
      have hD9 := hD.sub (ws' := [(h0, .inr (1, [.ref q, .int L])), (q, .inl (cB, n, .inl lf))]) [0, 1] (by decide +kernel) rfl
      exact W.vret hx hb hr (fun t ht hW => ⟨⟨lf, rfl, (by (try dsimp only); have h7 := f3; rw [show kx.toInt.toNat = nt by omega] at h7; exact h7), by rw [ht]; exact hP9, hD9⟩, hS.F ht⟩) hS.2.2 d_Bytes_putRow_24
    · skip
      have g5_6 : ¬ v1.toInt ≤ kx.toInt := fun h8 => h_9 ((i_le rfl rfl).mpr h8)
      refine lv_aload_n hx hb d_Bytes_putRow_8 rfl (lv_at hl 0 rfl) ?_
      refine lv_iload_n hx hb d_Bytes_putRow_9 rfl (lv_at hl 1 rfl) ?_
      refine lv_iload_n hx hb d_Bytes_putRow_10 rfl (lv_at hl 3 rfl) ?_
      refine lv_iadd hx hb d_Bytes_putRow_11 ?_
      refine lv_topi (fun v2 e_v2 => ?_)
      have t_v2 : v2.toInt = x.toInt + kx.toInt := by rw [e_v2]; exact i_add rfl rfl (by omega) (by omega)
      refine lv_aload_n hx hb d_Bytes_putRow_12 rfl (lv_at hl 2 rfl) ?_
      refine lv_iload_n hx hb d_Bytes_putRow_13 rfl (lv_at hl 3 rfl) ?_
      refine va_tb (v := .int (gv kx.toNatClampNeg)) hx hb hZt hS (vp_in_iff.mpr ⟨by omega, by omega⟩) rfl d_Bytes_putRow_14 ?_
      refine lv_topi (fun v3 e_v3 => ?_)
      have hPc := hP.sub (ws' := [(h0, .inr (1, [.ref q, .int L])), (q, .inl (cB, n, .inl lf))]) [0, 1] rfl
      have hDc := hD.sub (ws' := [(h0, .inr (1, [.ref q, .int L])), (q, .inl (cB, n, .inl lf))]) [0, 1] (by decide +kernel) rfl
      have hFc := va_free (wc := [(h0, .inr (1, [.ref q, .int L])), (q, .inl (cB, n, .inl lf))]) hD hS hA [0, 1] rfl
      have hkc : 0 ≤ 0 := by decide
      have hks : 0 ≤ 0 := by decide
      refine va_callv (va_runV (C := "DiscMaker$Bytes") (As := [.int v2, .int v3]) (rest := []) ⟨hx, hb, hml, hown, hts⟩ (c3_putF l D cB cI cJ cZ cN cF H.size h0 q n L lf v2 v3 (by (try dsimp only); first | assumption | omega | trivial) (by (try dsimp only); first | assumption | omega | trivial) (by (try dsimp only); first | assumption | omega | trivial)) (cwV 2 hts (lg_goodV k988 k912 k913 k119 kc_Bytes_put) rfl rfl rfl (by decide +kernel) ⟨Nat.le_of_ble_eq_true rfl, Nat.le_of_ble_eq_true rfl⟩) ⟨fun a U g mk q => by obtain ⟨q0, q1, qP, qK, qN, qD⟩ := q; exact ⟨q0, q1, qP, va_K.moved (u := U) (U := U.calling g mk a) (Vm.Alike.refl U.vm) qK, qN.calling, qD⟩, va_recv hK hP (ci := 1) (q0 := 0) rfl rfl, fun U hU hW => ⟨rfl, by rw [hU], by rw [hU]; exact hPc, va_K.moved hW.alike hK, NN.warm hW hN, hDc.weaken (fun _ _ _ _ => trivial)⟩⟩ rfl rfl hl.1 rfl (lv_room (Nat.le_of_ble_eq_true rfl)) d_Bytes_putRow_15 ⟨hkc, hks⟩) hS (fun q _ h => hFc q h) hFc (fun u t H1 locs ht hvm hp_r4 hB hz1 hk1 hS => ?_)
      obtain ⟨g_5, rfl⟩ : ∃ z, z = u := ⟨_, rfl⟩
      obtain ⟨hP1, hD1⟩ := hB
      rw [ht] at hP1
      obtain ⟨hP, hD⟩ := va_join (wr := []) (w1 := [(h0, .inr (1, [.ref q, .int L])), (q, .inl (cB, n, .inl g_5))]) hP hD [0, 1] [] rfl rfl (by decide +kernel) (by decide +kernel) hk1 hFc hP1 hD1
      clear hPc hDc hFc hP1 hD1 hk1 hz1 hkc hks
      generalize H1 = H at hP hS ⊢
      have hP : va_P D CL [(h0, .inr (1, [.ref q, .int L])), (q, .inl (cB, n, .inl g_5))] H := hP
      have hD : va_D A [(h0, .inr (1, [.ref q, .int L])), (q, .inl (cB, n, .inl g_5))] := hD
      try dsimp only at hp_r4
      have hw_6 := hp_r4
      obtain ⟨v7, e_v7⟩ : ∃ z : Int32, z = kx + 1 := ⟨_, rfl⟩
      refine lv_iinc (v := v7) hx hb d_Bytes_putRow_18 hl (k := 3) rfl e_v7.symm (by decide +kernel) rfl (fun ls hl => ?_)
      have t_v7 : v7.toInt = kx.toInt + 1 := by rw [e_v7]; exact i_add rfl (by decide) (by omega) (by omega)
      have hl : lv_has ls 4 [(3, .int v7), (0, .ref h0), (1, .int x), (2, .ref tt)] := hl
      refine lv_goto (tgt := 2) hx hb d_Bytes_putRow_21 (by decide) ?_
      have hP := hP.sub (ws' := [(h0, .inr (1, [.ref q, .int L])), (q, .inl (cB, n, .inl g_5))]) [0, 1] rfl
      have hD := hD.sub (ws' := [(h0, .inr (1, [.ref q, .int L])), (q, .inl (cB, n, .inl g_5))]) [0, 1] (by decide +kernel) rfl
      have hl := lv_sub hl [1, 2, 3, 0] rfl
      exact ih2 _ (by first | omega | (dsimp only; omega)) v7 g_5 _ _ _ rfl ((by (try dsimp only); first | assumption | omega | trivial)) ((BL.step f3 hw_6 (by omega) (by omega) (show v7.toInt = kx.toInt + 1 by omega) (by rw [e_v3, show kx.toInt.toNat = kx.toNatClampNeg by (have h7 := i_cl (a := kx) (by omega); omega)]))) hP hD hS hl
  · skip
    intro kk2
    have hP := hP.sub (ws' := [(h0, .inr (1, [.ref q, .int L])), (q, .inl (cB, n, .inl f))]) [0, 1] rfl
    have hD := hD.sub (ws' := [(h0, .inr (1, [.ref q, .int L])), (q, .inl (cB, n, .inl f))]) [0, 1] (by decide +kernel) rfl
    have hl := lv_sub hl [1, 2, 3, 0] rfl
    exact kk2 _ 0 f _ _ _ rfl ((by (try dsimp only); first | assumption | omega | trivial)) ((BL_tb0 (by omega))) hP hD hS hl

set_option maxHeartbeats 4000000 in
set_option maxRecDepth 100000 in
theorem c3_putBoth4F (l : Launch) (D : va_G) (cB cI cJ cZ cN cF : ClassId) (sz : Nat) (h0 : Nat) (q : Nat) (n : Nat) (L : Int32) (f : Nat → Int32) (x : Int32) (y : Int32) (hL : 0 ≤ L.toInt ∧ L.toInt ≤ n) (hn : n ≤ 3000000) (hin : 0 ≤ x.toInt ∧ x.toInt + 8 ≤ L.toInt) : Met l y_Bytes_putBoth w_Bytes_putBoth ({ frames := 1, cells := 0, slots := 0, locals := 28 }) (va_Pc [.ref h0, .int x, .int y, .int 4] (fun U => U.heap.size = sz ∧ va_P D CL [(h0, .inr (1, [.ref q, .int L])), (q, .inl (cB, n, .inl f))] U.heap ∧ va_K D CL (TY cB cI cJ cZ cN cF) U ∧ NN U ∧ va_D (fun _ => True) [(h0, .inr (1, [.ref q, .int L])), (q, .inl (cB, n, .inl f))])) (va_Qv (fun (u : (Nat → Int32)) => match u with | g => (BL (imC f) (imC g) x.toInt (bL4 y.toInt))) (fun (u : (Nat → Int32)) (t : State) => match u with | g => va_P D CL [(h0, .inr (1, [.ref q, .int L])), (q, .inl (cB, n, .inl g))] t.heap ∧ va_D (va_A [(h0, .inr (1, [.ref q, .int L])), (q, .inl (cB, n, .inl f))] sz) [(h0, .inr (1, [.ref q, .int L])), (q, .inl (cB, n, .inl g))]) (va_A [(h0, .inr (1, [.ref q, .int L])), (q, .inl (cB, n, .inl f))] sz)) 0 0 (va_A [(h0, .inr (1, [.ref q, .int L])), (q, .inl (cB, n, .inl f))] sz) := by
  refine Met.ofW (cc := b_Bytes_putBoth) (maxL := 5) (ret := none) (by decide +kernel) rfl ?_
  intro p e s m args below meth c s₁ B hml hv
  obtain ⟨rfl, hsz, hP, hK, hN, hD0⟩ := hv
  have hx := B.exec
  have hb := B.bytes
  have hr := B.returns
  have hts := atoms_spec (ws := w_Bytes_putBoth) B.pre
  have ht9 := fun (w : Cond) (h : w ∈ lw_g) => hts w (List.mem_cons_of_mem _ h)
  have hown : s.vm.findClass "DiscMaker$Bytes" = some m.cls := findClass_of_methodNamed B.named
  have hlocks := B.notSynchronized
  subst hsz
  have hD := hD0.self (sz := s.heap.size)
  generalize hAe : va_A [(h0, .inr (1, [.ref q, .int L])), (q, .inl (cB, n, .inl f))] s.heap.size = A at hD ⊢
  have hA : ∀ q : Nat, s.heap.size ≤ q → A q := fun q h => by rw [← hAe]; exact Or.inr h
  have hS : va_S A s.heap s.heap [] := va_S.rf
  have hP : va_P D CL [(h0, .inr (1, [.ref q, .int L])), (q, .inl (cB, n, .inl f))] s.heap := hP
  have hl := lv_entry [.ref h0, .int x, .int y, .int 4] (n := 5) (Nat.le_of_ble_eq_true rfl)
  rw [lg_entry_eq]
  generalize (lg_sl [.ref h0, .int x, .int y, .int 4] ++ List.replicate (5 - (lg_sl [.ref h0, .int x, .int y, .int 4]).length) Slot.unset).toArray = ls at hl ⊢
  have hl : lv_has ls 5 [(0, .ref h0), (1, .int x), (2, .int y), (3, .int 4)] := hl
  have L_m1 : ((-1) : Int32).toInt = (-1) := by decide
  have L_0 : (0 : Int32).toInt = 0 := by decide
  have L_1 : (1 : Int32).toInt = 1 := by decide
  have L_2 : (2 : Int32).toInt = 2 := by decide
  have L_3 : (3 : Int32).toInt = 3 := by decide
  have L_4 : (4 : Int32).toInt = 4 := by decide
  have L_7 : (7 : Int32).toInt = 7 := by decide
  have L_8 : (8 : Int32).toInt = 8 := by decide
  have L_16 : (16 : Int32).toInt = 16 := by decide
  have L_24 : (24 : Int32).toInt = 24 := by decide
  refine lv_iconst (v := 0) hx hb d_Bytes_putBoth_0 (by decide) ?_
  refine lv_istore hx hb d_Bytes_putBoth_1 hl (by decide) rfl (fun ls hl => ?_)
  have hl : lv_has ls 5 [(4, .int 0), (0, .ref h0), (1, .int x), (2, .int y), (3, .int 4)] := hl
  refine lv_iload hx hb d_Bytes_putBoth_3 (lv_at hl 0 rfl) ?_
  refine lv_iload_n hx hb d_Bytes_putBoth_5 rfl (lv_at hl 4 rfl) ?_
  refine lv_icmp_ge (tgt := 51) hx hb d_Bytes_putBoth_6 (by decide) (fun h_9 => absurd h_9 (by decide)) (fun _ => ?_)
  refine lv_aload_n hx hb d_Bytes_putBoth_9 rfl (lv_at hl 1 rfl) ?_
  refine lv_iload_n hx hb d_Bytes_putBoth_10 rfl (lv_at hl 2 rfl) ?_
  refine lv_iload hx hb d_Bytes_putBoth_11 (lv_at hl 0 rfl) ?_
  refine lv_iadd hx hb d_Bytes_putBoth_13 ?_
  refine lv_topi (fun v1 e_v1 => ?_)
  have t_v1 : v1.toInt = x.toInt + 0 := by rw [e_v1]; exact i_add rfl (by decide) (by omega) (by omega)
  refine lv_iload_n hx hb d_Bytes_putBoth_14 rfl (lv_at hl 3 rfl) ?_
  refine lv_bipush (v := 8) hx hb d_Bytes_putBoth_15 (by decide) ?_
  refine lv_iload hx hb d_Bytes_putBoth_17 (lv_at hl 0 rfl) ?_
  refine lv_imul hx hb d_Bytes_putBoth_19 ?_
  refine W.eq (g2 := F0 m 20 ls [.int 0, .int y, .int v1, .ref h0]) (by rw [show ((8 : Int32) * 0) = 0 from by decide]) ?_
  refine lv_ishr hx hb d_Bytes_putBoth_20 ?_
  refine lv_topi (fun v2 e_v2 => ?_)
  have t_v2 : v2.toInt = y.toInt / 1 := by rw [e_v2]; exact i_shr (k := 0) rfl (by decide) (by decide)
  have hPc := hP.sub (ws' := [(h0, .inr (1, [.ref q, .int L])), (q, .inl (cB, n, .inl f))]) [0, 1] rfl
  have hDc := hD.sub (ws' := [(h0, .inr (1, [.ref q, .int L])), (q, .inl (cB, n, .inl f))]) [0, 1] (by decide +kernel) rfl
  have hFc := va_free (wc := [(h0, .inr (1, [.ref q, .int L])), (q, .inl (cB, n, .inl f))]) hD hS hA [0, 1] rfl
  have hkc : 0 ≤ 0 := by decide
  have hks : 0 ≤ 0 := by decide
  refine va_callv (va_runV (C := "DiscMaker$Bytes") (As := [.int v1, .int v2]) (rest := []) ⟨hx, hb, hml, hown, hts⟩ (c3_putF l D cB cI cJ cZ cN cF s.heap.size h0 q n L f v1 v2 (by (try dsimp only); first | assumption | omega | trivial) (by (try dsimp only); first | assumption | omega | trivial) (by (try dsimp only); first | assumption | omega | trivial)) (cwV 2 hts (lg_goodV k988 k912 k913 k119 kc_Bytes_put) rfl rfl rfl (by decide +kernel) ⟨Nat.le_of_ble_eq_true rfl, Nat.le_of_ble_eq_true rfl⟩) ⟨fun a U g mk q => by obtain ⟨q0, q1, qP, qK, qN, qD⟩ := q; exact ⟨q0, q1, qP, va_K.moved (u := U) (U := U.calling g mk a) (Vm.Alike.refl U.vm) qK, qN.calling, qD⟩, va_recv hK hP (ci := 1) (q0 := 0) rfl rfl, fun U hU hW => ⟨rfl, by rw [hU], by rw [hU]; exact hPc, va_K.moved hW.alike hK, NN.warm hW hN, hDc.weaken (fun _ _ _ _ => trivial)⟩⟩ rfl rfl hl.1 rfl (lv_room (Nat.le_of_ble_eq_true rfl)) d_Bytes_putBoth_21 ⟨hkc, hks⟩) hS (fun q _ h => hFc q h) hFc (fun u t H1 locs ht hvm hp_r3 hB hz1 hk1 hS => ?_)
  obtain ⟨g_4, rfl⟩ : ∃ z, z = u := ⟨_, rfl⟩
  obtain ⟨hP1, hD1⟩ := hB
  rw [ht] at hP1
  obtain ⟨hP, hD⟩ := va_join (wr := []) (w1 := [(h0, .inr (1, [.ref q, .int L])), (q, .inl (cB, n, .inl g_4))]) hP hD [0, 1] [] rfl rfl (by decide +kernel) (by decide +kernel) hk1 hFc hP1 hD1
  clear hPc hDc hFc hP1 hD1 hk1 hz1 hkc hks
  generalize H1 = H at hP hS ⊢
  have hP : va_P D CL [(h0, .inr (1, [.ref q, .int L])), (q, .inl (cB, n, .inl g_4))] H := hP
  have hD : va_D A [(h0, .inr (1, [.ref q, .int L])), (q, .inl (cB, n, .inl g_4))] := hD
  try dsimp only at hp_r3
  have hw_5 := hp_r3
  refine lv_aload_n hx hb d_Bytes_putBoth_24 rfl (lv_at hl 1 rfl) ?_
  refine lv_iload_n hx hb d_Bytes_putBoth_25 rfl (lv_at hl 2 rfl) ?_
  refine lv_iconst (v := 2) hx hb d_Bytes_putBoth_26 (by decide) ?_
  refine lv_iload_n hx hb d_Bytes_putBoth_27 rfl (lv_at hl 4 rfl) ?_
  refine lv_imul hx hb d_Bytes_putBoth_28 ?_
  refine W.eq (g2 := F0 m 29 ls [.int 8, .int x, .ref h0]) (by rw [show ((2 : Int32) * 4) = 8 from by decide]) ?_
  refine lv_iadd hx hb d_Bytes_putBoth_29 ?_
  refine lv_topi (fun v6 e_v6 => ?_)
  have t_v6 : v6.toInt = x.toInt + 8 := by rw [e_v6]; exact i_add rfl (by decide) (by omega) (by omega)
  refine lv_iconst (v := 1) hx hb d_Bytes_putBoth_30 (by decide) ?_
  refine lv_isub hx hb d_Bytes_putBoth_31 ?_
  refine lv_topi (fun v7 e_v7 => ?_)
  have t_v7 : v7.toInt = v6.toInt - 1 := by rw [e_v7]; exact i_sub rfl (by decide) (by omega) (by omega)
  refine lv_iload hx hb d_Bytes_putBoth_32 (lv_at hl 0 rfl) ?_
  refine lv_isub hx hb d_Bytes_putBoth_34 ?_
  refine lv_topi (fun v8 e_v8 => ?_)
  have t_v8 : v8.toInt = v7.toInt - 0 := by rw [e_v8]; exact i_sub rfl (by decide) (by omega) (by omega)
  refine lv_iload_n hx hb d_Bytes_putBoth_35 rfl (lv_at hl 3 rfl) ?_
  refine lv_bipush (v := 8) hx hb d_Bytes_putBoth_36 (by decide) ?_
  refine lv_iload hx hb d_Bytes_putBoth_38 (lv_at hl 0 rfl) ?_
  refine lv_imul hx hb d_Bytes_putBoth_40 ?_
  refine W.eq (g2 := F0 m 41 ls [.int 0, .int y, .int v8, .ref h0]) (by rw [show ((8 : Int32) * 0) = 0 from by decide]) ?_
  refine lv_ishr hx hb d_Bytes_putBoth_41 ?_
  refine lv_topi (fun v9 e_v9 => ?_)
  have t_v9 : v9.toInt = y.toInt / 1 := by rw [e_v9]; exact i_shr (k := 0) rfl (by decide) (by decide)
  have hPc := hP.sub (ws' := [(h0, .inr (1, [.ref q, .int L])), (q, .inl (cB, n, .inl g_4))]) [0, 1] rfl
  have hDc := hD.sub (ws' := [(h0, .inr (1, [.ref q, .int L])), (q, .inl (cB, n, .inl g_4))]) [0, 1] (by decide +kernel) rfl
  have hFc := va_free (wc := [(h0, .inr (1, [.ref q, .int L])), (q, .inl (cB, n, .inl g_4))]) hD hS hA [0, 1] rfl
  have hkc : 0 ≤ 0 := by decide
  have hks : 0 ≤ 0 := by decide
  refine va_callv (va_runV (C := "DiscMaker$Bytes") (As := [.int v8, .int v9]) (rest := []) ⟨hx, hb, hml, hown, hts⟩ (c3_putF l D cB cI cJ cZ cN cF H.size h0 q n L g_4 v8 v9 (by (try dsimp only); first | assumption | omega | trivial) (by (try dsimp only); first | assumption | omega | trivial) (by (try dsimp only); first | assumption | omega | trivial)) (cwV 2 hts (lg_goodV k988 k912 k913 k119 kc_Bytes_put) rfl rfl rfl (by decide +kernel) ⟨Nat.le_of_ble_eq_true rfl, Nat.le_of_ble_eq_true rfl⟩) ⟨fun a U g mk q => by obtain ⟨q0, q1, qP, qK, qN, qD⟩ := q; exact ⟨q0, q1, qP, va_K.moved (u := U) (U := U.calling g mk a) (Vm.Alike.refl U.vm) qK, qN.calling, qD⟩, va_recv hK hP (ci := 1) (q0 := 0) rfl rfl, fun U hU hW => ⟨rfl, by rw [hU], by rw [hU]; exact hPc, va_K.moved hW.alike hK, NN.warm hW hN, hDc.weaken (fun _ _ _ _ => trivial)⟩⟩ rfl rfl hl.1 rfl (lv_room (Nat.le_of_ble_eq_true rfl)) d_Bytes_putBoth_42 ⟨hkc, hks⟩) hS (fun q _ h => hFc q h) hFc (fun u t H1 locs ht hvm hp_r10 hB hz1 hk1 hS => ?_)
  obtain ⟨g_11, rfl⟩ : ∃ z, z = u := ⟨_, rfl⟩
  obtain ⟨hP1, hD1⟩ := hB
  rw [ht] at hP1
  obtain ⟨hP, hD⟩ := va_join (wr := []) (w1 := [(h0, .inr (1, [.ref q, .int L])), (q, .inl (cB, n, .inl g_11))]) hP hD [0, 1] [] rfl rfl (by decide +kernel) (by decide +kernel) hk1 hFc hP1 hD1
  clear hPc hDc hFc hP1 hD1 hk1 hz1 hkc hks
  generalize H1 = H at hP hS ⊢
  have hP : va_P D CL [(h0, .inr (1, [.ref q, .int L])), (q, .inl (cB, n, .inl g_11))] H := hP
  have hD : va_D A [(h0, .inr (1, [.ref q, .int L])), (q, .inl (cB, n, .inl g_11))] := hD
  try dsimp only at hp_r10
  have hw_12 := hp_r10
  refine lv_iinc (v := 1) hx hb d_Bytes_putBoth_45 hl (k := 0) rfl (by decide) (by decide +kernel) rfl (fun ls hl => ?_)
  have hl : lv_has ls 5 [(4, .int 1), (0, .ref h0), (1, .int x), (2, .int y), (3, .int 4)] := hl
  refine lv_goto (tgt := 3) hx hb d_Bytes_putBoth_48 (by decide) ?_
  refine lv_iload hx hb d_Bytes_putBoth_3 (lv_at hl 0 rfl) ?_
  refine lv_iload_n hx hb d_Bytes_putBoth_5 rfl (lv_at hl 4 rfl) ?_
  refine lv_icmp_ge (tgt := 51) hx hb d_Bytes_putBoth_6 (by decide) (fun h_9 => absurd h_9 (by decide)) (fun _ => ?_)
  refine lv_aload_n hx hb d_Bytes_putBoth_9 rfl (lv_at hl 1 rfl) ?_
  refine lv_iload_n hx hb d_Bytes_putBoth_10 rfl (lv_at hl 2 rfl) ?_
  refine lv_iload hx hb d_Bytes_putBoth_11 (lv_at hl 0 rfl) ?_
  refine lv_iadd hx hb d_Bytes_putBoth_13 ?_
  refine lv_topi (fun v13 e_v13 => ?_)
  have t_v13 : v13.toInt = x.toInt + 1 := by rw [e_v13]; exact i_add rfl (by decide) (by omega) (by omega)
  refine lv_iload_n hx hb d_Bytes_putBoth_14 rfl (lv_at hl 3 rfl) ?_
  refine lv_bipush (v := 8) hx hb d_Bytes_putBoth_15 (by decide) ?_
  refine lv_iload hx hb d_Bytes_putBoth_17 (lv_at hl 0 rfl) ?_
  refine lv_imul hx hb d_Bytes_putBoth_19 ?_
  refine W.eq (g2 := F0 m 20 ls [.int 8, .int y, .int v13, .ref h0]) (by rw [show ((8 : Int32) * 1) = 8 from by decide]) ?_
  refine lv_ishr hx hb d_Bytes_putBoth_20 ?_
  refine lv_topi (fun v14 e_v14 => ?_)
  have t_v14 : v14.toInt = y.toInt / 256 := by rw [e_v14]; exact i_shr (k := 8) rfl (by decide) (by decide)
  have hPc := hP.sub (ws' := [(h0, .inr (1, [.ref q, .int L])), (q, .inl (cB, n, .inl g_11))]) [0, 1] rfl
  have hDc := hD.sub (ws' := [(h0, .inr (1, [.ref q, .int L])), (q, .inl (cB, n, .inl g_11))]) [0, 1] (by decide +kernel) rfl
  have hFc := va_free (wc := [(h0, .inr (1, [.ref q, .int L])), (q, .inl (cB, n, .inl g_11))]) hD hS hA [0, 1] rfl
  have hkc : 0 ≤ 0 := by decide
  have hks : 0 ≤ 0 := by decide
  refine va_callv (va_runV (C := "DiscMaker$Bytes") (As := [.int v13, .int v14]) (rest := []) ⟨hx, hb, hml, hown, hts⟩ (c3_putF l D cB cI cJ cZ cN cF H.size h0 q n L g_11 v13 v14 (by (try dsimp only); first | assumption | omega | trivial) (by (try dsimp only); first | assumption | omega | trivial) (by (try dsimp only); first | assumption | omega | trivial)) (cwV 2 hts (lg_goodV k988 k912 k913 k119 kc_Bytes_put) rfl rfl rfl (by decide +kernel) ⟨Nat.le_of_ble_eq_true rfl, Nat.le_of_ble_eq_true rfl⟩) ⟨fun a U g mk q => by obtain ⟨q0, q1, qP, qK, qN, qD⟩ := q; exact ⟨q0, q1, qP, va_K.moved (u := U) (U := U.calling g mk a) (Vm.Alike.refl U.vm) qK, qN.calling, qD⟩, va_recv hK hP (ci := 1) (q0 := 0) rfl rfl, fun U hU hW => ⟨rfl, by rw [hU], by rw [hU]; exact hPc, va_K.moved hW.alike hK, NN.warm hW hN, hDc.weaken (fun _ _ _ _ => trivial)⟩⟩ rfl rfl hl.1 rfl (lv_room (Nat.le_of_ble_eq_true rfl)) d_Bytes_putBoth_21 ⟨hkc, hks⟩) hS (fun q _ h => hFc q h) hFc (fun u t H1 locs ht hvm hp_r15 hB hz1 hk1 hS => ?_)
  obtain ⟨g_16, rfl⟩ : ∃ z, z = u := ⟨_, rfl⟩
  obtain ⟨hP1, hD1⟩ := hB
  rw [ht] at hP1
  obtain ⟨hP, hD⟩ := va_join (wr := []) (w1 := [(h0, .inr (1, [.ref q, .int L])), (q, .inl (cB, n, .inl g_16))]) hP hD [0, 1] [] rfl rfl (by decide +kernel) (by decide +kernel) hk1 hFc hP1 hD1
  clear hPc hDc hFc hP1 hD1 hk1 hz1 hkc hks
  generalize H1 = H at hP hS ⊢
  have hP : va_P D CL [(h0, .inr (1, [.ref q, .int L])), (q, .inl (cB, n, .inl g_16))] H := hP
  have hD : va_D A [(h0, .inr (1, [.ref q, .int L])), (q, .inl (cB, n, .inl g_16))] := hD
  try dsimp only at hp_r15
  have hw_17 := hp_r15
  refine lv_aload_n hx hb d_Bytes_putBoth_24 rfl (lv_at hl 1 rfl) ?_
  refine lv_iload_n hx hb d_Bytes_putBoth_25 rfl (lv_at hl 2 rfl) ?_
  refine lv_iconst (v := 2) hx hb d_Bytes_putBoth_26 (by decide) ?_
  refine lv_iload_n hx hb d_Bytes_putBoth_27 rfl (lv_at hl 4 rfl) ?_
  refine lv_imul hx hb d_Bytes_putBoth_28 ?_
  refine W.eq (g2 := F0 m 29 ls [.int 8, .int x, .ref h0]) (by rw [show ((2 : Int32) * 4) = 8 from by decide]) ?_
  refine lv_iadd hx hb d_Bytes_putBoth_29 ?_
  refine lv_topi (fun v18 e_v18 => ?_)
  have t_v18 : v18.toInt = x.toInt + 8 := by rw [e_v18]; exact i_add rfl (by decide) (by omega) (by omega)
  refine lv_iconst (v := 1) hx hb d_Bytes_putBoth_30 (by decide) ?_
  refine lv_isub hx hb d_Bytes_putBoth_31 ?_
  refine lv_topi (fun v19 e_v19 => ?_)
  have t_v19 : v19.toInt = v18.toInt - 1 := by rw [e_v19]; exact i_sub rfl (by decide) (by omega) (by omega)
  refine lv_iload hx hb d_Bytes_putBoth_32 (lv_at hl 0 rfl) ?_
  refine lv_isub hx hb d_Bytes_putBoth_34 ?_
  refine lv_topi (fun v20 e_v20 => ?_)
  have t_v20 : v20.toInt = v19.toInt - 1 := by rw [e_v20]; exact i_sub rfl (by decide) (by omega) (by omega)
  refine lv_iload_n hx hb d_Bytes_putBoth_35 rfl (lv_at hl 3 rfl) ?_
  refine lv_bipush (v := 8) hx hb d_Bytes_putBoth_36 (by decide) ?_
  refine lv_iload hx hb d_Bytes_putBoth_38 (lv_at hl 0 rfl) ?_
  refine lv_imul hx hb d_Bytes_putBoth_40 ?_
  refine W.eq (g2 := F0 m 41 ls [.int 8, .int y, .int v20, .ref h0]) (by rw [show ((8 : Int32) * 1) = 8 from by decide]) ?_
  refine lv_ishr hx hb d_Bytes_putBoth_41 ?_
  refine lv_topi (fun v21 e_v21 => ?_)
  have t_v21 : v21.toInt = y.toInt / 256 := by rw [e_v21]; exact i_shr (k := 8) rfl (by decide) (by decide)
  have hPc := hP.sub (ws' := [(h0, .inr (1, [.ref q, .int L])), (q, .inl (cB, n, .inl g_16))]) [0, 1] rfl
  have hDc := hD.sub (ws' := [(h0, .inr (1, [.ref q, .int L])), (q, .inl (cB, n, .inl g_16))]) [0, 1] (by decide +kernel) rfl
  have hFc := va_free (wc := [(h0, .inr (1, [.ref q, .int L])), (q, .inl (cB, n, .inl g_16))]) hD hS hA [0, 1] rfl
  have hkc : 0 ≤ 0 := by decide
  have hks : 0 ≤ 0 := by decide
  refine va_callv (va_runV (C := "DiscMaker$Bytes") (As := [.int v20, .int v21]) (rest := []) ⟨hx, hb, hml, hown, hts⟩ (c3_putF l D cB cI cJ cZ cN cF H.size h0 q n L g_16 v20 v21 (by (try dsimp only); first | assumption | omega | trivial) (by (try dsimp only); first | assumption | omega | trivial) (by (try dsimp only); first | assumption | omega | trivial)) (cwV 2 hts (lg_goodV k988 k912 k913 k119 kc_Bytes_put) rfl rfl rfl (by decide +kernel) ⟨Nat.le_of_ble_eq_true rfl, Nat.le_of_ble_eq_true rfl⟩) ⟨fun a U g mk q => by obtain ⟨q0, q1, qP, qK, qN, qD⟩ := q; exact ⟨q0, q1, qP, va_K.moved (u := U) (U := U.calling g mk a) (Vm.Alike.refl U.vm) qK, qN.calling, qD⟩, va_recv hK hP (ci := 1) (q0 := 0) rfl rfl, fun U hU hW => ⟨rfl, by rw [hU], by rw [hU]; exact hPc, va_K.moved hW.alike hK, NN.warm hW hN, hDc.weaken (fun _ _ _ _ => trivial)⟩⟩ rfl rfl hl.1 rfl (lv_room (Nat.le_of_ble_eq_true rfl)) d_Bytes_putBoth_42 ⟨hkc, hks⟩) hS (fun q _ h => hFc q h) hFc (fun u t H1 locs ht hvm hp_r22 hB hz1 hk1 hS => ?_)
  obtain ⟨g_23, rfl⟩ : ∃ z, z = u := ⟨_, rfl⟩
  obtain ⟨hP1, hD1⟩ := hB
  rw [ht] at hP1
  obtain ⟨hP, hD⟩ := va_join (wr := []) (w1 := [(h0, .inr (1, [.ref q, .int L])), (q, .inl (cB, n, .inl g_23))]) hP hD [0, 1] [] rfl rfl (by decide +kernel) (by decide +kernel) hk1 hFc hP1 hD1
  clear hPc hDc hFc hP1 hD1 hk1 hz1 hkc hks
  generalize H1 = H at hP hS ⊢
  have hP : va_P D CL [(h0, .inr (1, [.ref q, .int L])), (q, .inl (cB, n, .inl g_23))] H := hP
  have hD : va_D A [(h0, .inr (1, [.ref q, .int L])), (q, .inl (cB, n, .inl g_23))] := hD
  try dsimp only at hp_r22
  have hw_24 := hp_r22
  refine lv_iinc (v := 2) hx hb d_Bytes_putBoth_45 hl (k := 0) rfl (by decide) (by decide +kernel) rfl (fun ls hl => ?_)
  have hl : lv_has ls 5 [(4, .int 2), (0, .ref h0), (1, .int x), (2, .int y), (3, .int 4)] := hl
  refine lv_goto (tgt := 3) hx hb d_Bytes_putBoth_48 (by decide) ?_
  refine lv_iload hx hb d_Bytes_putBoth_3 (lv_at hl 0 rfl) ?_
  refine lv_iload_n hx hb d_Bytes_putBoth_5 rfl (lv_at hl 4 rfl) ?_
  refine lv_icmp_ge (tgt := 51) hx hb d_Bytes_putBoth_6 (by decide) (fun h_9 => absurd h_9 (by decide)) (fun _ => ?_)
  refine lv_aload_n hx hb d_Bytes_putBoth_9 rfl (lv_at hl 1 rfl) ?_
  refine lv_iload_n hx hb d_Bytes_putBoth_10 rfl (lv_at hl 2 rfl) ?_
  refine lv_iload hx hb d_Bytes_putBoth_11 (lv_at hl 0 rfl) ?_
  refine lv_iadd hx hb d_Bytes_putBoth_13 ?_
  refine lv_topi (fun v25 e_v25 => ?_)
  have t_v25 : v25.toInt = x.toInt + 2 := by rw [e_v25]; exact i_add rfl (by decide) (by omega) (by omega)
  refine lv_iload_n hx hb d_Bytes_putBoth_14 rfl (lv_at hl 3 rfl) ?_
  refine lv_bipush (v := 8) hx hb d_Bytes_putBoth_15 (by decide) ?_
  refine lv_iload hx hb d_Bytes_putBoth_17 (lv_at hl 0 rfl) ?_
  refine lv_imul hx hb d_Bytes_putBoth_19 ?_
  refine W.eq (g2 := F0 m 20 ls [.int 16, .int y, .int v25, .ref h0]) (by rw [show ((8 : Int32) * 2) = 16 from by decide]) ?_
  refine lv_ishr hx hb d_Bytes_putBoth_20 ?_
  refine lv_topi (fun v26 e_v26 => ?_)
  have t_v26 : v26.toInt = y.toInt / 65536 := by rw [e_v26]; exact i_shr (k := 16) rfl (by decide) (by decide)
  have hPc := hP.sub (ws' := [(h0, .inr (1, [.ref q, .int L])), (q, .inl (cB, n, .inl g_23))]) [0, 1] rfl
  have hDc := hD.sub (ws' := [(h0, .inr (1, [.ref q, .int L])), (q, .inl (cB, n, .inl g_23))]) [0, 1] (by decide +kernel) rfl
  have hFc := va_free (wc := [(h0, .inr (1, [.ref q, .int L])), (q, .inl (cB, n, .inl g_23))]) hD hS hA [0, 1] rfl
  have hkc : 0 ≤ 0 := by decide
  have hks : 0 ≤ 0 := by decide
  refine va_callv (va_runV (C := "DiscMaker$Bytes") (As := [.int v25, .int v26]) (rest := []) ⟨hx, hb, hml, hown, hts⟩ (c3_putF l D cB cI cJ cZ cN cF H.size h0 q n L g_23 v25 v26 (by (try dsimp only); first | assumption | omega | trivial) (by (try dsimp only); first | assumption | omega | trivial) (by (try dsimp only); first | assumption | omega | trivial)) (cwV 2 hts (lg_goodV k988 k912 k913 k119 kc_Bytes_put) rfl rfl rfl (by decide +kernel) ⟨Nat.le_of_ble_eq_true rfl, Nat.le_of_ble_eq_true rfl⟩) ⟨fun a U g mk q => by obtain ⟨q0, q1, qP, qK, qN, qD⟩ := q; exact ⟨q0, q1, qP, va_K.moved (u := U) (U := U.calling g mk a) (Vm.Alike.refl U.vm) qK, qN.calling, qD⟩, va_recv hK hP (ci := 1) (q0 := 0) rfl rfl, fun U hU hW => ⟨rfl, by rw [hU], by rw [hU]; exact hPc, va_K.moved hW.alike hK, NN.warm hW hN, hDc.weaken (fun _ _ _ _ => trivial)⟩⟩ rfl rfl hl.1 rfl (lv_room (Nat.le_of_ble_eq_true rfl)) d_Bytes_putBoth_21 ⟨hkc, hks⟩) hS (fun q _ h => hFc q h) hFc (fun u t H1 locs ht hvm hp_r27 hB hz1 hk1 hS => ?_)
  obtain ⟨g_28, rfl⟩ : ∃ z, z = u := ⟨_, rfl⟩
  obtain ⟨hP1, hD1⟩ := hB
  rw [ht] at hP1
  obtain ⟨hP, hD⟩ := va_join (wr := []) (w1 := [(h0, .inr (1, [.ref q, .int L])), (q, .inl (cB, n, .inl g_28))]) hP hD [0, 1] [] rfl rfl (by decide +kernel) (by decide +kernel) hk1 hFc hP1 hD1
  clear hPc hDc hFc hP1 hD1 hk1 hz1 hkc hks
  generalize H1 = H at hP hS ⊢
  have hP : va_P D CL [(h0, .inr (1, [.ref q, .int L])), (q, .inl (cB, n, .inl g_28))] H := hP
  have hD : va_D A [(h0, .inr (1, [.ref q, .int L])), (q, .inl (cB, n, .inl g_28))] := hD
  try dsimp only at hp_r27
  have hw_29 := hp_r27
  refine lv_aload_n hx hb d_Bytes_putBoth_24 rfl (lv_at hl 1 rfl) ?_
  refine lv_iload_n hx hb d_Bytes_putBoth_25 rfl (lv_at hl 2 rfl) ?_
  refine lv_iconst (v := 2) hx hb d_Bytes_putBoth_26 (by decide) ?_
  refine lv_iload_n hx hb d_Bytes_putBoth_27 rfl (lv_at hl 4 rfl) ?_
  refine lv_imul hx hb d_Bytes_putBoth_28 ?_
  refine W.eq (g2 := F0 m 29 ls [.int 8, .int x, .ref h0]) (by rw [show ((2 : Int32) * 4) = 8 from by decide]) ?_
  refine lv_iadd hx hb d_Bytes_putBoth_29 ?_
  refine lv_topi (fun v30 e_v30 => ?_)
  have t_v30 : v30.toInt = x.toInt + 8 := by rw [e_v30]; exact i_add rfl (by decide) (by omega) (by omega)
  refine lv_iconst (v := 1) hx hb d_Bytes_putBoth_30 (by decide) ?_
  refine lv_isub hx hb d_Bytes_putBoth_31 ?_
  refine lv_topi (fun v31 e_v31 => ?_)
  have t_v31 : v31.toInt = v30.toInt - 1 := by rw [e_v31]; exact i_sub rfl (by decide) (by omega) (by omega)
  refine lv_iload hx hb d_Bytes_putBoth_32 (lv_at hl 0 rfl) ?_
  refine lv_isub hx hb d_Bytes_putBoth_34 ?_
  refine lv_topi (fun v32 e_v32 => ?_)
  have t_v32 : v32.toInt = v31.toInt - 2 := by rw [e_v32]; exact i_sub rfl (by decide) (by omega) (by omega)
  refine lv_iload_n hx hb d_Bytes_putBoth_35 rfl (lv_at hl 3 rfl) ?_
  refine lv_bipush (v := 8) hx hb d_Bytes_putBoth_36 (by decide) ?_
  refine lv_iload hx hb d_Bytes_putBoth_38 (lv_at hl 0 rfl) ?_
  refine lv_imul hx hb d_Bytes_putBoth_40 ?_
  refine W.eq (g2 := F0 m 41 ls [.int 16, .int y, .int v32, .ref h0]) (by rw [show ((8 : Int32) * 2) = 16 from by decide]) ?_
  refine lv_ishr hx hb d_Bytes_putBoth_41 ?_
  refine lv_topi (fun v33 e_v33 => ?_)
  have t_v33 : v33.toInt = y.toInt / 65536 := by rw [e_v33]; exact i_shr (k := 16) rfl (by decide) (by decide)
  have hPc := hP.sub (ws' := [(h0, .inr (1, [.ref q, .int L])), (q, .inl (cB, n, .inl g_28))]) [0, 1] rfl
  have hDc := hD.sub (ws' := [(h0, .inr (1, [.ref q, .int L])), (q, .inl (cB, n, .inl g_28))]) [0, 1] (by decide +kernel) rfl
  have hFc := va_free (wc := [(h0, .inr (1, [.ref q, .int L])), (q, .inl (cB, n, .inl g_28))]) hD hS hA [0, 1] rfl
  have hkc : 0 ≤ 0 := by decide
  have hks : 0 ≤ 0 := by decide
  refine va_callv (va_runV (C := "DiscMaker$Bytes") (As := [.int v32, .int v33]) (rest := []) ⟨hx, hb, hml, hown, hts⟩ (c3_putF l D cB cI cJ cZ cN cF H.size h0 q n L g_28 v32 v33 (by (try dsimp only); first | assumption | omega | trivial) (by (try dsimp only); first | assumption | omega | trivial) (by (try dsimp only); first | assumption | omega | trivial)) (cwV 2 hts (lg_goodV k988 k912 k913 k119 kc_Bytes_put) rfl rfl rfl (by decide +kernel) ⟨Nat.le_of_ble_eq_true rfl, Nat.le_of_ble_eq_true rfl⟩) ⟨fun a U g mk q => by obtain ⟨q0, q1, qP, qK, qN, qD⟩ := q; exact ⟨q0, q1, qP, va_K.moved (u := U) (U := U.calling g mk a) (Vm.Alike.refl U.vm) qK, qN.calling, qD⟩, va_recv hK hP (ci := 1) (q0 := 0) rfl rfl, fun U hU hW => ⟨rfl, by rw [hU], by rw [hU]; exact hPc, va_K.moved hW.alike hK, NN.warm hW hN, hDc.weaken (fun _ _ _ _ => trivial)⟩⟩ rfl rfl hl.1 rfl (lv_room (Nat.le_of_ble_eq_true rfl)) d_Bytes_putBoth_42 ⟨hkc, hks⟩) hS (fun q _ h => hFc q h) hFc (fun u t H1 locs ht hvm hp_r34 hB hz1 hk1 hS => ?_)
  obtain ⟨g_35, rfl⟩ : ∃ z, z = u := ⟨_, rfl⟩
  obtain ⟨hP1, hD1⟩ := hB
  rw [ht] at hP1
  obtain ⟨hP, hD⟩ := va_join (wr := []) (w1 := [(h0, .inr (1, [.ref q, .int L])), (q, .inl (cB, n, .inl g_35))]) hP hD [0, 1] [] rfl rfl (by decide +kernel) (by decide +kernel) hk1 hFc hP1 hD1
  clear hPc hDc hFc hP1 hD1 hk1 hz1 hkc hks
  generalize H1 = H at hP hS ⊢
  have hP : va_P D CL [(h0, .inr (1, [.ref q, .int L])), (q, .inl (cB, n, .inl g_35))] H := hP
  have hD : va_D A [(h0, .inr (1, [.ref q, .int L])), (q, .inl (cB, n, .inl g_35))] := hD
  try dsimp only at hp_r34
  have hw_36 := hp_r34
  refine lv_iinc (v := 3) hx hb d_Bytes_putBoth_45 hl (k := 0) rfl (by decide) (by decide +kernel) rfl (fun ls hl => ?_)
  have hl : lv_has ls 5 [(4, .int 3), (0, .ref h0), (1, .int x), (2, .int y), (3, .int 4)] := hl
  refine lv_goto (tgt := 3) hx hb d_Bytes_putBoth_48 (by decide) ?_
  refine lv_iload hx hb d_Bytes_putBoth_3 (lv_at hl 0 rfl) ?_
  refine lv_iload_n hx hb d_Bytes_putBoth_5 rfl (lv_at hl 4 rfl) ?_
  refine lv_icmp_ge (tgt := 51) hx hb d_Bytes_putBoth_6 (by decide) (fun h_9 => absurd h_9 (by decide)) (fun _ => ?_)
  refine lv_aload_n hx hb d_Bytes_putBoth_9 rfl (lv_at hl 1 rfl) ?_
  refine lv_iload_n hx hb d_Bytes_putBoth_10 rfl (lv_at hl 2 rfl) ?_
  refine lv_iload hx hb d_Bytes_putBoth_11 (lv_at hl 0 rfl) ?_
  refine lv_iadd hx hb d_Bytes_putBoth_13 ?_
  refine lv_topi (fun v37 e_v37 => ?_)
  have t_v37 : v37.toInt = x.toInt + 3 := by rw [e_v37]; exact i_add rfl (by decide) (by omega) (by omega)
  refine lv_iload_n hx hb d_Bytes_putBoth_14 rfl (lv_at hl 3 rfl) ?_
  refine lv_bipush (v := 8) hx hb d_Bytes_putBoth_15 (by decide) ?_
  refine lv_iload hx hb d_Bytes_putBoth_17 (lv_at hl 0 rfl) ?_
  refine lv_imul hx hb d_Bytes_putBoth_19 ?_
  refine W.eq (g2 := F0 m 20 ls [.int 24, .int y, .int v37, .ref h0]) (by rw [show ((8 : Int32) * 3) = 24 from by decide]) ?_
  refine lv_ishr hx hb d_Bytes_putBoth_20 ?_
  refine lv_topi (fun v38 e_v38 => ?_)
  have t_v38 : v38.toInt = y.toInt / 16777216 := by rw [e_v38]; exact i_shr (k := 24) rfl (by decide) (by decide)
  have hPc := hP.sub (ws' := [(h0, .inr (1, [.ref q, .int L])), (q, .inl (cB, n, .inl g_35))]) [0, 1] rfl
  have hDc := hD.sub (ws' := [(h0, .inr (1, [.ref q, .int L])), (q, .inl (cB, n, .inl g_35))]) [0, 1] (by decide +kernel) rfl
  have hFc := va_free (wc := [(h0, .inr (1, [.ref q, .int L])), (q, .inl (cB, n, .inl g_35))]) hD hS hA [0, 1] rfl
  have hkc : 0 ≤ 0 := by decide
  have hks : 0 ≤ 0 := by decide
  refine va_callv (va_runV (C := "DiscMaker$Bytes") (As := [.int v37, .int v38]) (rest := []) ⟨hx, hb, hml, hown, hts⟩ (c3_putF l D cB cI cJ cZ cN cF H.size h0 q n L g_35 v37 v38 (by (try dsimp only); first | assumption | omega | trivial) (by (try dsimp only); first | assumption | omega | trivial) (by (try dsimp only); first | assumption | omega | trivial)) (cwV 2 hts (lg_goodV k988 k912 k913 k119 kc_Bytes_put) rfl rfl rfl (by decide +kernel) ⟨Nat.le_of_ble_eq_true rfl, Nat.le_of_ble_eq_true rfl⟩) ⟨fun a U g mk q => by obtain ⟨q0, q1, qP, qK, qN, qD⟩ := q; exact ⟨q0, q1, qP, va_K.moved (u := U) (U := U.calling g mk a) (Vm.Alike.refl U.vm) qK, qN.calling, qD⟩, va_recv hK hP (ci := 1) (q0 := 0) rfl rfl, fun U hU hW => ⟨rfl, by rw [hU], by rw [hU]; exact hPc, va_K.moved hW.alike hK, NN.warm hW hN, hDc.weaken (fun _ _ _ _ => trivial)⟩⟩ rfl rfl hl.1 rfl (lv_room (Nat.le_of_ble_eq_true rfl)) d_Bytes_putBoth_21 ⟨hkc, hks⟩) hS (fun q _ h => hFc q h) hFc (fun u t H1 locs ht hvm hp_r39 hB hz1 hk1 hS => ?_)
  obtain ⟨g_40, rfl⟩ : ∃ z, z = u := ⟨_, rfl⟩
  obtain ⟨hP1, hD1⟩ := hB
  rw [ht] at hP1
  obtain ⟨hP, hD⟩ := va_join (wr := []) (w1 := [(h0, .inr (1, [.ref q, .int L])), (q, .inl (cB, n, .inl g_40))]) hP hD [0, 1] [] rfl rfl (by decide +kernel) (by decide +kernel) hk1 hFc hP1 hD1
  clear hPc hDc hFc hP1 hD1 hk1 hz1 hkc hks
  generalize H1 = H at hP hS ⊢
  have hP : va_P D CL [(h0, .inr (1, [.ref q, .int L])), (q, .inl (cB, n, .inl g_40))] H := hP
  have hD : va_D A [(h0, .inr (1, [.ref q, .int L])), (q, .inl (cB, n, .inl g_40))] := hD
  try dsimp only at hp_r39
  have hw_41 := hp_r39
  refine lv_aload_n hx hb d_Bytes_putBoth_24 rfl (lv_at hl 1 rfl) ?_
  refine lv_iload_n hx hb d_Bytes_putBoth_25 rfl (lv_at hl 2 rfl) ?_
  refine lv_iconst (v := 2) hx hb d_Bytes_putBoth_26 (by decide) ?_
  refine lv_iload_n hx hb d_Bytes_putBoth_27 rfl (lv_at hl 4 rfl) ?_
  refine lv_imul hx hb d_Bytes_putBoth_28 ?_
  refine W.eq (g2 := F0 m 29 ls [.int 8, .int x, .ref h0]) (by rw [show ((2 : Int32) * 4) = 8 from by decide]) ?_
  refine lv_iadd hx hb d_Bytes_putBoth_29 ?_
  refine lv_topi (fun v42 e_v42 => ?_)
  have t_v42 : v42.toInt = x.toInt + 8 := by rw [e_v42]; exact i_add rfl (by decide) (by omega) (by omega)
  refine lv_iconst (v := 1) hx hb d_Bytes_putBoth_30 (by decide) ?_
  refine lv_isub hx hb d_Bytes_putBoth_31 ?_
  refine lv_topi (fun v43 e_v43 => ?_)
  have t_v43 : v43.toInt = v42.toInt - 1 := by rw [e_v43]; exact i_sub rfl (by decide) (by omega) (by omega)
  refine lv_iload hx hb d_Bytes_putBoth_32 (lv_at hl 0 rfl) ?_
  refine lv_isub hx hb d_Bytes_putBoth_34 ?_
  refine lv_topi (fun v44 e_v44 => ?_)
  have t_v44 : v44.toInt = v43.toInt - 3 := by rw [e_v44]; exact i_sub rfl (by decide) (by omega) (by omega)
  refine lv_iload_n hx hb d_Bytes_putBoth_35 rfl (lv_at hl 3 rfl) ?_
  refine lv_bipush (v := 8) hx hb d_Bytes_putBoth_36 (by decide) ?_
  refine lv_iload hx hb d_Bytes_putBoth_38 (lv_at hl 0 rfl) ?_
  refine lv_imul hx hb d_Bytes_putBoth_40 ?_
  refine W.eq (g2 := F0 m 41 ls [.int 24, .int y, .int v44, .ref h0]) (by rw [show ((8 : Int32) * 3) = 24 from by decide]) ?_
  refine lv_ishr hx hb d_Bytes_putBoth_41 ?_
  refine lv_topi (fun v45 e_v45 => ?_)
  have t_v45 : v45.toInt = y.toInt / 16777216 := by rw [e_v45]; exact i_shr (k := 24) rfl (by decide) (by decide)
  have hPc := hP.sub (ws' := [(h0, .inr (1, [.ref q, .int L])), (q, .inl (cB, n, .inl g_40))]) [0, 1] rfl
  have hDc := hD.sub (ws' := [(h0, .inr (1, [.ref q, .int L])), (q, .inl (cB, n, .inl g_40))]) [0, 1] (by decide +kernel) rfl
  have hFc := va_free (wc := [(h0, .inr (1, [.ref q, .int L])), (q, .inl (cB, n, .inl g_40))]) hD hS hA [0, 1] rfl
  have hkc : 0 ≤ 0 := by decide
  have hks : 0 ≤ 0 := by decide
  refine va_callv (va_runV (C := "DiscMaker$Bytes") (As := [.int v44, .int v45]) (rest := []) ⟨hx, hb, hml, hown, hts⟩ (c3_putF l D cB cI cJ cZ cN cF H.size h0 q n L g_40 v44 v45 (by (try dsimp only); first | assumption | omega | trivial) (by (try dsimp only); first | assumption | omega | trivial) (by (try dsimp only); first | assumption | omega | trivial)) (cwV 2 hts (lg_goodV k988 k912 k913 k119 kc_Bytes_put) rfl rfl rfl (by decide +kernel) ⟨Nat.le_of_ble_eq_true rfl, Nat.le_of_ble_eq_true rfl⟩) ⟨fun a U g mk q => by obtain ⟨q0, q1, qP, qK, qN, qD⟩ := q; exact ⟨q0, q1, qP, va_K.moved (u := U) (U := U.calling g mk a) (Vm.Alike.refl U.vm) qK, qN.calling, qD⟩, va_recv hK hP (ci := 1) (q0 := 0) rfl rfl, fun U hU hW => ⟨rfl, by rw [hU], by rw [hU]; exact hPc, va_K.moved hW.alike hK, NN.warm hW hN, hDc.weaken (fun _ _ _ _ => trivial)⟩⟩ rfl rfl hl.1 rfl (lv_room (Nat.le_of_ble_eq_true rfl)) d_Bytes_putBoth_42 ⟨hkc, hks⟩) hS (fun q _ h => hFc q h) hFc (fun u t H1 locs ht hvm hp_r46 hB hz1 hk1 hS => ?_)
  obtain ⟨g_47, rfl⟩ : ∃ z, z = u := ⟨_, rfl⟩
  obtain ⟨hP1, hD1⟩ := hB
  rw [ht] at hP1
  obtain ⟨hP, hD⟩ := va_join (wr := []) (w1 := [(h0, .inr (1, [.ref q, .int L])), (q, .inl (cB, n, .inl g_47))]) hP hD [0, 1] [] rfl rfl (by decide +kernel) (by decide +kernel) hk1 hFc hP1 hD1
  clear hPc hDc hFc hP1 hD1 hk1 hz1 hkc hks
  generalize H1 = H at hP hS ⊢
  have hP : va_P D CL [(h0, .inr (1, [.ref q, .int L])), (q, .inl (cB, n, .inl g_47))] H := hP
  have hD : va_D A [(h0, .inr (1, [.ref q, .int L])), (q, .inl (cB, n, .inl g_47))] := hD
  try dsimp only at hp_r46
  have hw_48 := hp_r46
  refine lv_iinc (v := 4) hx hb d_Bytes_putBoth_45 hl (k := 0) rfl (by decide) (by decide +kernel) rfl (fun ls hl => ?_)
  have hl : lv_has ls 5 [(4, .int 4), (0, .ref h0), (1, .int x), (2, .int y), (3, .int 4)] := hl
  refine lv_goto (tgt := 3) hx hb d_Bytes_putBoth_48 (by decide) ?_
  refine lv_iload hx hb d_Bytes_putBoth_3 (lv_at hl 0 rfl) ?_
  refine lv_iload_n hx hb d_Bytes_putBoth_5 rfl (lv_at hl 4 rfl) ?_
  refine lv_icmp_ge (tgt := 51) hx hb d_Bytes_putBoth_6 (by decide) (fun _ => ?_) (fun h_9 => absurd (by decide) h_9)
  have hP9 := hP.sub (ws' := [(h0, .inr (1, [.ref q, .int L])), (q, .inl (cB, n, .inl g_47))]) [0, 1] rfl
  have hD9 := hD.sub (ws' := [(h0, .inr (1, [.ref q, .int L])), (q, .inl (cB, n, .inl g_47))]) [0, 1] (by decide +kernel) rfl
  exact W.vret hx hb hr (fun t ht hW => ⟨⟨g_47, rfl, (BL_Bl (ch_b4 (c := fun i => (bL4 y.toInt).getD i 0) hw_5 hw_12 hw_17 hw_24 hw_29 hw_36 hw_41 hw_48 (by omega) (by omega) (by omega) (by omega) (by omega) (by omega) (by omega) (by omega) (by show v2.toInt % 256 = y.toInt % 256; omega) (by show v9.toInt % 256 = y.toInt % 256; omega) (by show v14.toInt % 256 = y.toInt / 256 % 256; omega) (by show v21.toInt % 256 = y.toInt / 256 % 256; omega) (by show v26.toInt % 256 = y.toInt / 65536 % 256; omega) (by show v33.toInt % 256 = y.toInt / 65536 % 256; omega) (by show v38.toInt % 256 = y.toInt / 16777216 % 256; omega) (by show v45.toInt % 256 = y.toInt / 16777216 % 256; omega)) rfl), by rw [ht]; exact hP9, hD9⟩, hS.F ht⟩) hS.2.2 d_Bytes_putBoth_51

set_option maxHeartbeats 4000000 in
set_option maxRecDepth 100000 in
theorem c3_putBoth2F (l : Launch) (D : va_G) (cB cI cJ cZ cN cF : ClassId) (sz : Nat) (h0 : Nat) (q : Nat) (n : Nat) (L : Int32) (f : Nat → Int32) (x : Int32) (y : Int32) (hL : 0 ≤ L.toInt ∧ L.toInt ≤ n) (hn : n ≤ 3000000) (hin : 0 ≤ x.toInt ∧ x.toInt + 4 ≤ L.toInt) : Met l y_Bytes_putBoth w_Bytes_putBoth ({ frames := 1, cells := 0, slots := 0, locals := 28 }) (va_Pc [.ref h0, .int x, .int y, .int 2] (fun U => U.heap.size = sz ∧ va_P D CL [(h0, .inr (1, [.ref q, .int L])), (q, .inl (cB, n, .inl f))] U.heap ∧ va_K D CL (TY cB cI cJ cZ cN cF) U ∧ NN U ∧ va_D (fun _ => True) [(h0, .inr (1, [.ref q, .int L])), (q, .inl (cB, n, .inl f))])) (va_Qv (fun (u : (Nat → Int32)) => match u with | g => (BL (imC f) (imC g) x.toInt (bL2 y.toInt))) (fun (u : (Nat → Int32)) (t : State) => match u with | g => va_P D CL [(h0, .inr (1, [.ref q, .int L])), (q, .inl (cB, n, .inl g))] t.heap ∧ va_D (va_A [(h0, .inr (1, [.ref q, .int L])), (q, .inl (cB, n, .inl f))] sz) [(h0, .inr (1, [.ref q, .int L])), (q, .inl (cB, n, .inl g))]) (va_A [(h0, .inr (1, [.ref q, .int L])), (q, .inl (cB, n, .inl f))] sz)) 0 0 (va_A [(h0, .inr (1, [.ref q, .int L])), (q, .inl (cB, n, .inl f))] sz) := by
  refine Met.ofW (cc := b_Bytes_putBoth) (maxL := 5) (ret := none) (by decide +kernel) rfl ?_
  intro p e s m args below meth c s₁ B hml hv
  obtain ⟨rfl, hsz, hP, hK, hN, hD0⟩ := hv
  have hx := B.exec
  have hb := B.bytes
  have hr := B.returns
  have hts := atoms_spec (ws := w_Bytes_putBoth) B.pre
  have ht9 := fun (w : Cond) (h : w ∈ lw_g) => hts w (List.mem_cons_of_mem _ h)
  have hown : s.vm.findClass "DiscMaker$Bytes" = some m.cls := findClass_of_methodNamed B.named
  have hlocks := B.notSynchronized
  subst hsz
  have hD := hD0.self (sz := s.heap.size)
  generalize hAe : va_A [(h0, .inr (1, [.ref q, .int L])), (q, .inl (cB, n, .inl f))] s.heap.size = A at hD ⊢
  have hA : ∀ q : Nat, s.heap.size ≤ q → A q := fun q h => by rw [← hAe]; exact Or.inr h
  have hS : va_S A s.heap s.heap [] := va_S.rf
  have hP : va_P D CL [(h0, .inr (1, [.ref q, .int L])), (q, .inl (cB, n, .inl f))] s.heap := hP
  have hl := lv_entry [.ref h0, .int x, .int y, .int 2] (n := 5) (Nat.le_of_ble_eq_true rfl)
  rw [lg_entry_eq]
  generalize (lg_sl [.ref h0, .int x, .int y, .int 2] ++ List.replicate (5 - (lg_sl [.ref h0, .int x, .int y, .int 2]).length) Slot.unset).toArray = ls at hl ⊢
  have hl : lv_has ls 5 [(0, .ref h0), (1, .int x), (2, .int y), (3, .int 2)] := hl
  have L_m1 : ((-1) : Int32).toInt = (-1) := by decide
  have L_0 : (0 : Int32).toInt = 0 := by decide
  have L_1 : (1 : Int32).toInt = 1 := by decide
  have L_2 : (2 : Int32).toInt = 2 := by decide
  have L_3 : (3 : Int32).toInt = 3 := by decide
  have L_4 : (4 : Int32).toInt = 4 := by decide
  have L_7 : (7 : Int32).toInt = 7 := by decide
  have L_8 : (8 : Int32).toInt = 8 := by decide
  have L_16 : (16 : Int32).toInt = 16 := by decide
  have L_24 : (24 : Int32).toInt = 24 := by decide
  refine lv_iconst (v := 0) hx hb d_Bytes_putBoth_0 (by decide) ?_
  refine lv_istore hx hb d_Bytes_putBoth_1 hl (by decide) rfl (fun ls hl => ?_)
  have hl : lv_has ls 5 [(4, .int 0), (0, .ref h0), (1, .int x), (2, .int y), (3, .int 2)] := hl
  refine lv_iload hx hb d_Bytes_putBoth_3 (lv_at hl 0 rfl) ?_
  refine lv_iload_n hx hb d_Bytes_putBoth_5 rfl (lv_at hl 4 rfl) ?_
  refine lv_icmp_ge (tgt := 51) hx hb d_Bytes_putBoth_6 (by decide) (fun h_9 => absurd h_9 (by decide)) (fun _ => ?_)
  refine lv_aload_n hx hb d_Bytes_putBoth_9 rfl (lv_at hl 1 rfl) ?_
  refine lv_iload_n hx hb d_Bytes_putBoth_10 rfl (lv_at hl 2 rfl) ?_
  refine lv_iload hx hb d_Bytes_putBoth_11 (lv_at hl 0 rfl) ?_
  refine lv_iadd hx hb d_Bytes_putBoth_13 ?_
  refine lv_topi (fun v1 e_v1 => ?_)
  have t_v1 : v1.toInt = x.toInt + 0 := by rw [e_v1]; exact i_add rfl (by decide) (by omega) (by omega)
  refine lv_iload_n hx hb d_Bytes_putBoth_14 rfl (lv_at hl 3 rfl) ?_
  refine lv_bipush (v := 8) hx hb d_Bytes_putBoth_15 (by decide) ?_
  refine lv_iload hx hb d_Bytes_putBoth_17 (lv_at hl 0 rfl) ?_
  refine lv_imul hx hb d_Bytes_putBoth_19 ?_
  refine W.eq (g2 := F0 m 20 ls [.int 0, .int y, .int v1, .ref h0]) (by rw [show ((8 : Int32) * 0) = 0 from by decide]) ?_
  refine lv_ishr hx hb d_Bytes_putBoth_20 ?_
  refine lv_topi (fun v2 e_v2 => ?_)
  have t_v2 : v2.toInt = y.toInt / 1 := by rw [e_v2]; exact i_shr (k := 0) rfl (by decide) (by decide)
  have hPc := hP.sub (ws' := [(h0, .inr (1, [.ref q, .int L])), (q, .inl (cB, n, .inl f))]) [0, 1] rfl
  have hDc := hD.sub (ws' := [(h0, .inr (1, [.ref q, .int L])), (q, .inl (cB, n, .inl f))]) [0, 1] (by decide +kernel) rfl
  have hFc := va_free (wc := [(h0, .inr (1, [.ref q, .int L])), (q, .inl (cB, n, .inl f))]) hD hS hA [0, 1] rfl
  have hkc : 0 ≤ 0 := by decide
  have hks : 0 ≤ 0 := by decide
  refine va_callv (va_runV (C := "DiscMaker$Bytes") (As := [.int v1, .int v2]) (rest := []) ⟨hx, hb, hml, hown, hts⟩ (c3_putF l D cB cI cJ cZ cN cF s.heap.size h0 q n L f v1 v2 (by (try dsimp only); first | assumption | omega | trivial) (by (try dsimp only); first | assumption | omega | trivial) (by (try dsimp only); first | assumption | omega | trivial)) (cwV 2 hts (lg_goodV k988 k912 k913 k119 kc_Bytes_put) rfl rfl rfl (by decide +kernel) ⟨Nat.le_of_ble_eq_true rfl, Nat.le_of_ble_eq_true rfl⟩) ⟨fun a U g mk q => by obtain ⟨q0, q1, qP, qK, qN, qD⟩ := q; exact ⟨q0, q1, qP, va_K.moved (u := U) (U := U.calling g mk a) (Vm.Alike.refl U.vm) qK, qN.calling, qD⟩, va_recv hK hP (ci := 1) (q0 := 0) rfl rfl, fun U hU hW => ⟨rfl, by rw [hU], by rw [hU]; exact hPc, va_K.moved hW.alike hK, NN.warm hW hN, hDc.weaken (fun _ _ _ _ => trivial)⟩⟩ rfl rfl hl.1 rfl (lv_room (Nat.le_of_ble_eq_true rfl)) d_Bytes_putBoth_21 ⟨hkc, hks⟩) hS (fun q _ h => hFc q h) hFc (fun u t H1 locs ht hvm hp_r3 hB hz1 hk1 hS => ?_)
  obtain ⟨g_4, rfl⟩ : ∃ z, z = u := ⟨_, rfl⟩
  obtain ⟨hP1, hD1⟩ := hB
  rw [ht] at hP1
  obtain ⟨hP, hD⟩ := va_join (wr := []) (w1 := [(h0, .inr (1, [.ref q, .int L])), (q, .inl (cB, n, .inl g_4))]) hP hD [0, 1] [] rfl rfl (by decide +kernel) (by decide +kernel) hk1 hFc hP1 hD1
  clear hPc hDc hFc hP1 hD1 hk1 hz1 hkc hks
  generalize H1 = H at hP hS ⊢
  have hP : va_P D CL [(h0, .inr (1, [.ref q, .int L])), (q, .inl (cB, n, .inl g_4))] H := hP
  have hD : va_D A [(h0, .inr (1, [.ref q, .int L])), (q, .inl (cB, n, .inl g_4))] := hD
  try dsimp only at hp_r3
  have hw_5 := hp_r3
  refine lv_aload_n hx hb d_Bytes_putBoth_24 rfl (lv_at hl 1 rfl) ?_
  refine lv_iload_n hx hb d_Bytes_putBoth_25 rfl (lv_at hl 2 rfl) ?_
  refine lv_iconst (v := 2) hx hb d_Bytes_putBoth_26 (by decide) ?_
  refine lv_iload_n hx hb d_Bytes_putBoth_27 rfl (lv_at hl 4 rfl) ?_
  refine lv_imul hx hb d_Bytes_putBoth_28 ?_
  refine W.eq (g2 := F0 m 29 ls [.int 4, .int x, .ref h0]) (by rw [show ((2 : Int32) * 2) = 4 from by decide]) ?_
  refine lv_iadd hx hb d_Bytes_putBoth_29 ?_
  refine lv_topi (fun v6 e_v6 => ?_)
  have t_v6 : v6.toInt = x.toInt + 4 := by rw [e_v6]; exact i_add rfl (by decide) (by omega) (by omega)
  refine lv_iconst (v := 1) hx hb d_Bytes_putBoth_30 (by decide) ?_
  refine lv_isub hx hb d_Bytes_putBoth_31 ?_
  refine lv_topi (fun v7 e_v7 => ?_)
  have t_v7 : v7.toInt = v6.toInt - 1 := by rw [e_v7]; exact i_sub rfl (by decide) (by omega) (by omega)
  refine lv_iload hx hb d_Bytes_putBoth_32 (lv_at hl 0 rfl) ?_
  refine lv_isub hx hb d_Bytes_putBoth_34 ?_
  refine lv_topi (fun v8 e_v8 => ?_)
  have t_v8 : v8.toInt = v7.toInt - 0 := by rw [e_v8]; exact i_sub rfl (by decide) (by omega) (by omega)
  refine lv_iload_n hx hb d_Bytes_putBoth_35 rfl (lv_at hl 3 rfl) ?_
  refine lv_bipush (v := 8) hx hb d_Bytes_putBoth_36 (by decide) ?_
  refine lv_iload hx hb d_Bytes_putBoth_38 (lv_at hl 0 rfl) ?_
  refine lv_imul hx hb d_Bytes_putBoth_40 ?_
  refine W.eq (g2 := F0 m 41 ls [.int 0, .int y, .int v8, .ref h0]) (by rw [show ((8 : Int32) * 0) = 0 from by decide]) ?_
  refine lv_ishr hx hb d_Bytes_putBoth_41 ?_
  refine lv_topi (fun v9 e_v9 => ?_)
  have t_v9 : v9.toInt = y.toInt / 1 := by rw [e_v9]; exact i_shr (k := 0) rfl (by decide) (by decide)
  have hPc := hP.sub (ws' := [(h0, .inr (1, [.ref q, .int L])), (q, .inl (cB, n, .inl g_4))]) [0, 1] rfl
  have hDc := hD.sub (ws' := [(h0, .inr (1, [.ref q, .int L])), (q, .inl (cB, n, .inl g_4))]) [0, 1] (by decide +kernel) rfl
  have hFc := va_free (wc := [(h0, .inr (1, [.ref q, .int L])), (q, .inl (cB, n, .inl g_4))]) hD hS hA [0, 1] rfl
  have hkc : 0 ≤ 0 := by decide
  have hks : 0 ≤ 0 := by decide
  refine va_callv (va_runV (C := "DiscMaker$Bytes") (As := [.int v8, .int v9]) (rest := []) ⟨hx, hb, hml, hown, hts⟩ (c3_putF l D cB cI cJ cZ cN cF H.size h0 q n L g_4 v8 v9 (by (try dsimp only); first | assumption | omega | trivial) (by (try dsimp only); first | assumption | omega | trivial) (by (try dsimp only); first | assumption | omega | trivial)) (cwV 2 hts (lg_goodV k988 k912 k913 k119 kc_Bytes_put) rfl rfl rfl (by decide +kernel) ⟨Nat.le_of_ble_eq_true rfl, Nat.le_of_ble_eq_true rfl⟩) ⟨fun a U g mk q => by obtain ⟨q0, q1, qP, qK, qN, qD⟩ := q; exact ⟨q0, q1, qP, va_K.moved (u := U) (U := U.calling g mk a) (Vm.Alike.refl U.vm) qK, qN.calling, qD⟩, va_recv hK hP (ci := 1) (q0 := 0) rfl rfl, fun U hU hW => ⟨rfl, by rw [hU], by rw [hU]; exact hPc, va_K.moved hW.alike hK, NN.warm hW hN, hDc.weaken (fun _ _ _ _ => trivial)⟩⟩ rfl rfl hl.1 rfl (lv_room (Nat.le_of_ble_eq_true rfl)) d_Bytes_putBoth_42 ⟨hkc, hks⟩) hS (fun q _ h => hFc q h) hFc (fun u t H1 locs ht hvm hp_r10 hB hz1 hk1 hS => ?_)
  obtain ⟨g_11, rfl⟩ : ∃ z, z = u := ⟨_, rfl⟩
  obtain ⟨hP1, hD1⟩ := hB
  rw [ht] at hP1
  obtain ⟨hP, hD⟩ := va_join (wr := []) (w1 := [(h0, .inr (1, [.ref q, .int L])), (q, .inl (cB, n, .inl g_11))]) hP hD [0, 1] [] rfl rfl (by decide +kernel) (by decide +kernel) hk1 hFc hP1 hD1
  clear hPc hDc hFc hP1 hD1 hk1 hz1 hkc hks
  generalize H1 = H at hP hS ⊢
  have hP : va_P D CL [(h0, .inr (1, [.ref q, .int L])), (q, .inl (cB, n, .inl g_11))] H := hP
  have hD : va_D A [(h0, .inr (1, [.ref q, .int L])), (q, .inl (cB, n, .inl g_11))] := hD
  try dsimp only at hp_r10
  have hw_12 := hp_r10
  refine lv_iinc (v := 1) hx hb d_Bytes_putBoth_45 hl (k := 0) rfl (by decide) (by decide +kernel) rfl (fun ls hl => ?_)
  have hl : lv_has ls 5 [(4, .int 1), (0, .ref h0), (1, .int x), (2, .int y), (3, .int 2)] := hl
  refine lv_goto (tgt := 3) hx hb d_Bytes_putBoth_48 (by decide) ?_
  refine lv_iload hx hb d_Bytes_putBoth_3 (lv_at hl 0 rfl) ?_
  refine lv_iload_n hx hb d_Bytes_putBoth_5 rfl (lv_at hl 4 rfl) ?_
  refine lv_icmp_ge (tgt := 51) hx hb d_Bytes_putBoth_6 (by decide) (fun h_9 => absurd h_9 (by decide)) (fun _ => ?_)
  refine lv_aload_n hx hb d_Bytes_putBoth_9 rfl (lv_at hl 1 rfl) ?_
  refine lv_iload_n hx hb d_Bytes_putBoth_10 rfl (lv_at hl 2 rfl) ?_
  refine lv_iload hx hb d_Bytes_putBoth_11 (lv_at hl 0 rfl) ?_
  refine lv_iadd hx hb d_Bytes_putBoth_13 ?_
  refine lv_topi (fun v13 e_v13 => ?_)
  have t_v13 : v13.toInt = x.toInt + 1 := by rw [e_v13]; exact i_add rfl (by decide) (by omega) (by omega)
  refine lv_iload_n hx hb d_Bytes_putBoth_14 rfl (lv_at hl 3 rfl) ?_
  refine lv_bipush (v := 8) hx hb d_Bytes_putBoth_15 (by decide) ?_
  refine lv_iload hx hb d_Bytes_putBoth_17 (lv_at hl 0 rfl) ?_
  refine lv_imul hx hb d_Bytes_putBoth_19 ?_
  refine W.eq (g2 := F0 m 20 ls [.int 8, .int y, .int v13, .ref h0]) (by rw [show ((8 : Int32) * 1) = 8 from by decide]) ?_
  refine lv_ishr hx hb d_Bytes_putBoth_20 ?_
  refine lv_topi (fun v14 e_v14 => ?_)
  have t_v14 : v14.toInt = y.toInt / 256 := by rw [e_v14]; exact i_shr (k := 8) rfl (by decide) (by decide)
  have hPc := hP.sub (ws' := [(h0, .inr (1, [.ref q, .int L])), (q, .inl (cB, n, .inl g_11))]) [0, 1] rfl
  have hDc := hD.sub (ws' := [(h0, .inr (1, [.ref q, .int L])), (q, .inl (cB, n, .inl g_11))]) [0, 1] (by decide +kernel) rfl
  have hFc := va_free (wc := [(h0, .inr (1, [.ref q, .int L])), (q, .inl (cB, n, .inl g_11))]) hD hS hA [0, 1] rfl
  have hkc : 0 ≤ 0 := by decide
  have hks : 0 ≤ 0 := by decide
  refine va_callv (va_runV (C := "DiscMaker$Bytes") (As := [.int v13, .int v14]) (rest := []) ⟨hx, hb, hml, hown, hts⟩ (c3_putF l D cB cI cJ cZ cN cF H.size h0 q n L g_11 v13 v14 (by (try dsimp only); first | assumption | omega | trivial) (by (try dsimp only); first | assumption | omega | trivial) (by (try dsimp only); first | assumption | omega | trivial)) (cwV 2 hts (lg_goodV k988 k912 k913 k119 kc_Bytes_put) rfl rfl rfl (by decide +kernel) ⟨Nat.le_of_ble_eq_true rfl, Nat.le_of_ble_eq_true rfl⟩) ⟨fun a U g mk q => by obtain ⟨q0, q1, qP, qK, qN, qD⟩ := q; exact ⟨q0, q1, qP, va_K.moved (u := U) (U := U.calling g mk a) (Vm.Alike.refl U.vm) qK, qN.calling, qD⟩, va_recv hK hP (ci := 1) (q0 := 0) rfl rfl, fun U hU hW => ⟨rfl, by rw [hU], by rw [hU]; exact hPc, va_K.moved hW.alike hK, NN.warm hW hN, hDc.weaken (fun _ _ _ _ => trivial)⟩⟩ rfl rfl hl.1 rfl (lv_room (Nat.le_of_ble_eq_true rfl)) d_Bytes_putBoth_21 ⟨hkc, hks⟩) hS (fun q _ h => hFc q h) hFc (fun u t H1 locs ht hvm hp_r15 hB hz1 hk1 hS => ?_)
  obtain ⟨g_16, rfl⟩ : ∃ z, z = u := ⟨_, rfl⟩
  obtain ⟨hP1, hD1⟩ := hB
  rw [ht] at hP1
  obtain ⟨hP, hD⟩ := va_join (wr := []) (w1 := [(h0, .inr (1, [.ref q, .int L])), (q, .inl (cB, n, .inl g_16))]) hP hD [0, 1] [] rfl rfl (by decide +kernel) (by decide +kernel) hk1 hFc hP1 hD1
  clear hPc hDc hFc hP1 hD1 hk1 hz1 hkc hks
  generalize H1 = H at hP hS ⊢
  have hP : va_P D CL [(h0, .inr (1, [.ref q, .int L])), (q, .inl (cB, n, .inl g_16))] H := hP
  have hD : va_D A [(h0, .inr (1, [.ref q, .int L])), (q, .inl (cB, n, .inl g_16))] := hD
  try dsimp only at hp_r15
  have hw_17 := hp_r15
  refine lv_aload_n hx hb d_Bytes_putBoth_24 rfl (lv_at hl 1 rfl) ?_
  refine lv_iload_n hx hb d_Bytes_putBoth_25 rfl (lv_at hl 2 rfl) ?_
  refine lv_iconst (v := 2) hx hb d_Bytes_putBoth_26 (by decide) ?_
  refine lv_iload_n hx hb d_Bytes_putBoth_27 rfl (lv_at hl 4 rfl) ?_
  refine lv_imul hx hb d_Bytes_putBoth_28 ?_
  refine W.eq (g2 := F0 m 29 ls [.int 4, .int x, .ref h0]) (by rw [show ((2 : Int32) * 2) = 4 from by decide]) ?_
  refine lv_iadd hx hb d_Bytes_putBoth_29 ?_
  refine lv_topi (fun v18 e_v18 => ?_)
  have t_v18 : v18.toInt = x.toInt + 4 := by rw [e_v18]; exact i_add rfl (by decide) (by omega) (by omega)
  refine lv_iconst (v := 1) hx hb d_Bytes_putBoth_30 (by decide) ?_
  refine lv_isub hx hb d_Bytes_putBoth_31 ?_
  refine lv_topi (fun v19 e_v19 => ?_)
  have t_v19 : v19.toInt = v18.toInt - 1 := by rw [e_v19]; exact i_sub rfl (by decide) (by omega) (by omega)
  refine lv_iload hx hb d_Bytes_putBoth_32 (lv_at hl 0 rfl) ?_
  refine lv_isub hx hb d_Bytes_putBoth_34 ?_
  refine lv_topi (fun v20 e_v20 => ?_)
  have t_v20 : v20.toInt = v19.toInt - 1 := by rw [e_v20]; exact i_sub rfl (by decide) (by omega) (by omega)
  refine lv_iload_n hx hb d_Bytes_putBoth_35 rfl (lv_at hl 3 rfl) ?_
  refine lv_bipush (v := 8) hx hb d_Bytes_putBoth_36 (by decide) ?_
  refine lv_iload hx hb d_Bytes_putBoth_38 (lv_at hl 0 rfl) ?_
  refine lv_imul hx hb d_Bytes_putBoth_40 ?_
  refine W.eq (g2 := F0 m 41 ls [.int 8, .int y, .int v20, .ref h0]) (by rw [show ((8 : Int32) * 1) = 8 from by decide]) ?_
  refine lv_ishr hx hb d_Bytes_putBoth_41 ?_
  refine lv_topi (fun v21 e_v21 => ?_)
  have t_v21 : v21.toInt = y.toInt / 256 := by rw [e_v21]; exact i_shr (k := 8) rfl (by decide) (by decide)
  have hPc := hP.sub (ws' := [(h0, .inr (1, [.ref q, .int L])), (q, .inl (cB, n, .inl g_16))]) [0, 1] rfl
  have hDc := hD.sub (ws' := [(h0, .inr (1, [.ref q, .int L])), (q, .inl (cB, n, .inl g_16))]) [0, 1] (by decide +kernel) rfl
  have hFc := va_free (wc := [(h0, .inr (1, [.ref q, .int L])), (q, .inl (cB, n, .inl g_16))]) hD hS hA [0, 1] rfl
  have hkc : 0 ≤ 0 := by decide
  have hks : 0 ≤ 0 := by decide
  refine va_callv (va_runV (C := "DiscMaker$Bytes") (As := [.int v20, .int v21]) (rest := []) ⟨hx, hb, hml, hown, hts⟩ (c3_putF l D cB cI cJ cZ cN cF H.size h0 q n L g_16 v20 v21 (by (try dsimp only); first | assumption | omega | trivial) (by (try dsimp only); first | assumption | omega | trivial) (by (try dsimp only); first | assumption | omega | trivial)) (cwV 2 hts (lg_goodV k988 k912 k913 k119 kc_Bytes_put) rfl rfl rfl (by decide +kernel) ⟨Nat.le_of_ble_eq_true rfl, Nat.le_of_ble_eq_true rfl⟩) ⟨fun a U g mk q => by obtain ⟨q0, q1, qP, qK, qN, qD⟩ := q; exact ⟨q0, q1, qP, va_K.moved (u := U) (U := U.calling g mk a) (Vm.Alike.refl U.vm) qK, qN.calling, qD⟩, va_recv hK hP (ci := 1) (q0 := 0) rfl rfl, fun U hU hW => ⟨rfl, by rw [hU], by rw [hU]; exact hPc, va_K.moved hW.alike hK, NN.warm hW hN, hDc.weaken (fun _ _ _ _ => trivial)⟩⟩ rfl rfl hl.1 rfl (lv_room (Nat.le_of_ble_eq_true rfl)) d_Bytes_putBoth_42 ⟨hkc, hks⟩) hS (fun q _ h => hFc q h) hFc (fun u t H1 locs ht hvm hp_r22 hB hz1 hk1 hS => ?_)
  obtain ⟨g_23, rfl⟩ : ∃ z, z = u := ⟨_, rfl⟩
  obtain ⟨hP1, hD1⟩ := hB
  rw [ht] at hP1
  obtain ⟨hP, hD⟩ := va_join (wr := []) (w1 := [(h0, .inr (1, [.ref q, .int L])), (q, .inl (cB, n, .inl g_23))]) hP hD [0, 1] [] rfl rfl (by decide +kernel) (by decide +kernel) hk1 hFc hP1 hD1
  clear hPc hDc hFc hP1 hD1 hk1 hz1 hkc hks
  generalize H1 = H at hP hS ⊢
  have hP : va_P D CL [(h0, .inr (1, [.ref q, .int L])), (q, .inl (cB, n, .inl g_23))] H := hP
  have hD : va_D A [(h0, .inr (1, [.ref q, .int L])), (q, .inl (cB, n, .inl g_23))] := hD
  try dsimp only at hp_r22
  have hw_24 := hp_r22
  refine lv_iinc (v := 2) hx hb d_Bytes_putBoth_45 hl (k := 0) rfl (by decide) (by decide +kernel) rfl (fun ls hl => ?_)
  have hl : lv_has ls 5 [(4, .int 2), (0, .ref h0), (1, .int x), (2, .int y), (3, .int 2)] := hl
  refine lv_goto (tgt := 3) hx hb d_Bytes_putBoth_48 (by decide) ?_
  refine lv_iload hx hb d_Bytes_putBoth_3 (lv_at hl 0 rfl) ?_
  refine lv_iload_n hx hb d_Bytes_putBoth_5 rfl (lv_at hl 4 rfl) ?_
  refine lv_icmp_ge (tgt := 51) hx hb d_Bytes_putBoth_6 (by decide) (fun _ => ?_) (fun h_9 => absurd (by decide) h_9)
  have hP9 := hP.sub (ws' := [(h0, .inr (1, [.ref q, .int L])), (q, .inl (cB, n, .inl g_23))]) [0, 1] rfl
  have hD9 := hD.sub (ws' := [(h0, .inr (1, [.ref q, .int L])), (q, .inl (cB, n, .inl g_23))]) [0, 1] (by decide +kernel) rfl
  exact W.vret hx hb hr (fun t ht hW => ⟨⟨g_23, rfl, (BL_Bl (ch_b2 (c := fun i => (bL2 y.toInt).getD i 0) hw_5 hw_12 hw_17 hw_24 (by omega) (by omega) (by omega) (by omega) (by show v2.toInt % 256 = y.toInt % 256; omega) (by show v9.toInt % 256 = y.toInt % 256; omega) (by show v14.toInt % 256 = y.toInt / 256 % 256; omega) (by show v21.toInt % 256 = y.toInt / 256 % 256; omega)) rfl), by rw [ht]; exact hP9, hD9⟩, hS.F ht⟩) hS.2.2 d_Bytes_putBoth_51

set_option maxHeartbeats 4000000 in
set_option maxRecDepth 100000 in
theorem c3_putLow4F (l : Launch) (D : va_G) (cB cI cJ cZ cN cF : ClassId) (sz : Nat) (h0 : Nat) (q : Nat) (n : Nat) (L : Int32) (f : Nat → Int32) (x : Int32) (y : Int32) (hL : 0 ≤ L.toInt ∧ L.toInt ≤ n) (hn : n ≤ 3000000) (hin : 0 ≤ x.toInt ∧ x.toInt + 4 ≤ L.toInt) : Met l y_Bytes_putLow w_Bytes_putLow ({ frames := 1, cells := 0, slots := 0, locals := 28 }) (va_Pc [.ref h0, .int x, .int y, .int 4] (fun U => U.heap.size = sz ∧ va_P D CL [(h0, .inr (1, [.ref q, .int L])), (q, .inl (cB, n, .inl f))] U.heap ∧ va_K D CL (TY cB cI cJ cZ cN cF) U ∧ NN U ∧ va_D (fun _ => True) [(h0, .inr (1, [.ref q, .int L])), (q, .inl (cB, n, .inl f))])) (va_Qv (fun (u : (Nat → Int32)) => match u with | g => (BL (imC f) (imC g) x.toInt (lL4 y.toInt))) (fun (u : (Nat → Int32)) (t : State) => match u with | g => va_P D CL [(h0, .inr (1, [.ref q, .int L])), (q, .inl (cB, n, .inl g))] t.heap ∧ va_D (va_A [(h0, .inr (1, [.ref q, .int L])), (q, .inl (cB, n, .inl f))] sz) [(h0, .inr (1, [.ref q, .int L])), (q, .inl (cB, n, .inl g))]) (va_A [(h0, .inr (1, [.ref q, .int L])), (q, .inl (cB, n, .inl f))] sz)) 0 0 (va_A [(h0, .inr (1, [.ref q, .int L])), (q, .inl (cB, n, .inl f))] sz) := by
  refine Met.ofW (cc := b_Bytes_putLow) (maxL := 5) (ret := none) (by decide +kernel) rfl ?_
  intro p e s m args below meth c s₁ B hml hv
  obtain ⟨rfl, hsz, hP, hK, hN, hD0⟩ := hv
  have hx := B.exec
  have hb := B.bytes
  have hr := B.returns
  have hts := atoms_spec (ws := w_Bytes_putLow) B.pre
  have ht9 := fun (w : Cond) (h : w ∈ lw_g) => hts w (List.mem_cons_of_mem _ h)
  have hown : s.vm.findClass "DiscMaker$Bytes" = some m.cls := findClass_of_methodNamed B.named
  have hlocks := B.notSynchronized
  subst hsz
  have hD := hD0.self (sz := s.heap.size)
  generalize hAe : va_A [(h0, .inr (1, [.ref q, .int L])), (q, .inl (cB, n, .inl f))] s.heap.size = A at hD ⊢
  have hA : ∀ q : Nat, s.heap.size ≤ q → A q := fun q h => by rw [← hAe]; exact Or.inr h
  have hS : va_S A s.heap s.heap [] := va_S.rf
  have hP : va_P D CL [(h0, .inr (1, [.ref q, .int L])), (q, .inl (cB, n, .inl f))] s.heap := hP
  have hl := lv_entry [.ref h0, .int x, .int y, .int 4] (n := 5) (Nat.le_of_ble_eq_true rfl)
  rw [lg_entry_eq]
  generalize (lg_sl [.ref h0, .int x, .int y, .int 4] ++ List.replicate (5 - (lg_sl [.ref h0, .int x, .int y, .int 4]).length) Slot.unset).toArray = ls at hl ⊢
  have hl : lv_has ls 5 [(0, .ref h0), (1, .int x), (2, .int y), (3, .int 4)] := hl
  have L_m1 : ((-1) : Int32).toInt = (-1) := by decide
  have L_0 : (0 : Int32).toInt = 0 := by decide
  have L_1 : (1 : Int32).toInt = 1 := by decide
  have L_2 : (2 : Int32).toInt = 2 := by decide
  have L_3 : (3 : Int32).toInt = 3 := by decide
  have L_4 : (4 : Int32).toInt = 4 := by decide
  have L_7 : (7 : Int32).toInt = 7 := by decide
  have L_8 : (8 : Int32).toInt = 8 := by decide
  have L_16 : (16 : Int32).toInt = 16 := by decide
  have L_24 : (24 : Int32).toInt = 24 := by decide
  refine lv_iconst (v := 0) hx hb d_Bytes_putLow_0 (by decide) ?_
  refine lv_istore hx hb d_Bytes_putLow_1 hl (by decide) rfl (fun ls hl => ?_)
  have hl : lv_has ls 5 [(4, .int 0), (0, .ref h0), (1, .int x), (2, .int y), (3, .int 4)] := hl
  refine lv_iload hx hb d_Bytes_putLow_3 (lv_at hl 0 rfl) ?_
  refine lv_iload_n hx hb d_Bytes_putLow_5 rfl (lv_at hl 4 rfl) ?_
  refine lv_icmp_ge (tgt := 30) hx hb d_Bytes_putLow_6 (by decide) (fun h_9 => absurd h_9 (by decide)) (fun _ => ?_)
  refine lv_aload_n hx hb d_Bytes_putLow_9 rfl (lv_at hl 1 rfl) ?_
  refine lv_iload_n hx hb d_Bytes_putLow_10 rfl (lv_at hl 2 rfl) ?_
  refine lv_iload hx hb d_Bytes_putLow_11 (lv_at hl 0 rfl) ?_
  refine lv_iadd hx hb d_Bytes_putLow_13 ?_
  refine lv_topi (fun v1 e_v1 => ?_)
  have t_v1 : v1.toInt = x.toInt + 0 := by rw [e_v1]; exact i_add rfl (by decide) (by omega) (by omega)
  refine lv_iload_n hx hb d_Bytes_putLow_14 rfl (lv_at hl 3 rfl) ?_
  refine lv_bipush (v := 8) hx hb d_Bytes_putLow_15 (by decide) ?_
  refine lv_iload hx hb d_Bytes_putLow_17 (lv_at hl 0 rfl) ?_
  refine lv_imul hx hb d_Bytes_putLow_19 ?_
  refine W.eq (g2 := F0 m 20 ls [.int 0, .int y, .int v1, .ref h0]) (by rw [show ((8 : Int32) * 0) = 0 from by decide]) ?_
  refine lv_ishr hx hb d_Bytes_putLow_20 ?_
  refine lv_topi (fun v2 e_v2 => ?_)
  have t_v2 : v2.toInt = y.toInt / 1 := by rw [e_v2]; exact i_shr (k := 0) rfl (by decide) (by decide)
  have hPc := hP.sub (ws' := [(h0, .inr (1, [.ref q, .int L])), (q, .inl (cB, n, .inl f))]) [0, 1] rfl
  have hDc := hD.sub (ws' := [(h0, .inr (1, [.ref q, .int L])), (q, .inl (cB, n, .inl f))]) [0, 1] (by decide +kernel) rfl
  have hFc := va_free (wc := [(h0, .inr (1, [.ref q, .int L])), (q, .inl (cB, n, .inl f))]) hD hS hA [0, 1] rfl
  have hkc : 0 ≤ 0 := by decide
  have hks : 0 ≤ 0 := by decide
  refine va_callv (va_runV (C := "DiscMaker$Bytes") (As := [.int v1, .int v2]) (rest := []) ⟨hx, hb, hml, hown, hts⟩ (c3_putF l D cB cI cJ cZ cN cF s.heap.size h0 q n L f v1 v2 (by (try dsimp only); first | assumption | omega | trivial) (by (try dsimp only); first | assumption | omega | trivial) (by (try dsimp only); first | assumption | omega | trivial)) (cwV 2 hts (lg_goodV k988 k912 k913 k119 kc_Bytes_put) rfl rfl rfl (by decide +kernel) ⟨Nat.le_of_ble_eq_true rfl, Nat.le_of_ble_eq_true rfl⟩) ⟨fun a U g mk q => by obtain ⟨q0, q1, qP, qK, qN, qD⟩ := q; exact ⟨q0, q1, qP, va_K.moved (u := U) (U := U.calling g mk a) (Vm.Alike.refl U.vm) qK, qN.calling, qD⟩, va_recv hK hP (ci := 1) (q0 := 0) rfl rfl, fun U hU hW => ⟨rfl, by rw [hU], by rw [hU]; exact hPc, va_K.moved hW.alike hK, NN.warm hW hN, hDc.weaken (fun _ _ _ _ => trivial)⟩⟩ rfl rfl hl.1 rfl (lv_room (Nat.le_of_ble_eq_true rfl)) d_Bytes_putLow_21 ⟨hkc, hks⟩) hS (fun q _ h => hFc q h) hFc (fun u t H1 locs ht hvm hp_r3 hB hz1 hk1 hS => ?_)
  obtain ⟨g_4, rfl⟩ : ∃ z, z = u := ⟨_, rfl⟩
  obtain ⟨hP1, hD1⟩ := hB
  rw [ht] at hP1
  obtain ⟨hP, hD⟩ := va_join (wr := []) (w1 := [(h0, .inr (1, [.ref q, .int L])), (q, .inl (cB, n, .inl g_4))]) hP hD [0, 1] [] rfl rfl (by decide +kernel) (by decide +kernel) hk1 hFc hP1 hD1
  clear hPc hDc hFc hP1 hD1 hk1 hz1 hkc hks
  generalize H1 = H at hP hS ⊢
  have hP : va_P D CL [(h0, .inr (1, [.ref q, .int L])), (q, .inl (cB, n, .inl g_4))] H := hP
  have hD : va_D A [(h0, .inr (1, [.ref q, .int L])), (q, .inl (cB, n, .inl g_4))] := hD
  try dsimp only at hp_r3
  have hw_5 := hp_r3
  refine lv_iinc (v := 1) hx hb d_Bytes_putLow_24 hl (k := 0) rfl (by decide) (by decide +kernel) rfl (fun ls hl => ?_)
  have hl : lv_has ls 5 [(4, .int 1), (0, .ref h0), (1, .int x), (2, .int y), (3, .int 4)] := hl
  refine lv_goto (tgt := 3) hx hb d_Bytes_putLow_27 (by decide) ?_
  refine lv_iload hx hb d_Bytes_putLow_3 (lv_at hl 0 rfl) ?_
  refine lv_iload_n hx hb d_Bytes_putLow_5 rfl (lv_at hl 4 rfl) ?_
  refine lv_icmp_ge (tgt := 30) hx hb d_Bytes_putLow_6 (by decide) (fun h_9 => absurd h_9 (by decide)) (fun _ => ?_)
  refine lv_aload_n hx hb d_Bytes_putLow_9 rfl (lv_at hl 1 rfl) ?_
  refine lv_iload_n hx hb d_Bytes_putLow_10 rfl (lv_at hl 2 rfl) ?_
  refine lv_iload hx hb d_Bytes_putLow_11 (lv_at hl 0 rfl) ?_
  refine lv_iadd hx hb d_Bytes_putLow_13 ?_
  refine lv_topi (fun v6 e_v6 => ?_)
  have t_v6 : v6.toInt = x.toInt + 1 := by rw [e_v6]; exact i_add rfl (by decide) (by omega) (by omega)
  refine lv_iload_n hx hb d_Bytes_putLow_14 rfl (lv_at hl 3 rfl) ?_
  refine lv_bipush (v := 8) hx hb d_Bytes_putLow_15 (by decide) ?_
  refine lv_iload hx hb d_Bytes_putLow_17 (lv_at hl 0 rfl) ?_
  refine lv_imul hx hb d_Bytes_putLow_19 ?_
  refine W.eq (g2 := F0 m 20 ls [.int 8, .int y, .int v6, .ref h0]) (by rw [show ((8 : Int32) * 1) = 8 from by decide]) ?_
  refine lv_ishr hx hb d_Bytes_putLow_20 ?_
  refine lv_topi (fun v7 e_v7 => ?_)
  have t_v7 : v7.toInt = y.toInt / 256 := by rw [e_v7]; exact i_shr (k := 8) rfl (by decide) (by decide)
  have hPc := hP.sub (ws' := [(h0, .inr (1, [.ref q, .int L])), (q, .inl (cB, n, .inl g_4))]) [0, 1] rfl
  have hDc := hD.sub (ws' := [(h0, .inr (1, [.ref q, .int L])), (q, .inl (cB, n, .inl g_4))]) [0, 1] (by decide +kernel) rfl
  have hFc := va_free (wc := [(h0, .inr (1, [.ref q, .int L])), (q, .inl (cB, n, .inl g_4))]) hD hS hA [0, 1] rfl
  have hkc : 0 ≤ 0 := by decide
  have hks : 0 ≤ 0 := by decide
  refine va_callv (va_runV (C := "DiscMaker$Bytes") (As := [.int v6, .int v7]) (rest := []) ⟨hx, hb, hml, hown, hts⟩ (c3_putF l D cB cI cJ cZ cN cF H.size h0 q n L g_4 v6 v7 (by (try dsimp only); first | assumption | omega | trivial) (by (try dsimp only); first | assumption | omega | trivial) (by (try dsimp only); first | assumption | omega | trivial)) (cwV 2 hts (lg_goodV k988 k912 k913 k119 kc_Bytes_put) rfl rfl rfl (by decide +kernel) ⟨Nat.le_of_ble_eq_true rfl, Nat.le_of_ble_eq_true rfl⟩) ⟨fun a U g mk q => by obtain ⟨q0, q1, qP, qK, qN, qD⟩ := q; exact ⟨q0, q1, qP, va_K.moved (u := U) (U := U.calling g mk a) (Vm.Alike.refl U.vm) qK, qN.calling, qD⟩, va_recv hK hP (ci := 1) (q0 := 0) rfl rfl, fun U hU hW => ⟨rfl, by rw [hU], by rw [hU]; exact hPc, va_K.moved hW.alike hK, NN.warm hW hN, hDc.weaken (fun _ _ _ _ => trivial)⟩⟩ rfl rfl hl.1 rfl (lv_room (Nat.le_of_ble_eq_true rfl)) d_Bytes_putLow_21 ⟨hkc, hks⟩) hS (fun q _ h => hFc q h) hFc (fun u t H1 locs ht hvm hp_r8 hB hz1 hk1 hS => ?_)
  obtain ⟨g_9, rfl⟩ : ∃ z, z = u := ⟨_, rfl⟩
  obtain ⟨hP1, hD1⟩ := hB
  rw [ht] at hP1
  obtain ⟨hP, hD⟩ := va_join (wr := []) (w1 := [(h0, .inr (1, [.ref q, .int L])), (q, .inl (cB, n, .inl g_9))]) hP hD [0, 1] [] rfl rfl (by decide +kernel) (by decide +kernel) hk1 hFc hP1 hD1
  clear hPc hDc hFc hP1 hD1 hk1 hz1 hkc hks
  generalize H1 = H at hP hS ⊢
  have hP : va_P D CL [(h0, .inr (1, [.ref q, .int L])), (q, .inl (cB, n, .inl g_9))] H := hP
  have hD : va_D A [(h0, .inr (1, [.ref q, .int L])), (q, .inl (cB, n, .inl g_9))] := hD
  try dsimp only at hp_r8
  have hw_10 := hp_r8
  refine lv_iinc (v := 2) hx hb d_Bytes_putLow_24 hl (k := 0) rfl (by decide) (by decide +kernel) rfl (fun ls hl => ?_)
  have hl : lv_has ls 5 [(4, .int 2), (0, .ref h0), (1, .int x), (2, .int y), (3, .int 4)] := hl
  refine lv_goto (tgt := 3) hx hb d_Bytes_putLow_27 (by decide) ?_
  refine lv_iload hx hb d_Bytes_putLow_3 (lv_at hl 0 rfl) ?_
  refine lv_iload_n hx hb d_Bytes_putLow_5 rfl (lv_at hl 4 rfl) ?_
  refine lv_icmp_ge (tgt := 30) hx hb d_Bytes_putLow_6 (by decide) (fun h_9 => absurd h_9 (by decide)) (fun _ => ?_)
  refine lv_aload_n hx hb d_Bytes_putLow_9 rfl (lv_at hl 1 rfl) ?_
  refine lv_iload_n hx hb d_Bytes_putLow_10 rfl (lv_at hl 2 rfl) ?_
  refine lv_iload hx hb d_Bytes_putLow_11 (lv_at hl 0 rfl) ?_
  refine lv_iadd hx hb d_Bytes_putLow_13 ?_
  refine lv_topi (fun v11 e_v11 => ?_)
  have t_v11 : v11.toInt = x.toInt + 2 := by rw [e_v11]; exact i_add rfl (by decide) (by omega) (by omega)
  refine lv_iload_n hx hb d_Bytes_putLow_14 rfl (lv_at hl 3 rfl) ?_
  refine lv_bipush (v := 8) hx hb d_Bytes_putLow_15 (by decide) ?_
  refine lv_iload hx hb d_Bytes_putLow_17 (lv_at hl 0 rfl) ?_
  refine lv_imul hx hb d_Bytes_putLow_19 ?_
  refine W.eq (g2 := F0 m 20 ls [.int 16, .int y, .int v11, .ref h0]) (by rw [show ((8 : Int32) * 2) = 16 from by decide]) ?_
  refine lv_ishr hx hb d_Bytes_putLow_20 ?_
  refine lv_topi (fun v12 e_v12 => ?_)
  have t_v12 : v12.toInt = y.toInt / 65536 := by rw [e_v12]; exact i_shr (k := 16) rfl (by decide) (by decide)
  have hPc := hP.sub (ws' := [(h0, .inr (1, [.ref q, .int L])), (q, .inl (cB, n, .inl g_9))]) [0, 1] rfl
  have hDc := hD.sub (ws' := [(h0, .inr (1, [.ref q, .int L])), (q, .inl (cB, n, .inl g_9))]) [0, 1] (by decide +kernel) rfl
  have hFc := va_free (wc := [(h0, .inr (1, [.ref q, .int L])), (q, .inl (cB, n, .inl g_9))]) hD hS hA [0, 1] rfl
  have hkc : 0 ≤ 0 := by decide
  have hks : 0 ≤ 0 := by decide
  refine va_callv (va_runV (C := "DiscMaker$Bytes") (As := [.int v11, .int v12]) (rest := []) ⟨hx, hb, hml, hown, hts⟩ (c3_putF l D cB cI cJ cZ cN cF H.size h0 q n L g_9 v11 v12 (by (try dsimp only); first | assumption | omega | trivial) (by (try dsimp only); first | assumption | omega | trivial) (by (try dsimp only); first | assumption | omega | trivial)) (cwV 2 hts (lg_goodV k988 k912 k913 k119 kc_Bytes_put) rfl rfl rfl (by decide +kernel) ⟨Nat.le_of_ble_eq_true rfl, Nat.le_of_ble_eq_true rfl⟩) ⟨fun a U g mk q => by obtain ⟨q0, q1, qP, qK, qN, qD⟩ := q; exact ⟨q0, q1, qP, va_K.moved (u := U) (U := U.calling g mk a) (Vm.Alike.refl U.vm) qK, qN.calling, qD⟩, va_recv hK hP (ci := 1) (q0 := 0) rfl rfl, fun U hU hW => ⟨rfl, by rw [hU], by rw [hU]; exact hPc, va_K.moved hW.alike hK, NN.warm hW hN, hDc.weaken (fun _ _ _ _ => trivial)⟩⟩ rfl rfl hl.1 rfl (lv_room (Nat.le_of_ble_eq_true rfl)) d_Bytes_putLow_21 ⟨hkc, hks⟩) hS (fun q _ h => hFc q h) hFc (fun u t H1 locs ht hvm hp_r13 hB hz1 hk1 hS => ?_)
  obtain ⟨g_14, rfl⟩ : ∃ z, z = u := ⟨_, rfl⟩
  obtain ⟨hP1, hD1⟩ := hB
  rw [ht] at hP1
  obtain ⟨hP, hD⟩ := va_join (wr := []) (w1 := [(h0, .inr (1, [.ref q, .int L])), (q, .inl (cB, n, .inl g_14))]) hP hD [0, 1] [] rfl rfl (by decide +kernel) (by decide +kernel) hk1 hFc hP1 hD1
  clear hPc hDc hFc hP1 hD1 hk1 hz1 hkc hks
  generalize H1 = H at hP hS ⊢
  have hP : va_P D CL [(h0, .inr (1, [.ref q, .int L])), (q, .inl (cB, n, .inl g_14))] H := hP
  have hD : va_D A [(h0, .inr (1, [.ref q, .int L])), (q, .inl (cB, n, .inl g_14))] := hD
  try dsimp only at hp_r13
  have hw_15 := hp_r13
  refine lv_iinc (v := 3) hx hb d_Bytes_putLow_24 hl (k := 0) rfl (by decide) (by decide +kernel) rfl (fun ls hl => ?_)
  have hl : lv_has ls 5 [(4, .int 3), (0, .ref h0), (1, .int x), (2, .int y), (3, .int 4)] := hl
  refine lv_goto (tgt := 3) hx hb d_Bytes_putLow_27 (by decide) ?_
  refine lv_iload hx hb d_Bytes_putLow_3 (lv_at hl 0 rfl) ?_
  refine lv_iload_n hx hb d_Bytes_putLow_5 rfl (lv_at hl 4 rfl) ?_
  refine lv_icmp_ge (tgt := 30) hx hb d_Bytes_putLow_6 (by decide) (fun h_9 => absurd h_9 (by decide)) (fun _ => ?_)
  refine lv_aload_n hx hb d_Bytes_putLow_9 rfl (lv_at hl 1 rfl) ?_
  refine lv_iload_n hx hb d_Bytes_putLow_10 rfl (lv_at hl 2 rfl) ?_
  refine lv_iload hx hb d_Bytes_putLow_11 (lv_at hl 0 rfl) ?_
  refine lv_iadd hx hb d_Bytes_putLow_13 ?_
  refine lv_topi (fun v16 e_v16 => ?_)
  have t_v16 : v16.toInt = x.toInt + 3 := by rw [e_v16]; exact i_add rfl (by decide) (by omega) (by omega)
  refine lv_iload_n hx hb d_Bytes_putLow_14 rfl (lv_at hl 3 rfl) ?_
  refine lv_bipush (v := 8) hx hb d_Bytes_putLow_15 (by decide) ?_
  refine lv_iload hx hb d_Bytes_putLow_17 (lv_at hl 0 rfl) ?_
  refine lv_imul hx hb d_Bytes_putLow_19 ?_
  refine W.eq (g2 := F0 m 20 ls [.int 24, .int y, .int v16, .ref h0]) (by rw [show ((8 : Int32) * 3) = 24 from by decide]) ?_
  refine lv_ishr hx hb d_Bytes_putLow_20 ?_
  refine lv_topi (fun v17 e_v17 => ?_)
  have t_v17 : v17.toInt = y.toInt / 16777216 := by rw [e_v17]; exact i_shr (k := 24) rfl (by decide) (by decide)
  have hPc := hP.sub (ws' := [(h0, .inr (1, [.ref q, .int L])), (q, .inl (cB, n, .inl g_14))]) [0, 1] rfl
  have hDc := hD.sub (ws' := [(h0, .inr (1, [.ref q, .int L])), (q, .inl (cB, n, .inl g_14))]) [0, 1] (by decide +kernel) rfl
  have hFc := va_free (wc := [(h0, .inr (1, [.ref q, .int L])), (q, .inl (cB, n, .inl g_14))]) hD hS hA [0, 1] rfl
  have hkc : 0 ≤ 0 := by decide
  have hks : 0 ≤ 0 := by decide
  refine va_callv (va_runV (C := "DiscMaker$Bytes") (As := [.int v16, .int v17]) (rest := []) ⟨hx, hb, hml, hown, hts⟩ (c3_putF l D cB cI cJ cZ cN cF H.size h0 q n L g_14 v16 v17 (by (try dsimp only); first | assumption | omega | trivial) (by (try dsimp only); first | assumption | omega | trivial) (by (try dsimp only); first | assumption | omega | trivial)) (cwV 2 hts (lg_goodV k988 k912 k913 k119 kc_Bytes_put) rfl rfl rfl (by decide +kernel) ⟨Nat.le_of_ble_eq_true rfl, Nat.le_of_ble_eq_true rfl⟩) ⟨fun a U g mk q => by obtain ⟨q0, q1, qP, qK, qN, qD⟩ := q; exact ⟨q0, q1, qP, va_K.moved (u := U) (U := U.calling g mk a) (Vm.Alike.refl U.vm) qK, qN.calling, qD⟩, va_recv hK hP (ci := 1) (q0 := 0) rfl rfl, fun U hU hW => ⟨rfl, by rw [hU], by rw [hU]; exact hPc, va_K.moved hW.alike hK, NN.warm hW hN, hDc.weaken (fun _ _ _ _ => trivial)⟩⟩ rfl rfl hl.1 rfl (lv_room (Nat.le_of_ble_eq_true rfl)) d_Bytes_putLow_21 ⟨hkc, hks⟩) hS (fun q _ h => hFc q h) hFc (fun u t H1 locs ht hvm hp_r18 hB hz1 hk1 hS => ?_)
  obtain ⟨g_19, rfl⟩ : ∃ z, z = u := ⟨_, rfl⟩
  obtain ⟨hP1, hD1⟩ := hB
  rw [ht] at hP1
  obtain ⟨hP, hD⟩ := va_join (wr := []) (w1 := [(h0, .inr (1, [.ref q, .int L])), (q, .inl (cB, n, .inl g_19))]) hP hD [0, 1] [] rfl rfl (by decide +kernel) (by decide +kernel) hk1 hFc hP1 hD1
  clear hPc hDc hFc hP1 hD1 hk1 hz1 hkc hks
  generalize H1 = H at hP hS ⊢
  have hP : va_P D CL [(h0, .inr (1, [.ref q, .int L])), (q, .inl (cB, n, .inl g_19))] H := hP
  have hD : va_D A [(h0, .inr (1, [.ref q, .int L])), (q, .inl (cB, n, .inl g_19))] := hD
  try dsimp only at hp_r18
  have hw_20 := hp_r18
  refine lv_iinc (v := 4) hx hb d_Bytes_putLow_24 hl (k := 0) rfl (by decide) (by decide +kernel) rfl (fun ls hl => ?_)
  have hl : lv_has ls 5 [(4, .int 4), (0, .ref h0), (1, .int x), (2, .int y), (3, .int 4)] := hl
  refine lv_goto (tgt := 3) hx hb d_Bytes_putLow_27 (by decide) ?_
  refine lv_iload hx hb d_Bytes_putLow_3 (lv_at hl 0 rfl) ?_
  refine lv_iload_n hx hb d_Bytes_putLow_5 rfl (lv_at hl 4 rfl) ?_
  refine lv_icmp_ge (tgt := 30) hx hb d_Bytes_putLow_6 (by decide) (fun _ => ?_) (fun h_9 => absurd (by decide) h_9)
  have hP9 := hP.sub (ws' := [(h0, .inr (1, [.ref q, .int L])), (q, .inl (cB, n, .inl g_19))]) [0, 1] rfl
  have hD9 := hD.sub (ws' := [(h0, .inr (1, [.ref q, .int L])), (q, .inl (cB, n, .inl g_19))]) [0, 1] (by decide +kernel) rfl
  exact W.vret hx hb hr (fun t ht hW => ⟨⟨g_19, rfl, (BL_Bl (ch_u4 (c := fun i => (lL4 y.toInt).getD i 0) hw_5 hw_10 hw_15 hw_20 (by omega) (by omega) (by omega) (by omega) (by show v2.toInt % 256 = y.toInt % 256; omega) (by show v7.toInt % 256 = y.toInt / 256 % 256; omega) (by show v12.toInt % 256 = y.toInt / 65536 % 256; omega) (by show v17.toInt % 256 = y.toInt / 16777216 % 256; omega)) rfl), by rw [ht]; exact hP9, hD9⟩, hS.F ht⟩) hS.2.2 d_Bytes_putLow_30

set_option maxHeartbeats 4000000 in
set_option maxRecDepth 100000 in
theorem c3_putLow2F (l : Launch) (D : va_G) (cB cI cJ cZ cN cF : ClassId) (sz : Nat) (h0 : Nat) (q : Nat) (n : Nat) (L : Int32) (f : Nat → Int32) (x : Int32) (y : Int32) (hL : 0 ≤ L.toInt ∧ L.toInt ≤ n) (hn : n ≤ 3000000) (hin : 0 ≤ x.toInt ∧ x.toInt + 2 ≤ L.toInt) : Met l y_Bytes_putLow w_Bytes_putLow ({ frames := 1, cells := 0, slots := 0, locals := 28 }) (va_Pc [.ref h0, .int x, .int y, .int 2] (fun U => U.heap.size = sz ∧ va_P D CL [(h0, .inr (1, [.ref q, .int L])), (q, .inl (cB, n, .inl f))] U.heap ∧ va_K D CL (TY cB cI cJ cZ cN cF) U ∧ NN U ∧ va_D (fun _ => True) [(h0, .inr (1, [.ref q, .int L])), (q, .inl (cB, n, .inl f))])) (va_Qv (fun (u : (Nat → Int32)) => match u with | g => (BL (imC f) (imC g) x.toInt (lL2 y.toInt))) (fun (u : (Nat → Int32)) (t : State) => match u with | g => va_P D CL [(h0, .inr (1, [.ref q, .int L])), (q, .inl (cB, n, .inl g))] t.heap ∧ va_D (va_A [(h0, .inr (1, [.ref q, .int L])), (q, .inl (cB, n, .inl f))] sz) [(h0, .inr (1, [.ref q, .int L])), (q, .inl (cB, n, .inl g))]) (va_A [(h0, .inr (1, [.ref q, .int L])), (q, .inl (cB, n, .inl f))] sz)) 0 0 (va_A [(h0, .inr (1, [.ref q, .int L])), (q, .inl (cB, n, .inl f))] sz) := by
  refine Met.ofW (cc := b_Bytes_putLow) (maxL := 5) (ret := none) (by decide +kernel) rfl ?_
  intro p e s m args below meth c s₁ B hml hv
  obtain ⟨rfl, hsz, hP, hK, hN, hD0⟩ := hv
  have hx := B.exec
  have hb := B.bytes
  have hr := B.returns
  have hts := atoms_spec (ws := w_Bytes_putLow) B.pre
  have ht9 := fun (w : Cond) (h : w ∈ lw_g) => hts w (List.mem_cons_of_mem _ h)
  have hown : s.vm.findClass "DiscMaker$Bytes" = some m.cls := findClass_of_methodNamed B.named
  have hlocks := B.notSynchronized
  subst hsz
  have hD := hD0.self (sz := s.heap.size)
  generalize hAe : va_A [(h0, .inr (1, [.ref q, .int L])), (q, .inl (cB, n, .inl f))] s.heap.size = A at hD ⊢
  have hA : ∀ q : Nat, s.heap.size ≤ q → A q := fun q h => by rw [← hAe]; exact Or.inr h
  have hS : va_S A s.heap s.heap [] := va_S.rf
  have hP : va_P D CL [(h0, .inr (1, [.ref q, .int L])), (q, .inl (cB, n, .inl f))] s.heap := hP
  have hl := lv_entry [.ref h0, .int x, .int y, .int 2] (n := 5) (Nat.le_of_ble_eq_true rfl)
  rw [lg_entry_eq]
  generalize (lg_sl [.ref h0, .int x, .int y, .int 2] ++ List.replicate (5 - (lg_sl [.ref h0, .int x, .int y, .int 2]).length) Slot.unset).toArray = ls at hl ⊢
  have hl : lv_has ls 5 [(0, .ref h0), (1, .int x), (2, .int y), (3, .int 2)] := hl
  have L_m1 : ((-1) : Int32).toInt = (-1) := by decide
  have L_0 : (0 : Int32).toInt = 0 := by decide
  have L_1 : (1 : Int32).toInt = 1 := by decide
  have L_2 : (2 : Int32).toInt = 2 := by decide
  have L_3 : (3 : Int32).toInt = 3 := by decide
  have L_4 : (4 : Int32).toInt = 4 := by decide
  have L_7 : (7 : Int32).toInt = 7 := by decide
  have L_8 : (8 : Int32).toInt = 8 := by decide
  have L_16 : (16 : Int32).toInt = 16 := by decide
  have L_24 : (24 : Int32).toInt = 24 := by decide
  refine lv_iconst (v := 0) hx hb d_Bytes_putLow_0 (by decide) ?_
  refine lv_istore hx hb d_Bytes_putLow_1 hl (by decide) rfl (fun ls hl => ?_)
  have hl : lv_has ls 5 [(4, .int 0), (0, .ref h0), (1, .int x), (2, .int y), (3, .int 2)] := hl
  refine lv_iload hx hb d_Bytes_putLow_3 (lv_at hl 0 rfl) ?_
  refine lv_iload_n hx hb d_Bytes_putLow_5 rfl (lv_at hl 4 rfl) ?_
  refine lv_icmp_ge (tgt := 30) hx hb d_Bytes_putLow_6 (by decide) (fun h_9 => absurd h_9 (by decide)) (fun _ => ?_)
  refine lv_aload_n hx hb d_Bytes_putLow_9 rfl (lv_at hl 1 rfl) ?_
  refine lv_iload_n hx hb d_Bytes_putLow_10 rfl (lv_at hl 2 rfl) ?_
  refine lv_iload hx hb d_Bytes_putLow_11 (lv_at hl 0 rfl) ?_
  refine lv_iadd hx hb d_Bytes_putLow_13 ?_
  refine lv_topi (fun v1 e_v1 => ?_)
  have t_v1 : v1.toInt = x.toInt + 0 := by rw [e_v1]; exact i_add rfl (by decide) (by omega) (by omega)
  refine lv_iload_n hx hb d_Bytes_putLow_14 rfl (lv_at hl 3 rfl) ?_
  refine lv_bipush (v := 8) hx hb d_Bytes_putLow_15 (by decide) ?_
  refine lv_iload hx hb d_Bytes_putLow_17 (lv_at hl 0 rfl) ?_
  refine lv_imul hx hb d_Bytes_putLow_19 ?_
  refine W.eq (g2 := F0 m 20 ls [.int 0, .int y, .int v1, .ref h0]) (by rw [show ((8 : Int32) * 0) = 0 from by decide]) ?_
  refine lv_ishr hx hb d_Bytes_putLow_20 ?_
  refine lv_topi (fun v2 e_v2 => ?_)
  have t_v2 : v2.toInt = y.toInt / 1 := by rw [e_v2]; exact i_shr (k := 0) rfl (by decide) (by decide)
  have hPc := hP.sub (ws' := [(h0, .inr (1, [.ref q, .int L])), (q, .inl (cB, n, .inl f))]) [0, 1] rfl
  have hDc := hD.sub (ws' := [(h0, .inr (1, [.ref q, .int L])), (q, .inl (cB, n, .inl f))]) [0, 1] (by decide +kernel) rfl
  have hFc := va_free (wc := [(h0, .inr (1, [.ref q, .int L])), (q, .inl (cB, n, .inl f))]) hD hS hA [0, 1] rfl
  have hkc : 0 ≤ 0 := by decide
  have hks : 0 ≤ 0 := by decide
  refine va_callv (va_runV (C := "DiscMaker$Bytes") (As := [.int v1, .int v2]) (rest := []) ⟨hx, hb, hml, hown, hts⟩ (c3_putF l D cB cI cJ cZ cN cF s.heap.size h0 q n L f v1 v2 (by (try dsimp only); first | assumption | omega | trivial) (by (try dsimp only); first | assumption | omega | trivial) (by (try dsimp only); first | assumption | omega | trivial)) (cwV 2 hts (lg_goodV k988 k912 k913 k119 kc_Bytes_put) rfl rfl rfl (by decide +kernel) ⟨Nat.le_of_ble_eq_true rfl, Nat.le_of_ble_eq_true rfl⟩) ⟨fun a U g mk q => by obtain ⟨q0, q1, qP, qK, qN, qD⟩ := q; exact ⟨q0, q1, qP, va_K.moved (u := U) (U := U.calling g mk a) (Vm.Alike.refl U.vm) qK, qN.calling, qD⟩, va_recv hK hP (ci := 1) (q0 := 0) rfl rfl, fun U hU hW => ⟨rfl, by rw [hU], by rw [hU]; exact hPc, va_K.moved hW.alike hK, NN.warm hW hN, hDc.weaken (fun _ _ _ _ => trivial)⟩⟩ rfl rfl hl.1 rfl (lv_room (Nat.le_of_ble_eq_true rfl)) d_Bytes_putLow_21 ⟨hkc, hks⟩) hS (fun q _ h => hFc q h) hFc (fun u t H1 locs ht hvm hp_r3 hB hz1 hk1 hS => ?_)
  obtain ⟨g_4, rfl⟩ : ∃ z, z = u := ⟨_, rfl⟩
  obtain ⟨hP1, hD1⟩ := hB
  rw [ht] at hP1
  obtain ⟨hP, hD⟩ := va_join (wr := []) (w1 := [(h0, .inr (1, [.ref q, .int L])), (q, .inl (cB, n, .inl g_4))]) hP hD [0, 1] [] rfl rfl (by decide +kernel) (by decide +kernel) hk1 hFc hP1 hD1
  clear hPc hDc hFc hP1 hD1 hk1 hz1 hkc hks
  generalize H1 = H at hP hS ⊢
  have hP : va_P D CL [(h0, .inr (1, [.ref q, .int L])), (q, .inl (cB, n, .inl g_4))] H := hP
  have hD : va_D A [(h0, .inr (1, [.ref q, .int L])), (q, .inl (cB, n, .inl g_4))] := hD
  try dsimp only at hp_r3
  have hw_5 := hp_r3
  refine lv_iinc (v := 1) hx hb d_Bytes_putLow_24 hl (k := 0) rfl (by decide) (by decide +kernel) rfl (fun ls hl => ?_)
  have hl : lv_has ls 5 [(4, .int 1), (0, .ref h0), (1, .int x), (2, .int y), (3, .int 2)] := hl
  refine lv_goto (tgt := 3) hx hb d_Bytes_putLow_27 (by decide) ?_
  refine lv_iload hx hb d_Bytes_putLow_3 (lv_at hl 0 rfl) ?_
  refine lv_iload_n hx hb d_Bytes_putLow_5 rfl (lv_at hl 4 rfl) ?_
  refine lv_icmp_ge (tgt := 30) hx hb d_Bytes_putLow_6 (by decide) (fun h_9 => absurd h_9 (by decide)) (fun _ => ?_)
  refine lv_aload_n hx hb d_Bytes_putLow_9 rfl (lv_at hl 1 rfl) ?_
  refine lv_iload_n hx hb d_Bytes_putLow_10 rfl (lv_at hl 2 rfl) ?_
  refine lv_iload hx hb d_Bytes_putLow_11 (lv_at hl 0 rfl) ?_
  refine lv_iadd hx hb d_Bytes_putLow_13 ?_
  refine lv_topi (fun v6 e_v6 => ?_)
  have t_v6 : v6.toInt = x.toInt + 1 := by rw [e_v6]; exact i_add rfl (by decide) (by omega) (by omega)
  refine lv_iload_n hx hb d_Bytes_putLow_14 rfl (lv_at hl 3 rfl) ?_
  refine lv_bipush (v := 8) hx hb d_Bytes_putLow_15 (by decide) ?_
  refine lv_iload hx hb d_Bytes_putLow_17 (lv_at hl 0 rfl) ?_
  refine lv_imul hx hb d_Bytes_putLow_19 ?_
  refine W.eq (g2 := F0 m 20 ls [.int 8, .int y, .int v6, .ref h0]) (by rw [show ((8 : Int32) * 1) = 8 from by decide]) ?_
  refine lv_ishr hx hb d_Bytes_putLow_20 ?_
  refine lv_topi (fun v7 e_v7 => ?_)
  have t_v7 : v7.toInt = y.toInt / 256 := by rw [e_v7]; exact i_shr (k := 8) rfl (by decide) (by decide)
  have hPc := hP.sub (ws' := [(h0, .inr (1, [.ref q, .int L])), (q, .inl (cB, n, .inl g_4))]) [0, 1] rfl
  have hDc := hD.sub (ws' := [(h0, .inr (1, [.ref q, .int L])), (q, .inl (cB, n, .inl g_4))]) [0, 1] (by decide +kernel) rfl
  have hFc := va_free (wc := [(h0, .inr (1, [.ref q, .int L])), (q, .inl (cB, n, .inl g_4))]) hD hS hA [0, 1] rfl
  have hkc : 0 ≤ 0 := by decide
  have hks : 0 ≤ 0 := by decide
  refine va_callv (va_runV (C := "DiscMaker$Bytes") (As := [.int v6, .int v7]) (rest := []) ⟨hx, hb, hml, hown, hts⟩ (c3_putF l D cB cI cJ cZ cN cF H.size h0 q n L g_4 v6 v7 (by (try dsimp only); first | assumption | omega | trivial) (by (try dsimp only); first | assumption | omega | trivial) (by (try dsimp only); first | assumption | omega | trivial)) (cwV 2 hts (lg_goodV k988 k912 k913 k119 kc_Bytes_put) rfl rfl rfl (by decide +kernel) ⟨Nat.le_of_ble_eq_true rfl, Nat.le_of_ble_eq_true rfl⟩) ⟨fun a U g mk q => by obtain ⟨q0, q1, qP, qK, qN, qD⟩ := q; exact ⟨q0, q1, qP, va_K.moved (u := U) (U := U.calling g mk a) (Vm.Alike.refl U.vm) qK, qN.calling, qD⟩, va_recv hK hP (ci := 1) (q0 := 0) rfl rfl, fun U hU hW => ⟨rfl, by rw [hU], by rw [hU]; exact hPc, va_K.moved hW.alike hK, NN.warm hW hN, hDc.weaken (fun _ _ _ _ => trivial)⟩⟩ rfl rfl hl.1 rfl (lv_room (Nat.le_of_ble_eq_true rfl)) d_Bytes_putLow_21 ⟨hkc, hks⟩) hS (fun q _ h => hFc q h) hFc (fun u t H1 locs ht hvm hp_r8 hB hz1 hk1 hS => ?_)
  obtain ⟨g_9, rfl⟩ : ∃ z, z = u := ⟨_, rfl⟩
  obtain ⟨hP1, hD1⟩ := hB
  rw [ht] at hP1
  obtain ⟨hP, hD⟩ := va_join (wr := []) (w1 := [(h0, .inr (1, [.ref q, .int L])), (q, .inl (cB, n, .inl g_9))]) hP hD [0, 1] [] rfl rfl (by decide +kernel) (by decide +kernel) hk1 hFc hP1 hD1
  clear hPc hDc hFc hP1 hD1 hk1 hz1 hkc hks
  generalize H1 = H at hP hS ⊢
  have hP : va_P D CL [(h0, .inr (1, [.ref q, .int L])), (q, .inl (cB, n, .inl g_9))] H := hP
  have hD : va_D A [(h0, .inr (1, [.ref q, .int L])), (q, .inl (cB, n, .inl g_9))] := hD
  try dsimp only at hp_r8
  have hw_10 := hp_r8
  refine lv_iinc (v := 2) hx hb d_Bytes_putLow_24 hl (k := 0) rfl (by decide) (by decide +kernel) rfl (fun ls hl => ?_)
  have hl : lv_has ls 5 [(4, .int 2), (0, .ref h0), (1, .int x), (2, .int y), (3, .int 2)] := hl
  refine lv_goto (tgt := 3) hx hb d_Bytes_putLow_27 (by decide) ?_
  refine lv_iload hx hb d_Bytes_putLow_3 (lv_at hl 0 rfl) ?_
  refine lv_iload_n hx hb d_Bytes_putLow_5 rfl (lv_at hl 4 rfl) ?_
  refine lv_icmp_ge (tgt := 30) hx hb d_Bytes_putLow_6 (by decide) (fun _ => ?_) (fun h_9 => absurd (by decide) h_9)
  have hP9 := hP.sub (ws' := [(h0, .inr (1, [.ref q, .int L])), (q, .inl (cB, n, .inl g_9))]) [0, 1] rfl
  have hD9 := hD.sub (ws' := [(h0, .inr (1, [.ref q, .int L])), (q, .inl (cB, n, .inl g_9))]) [0, 1] (by decide +kernel) rfl
  exact W.vret hx hb hr (fun t ht hW => ⟨⟨g_9, rfl, (BL_Bl (ch_u2 (c := fun i => (lL2 y.toInt).getD i 0) hw_5 hw_10 (by omega) (by omega) (by show v2.toInt % 256 = y.toInt % 256; omega) (by show v7.toInt % 256 = y.toInt / 256 % 256; omega)) rfl), by rw [ht]; exact hP9, hD9⟩, hS.F ht⟩) hS.2.2 d_Bytes_putLow_30

set_option maxHeartbeats 4000000 in
set_option maxRecDepth 100000 in
theorem c3_putHigh4F (l : Launch) (D : va_G) (cB cI cJ cZ cN cF : ClassId) (sz : Nat) (h0 : Nat) (q : Nat) (n : Nat) (L : Int32) (f : Nat → Int32) (x : Int32) (y : Int32) (hL : 0 ≤ L.toInt ∧ L.toInt ≤ n) (hn : n ≤ 3000000) (hin : 0 ≤ x.toInt ∧ x.toInt + 4 ≤ L.toInt) : Met l y_Bytes_putHigh w_Bytes_putHigh ({ frames := 1, cells := 0, slots := 0, locals := 28 }) (va_Pc [.ref h0, .int x, .int y, .int 4] (fun U => U.heap.size = sz ∧ va_P D CL [(h0, .inr (1, [.ref q, .int L])), (q, .inl (cB, n, .inl f))] U.heap ∧ va_K D CL (TY cB cI cJ cZ cN cF) U ∧ NN U ∧ va_D (fun _ => True) [(h0, .inr (1, [.ref q, .int L])), (q, .inl (cB, n, .inl f))])) (va_Qv (fun (u : (Nat → Int32)) => match u with | g => (BL (imC f) (imC g) x.toInt (hL4 y.toInt))) (fun (u : (Nat → Int32)) (t : State) => match u with | g => va_P D CL [(h0, .inr (1, [.ref q, .int L])), (q, .inl (cB, n, .inl g))] t.heap ∧ va_D (va_A [(h0, .inr (1, [.ref q, .int L])), (q, .inl (cB, n, .inl f))] sz) [(h0, .inr (1, [.ref q, .int L])), (q, .inl (cB, n, .inl g))]) (va_A [(h0, .inr (1, [.ref q, .int L])), (q, .inl (cB, n, .inl f))] sz)) 0 0 (va_A [(h0, .inr (1, [.ref q, .int L])), (q, .inl (cB, n, .inl f))] sz) := by
  refine Met.ofW (cc := b_Bytes_putHigh) (maxL := 5) (ret := none) (by decide +kernel) rfl ?_
  intro p e s m args below meth c s₁ B hml hv
  obtain ⟨rfl, hsz, hP, hK, hN, hD0⟩ := hv
  have hx := B.exec
  have hb := B.bytes
  have hr := B.returns
  have hts := atoms_spec (ws := w_Bytes_putHigh) B.pre
  have ht9 := fun (w : Cond) (h : w ∈ lw_g) => hts w (List.mem_cons_of_mem _ h)
  have hown : s.vm.findClass "DiscMaker$Bytes" = some m.cls := findClass_of_methodNamed B.named
  have hlocks := B.notSynchronized
  subst hsz
  have hD := hD0.self (sz := s.heap.size)
  generalize hAe : va_A [(h0, .inr (1, [.ref q, .int L])), (q, .inl (cB, n, .inl f))] s.heap.size = A at hD ⊢
  have hA : ∀ q : Nat, s.heap.size ≤ q → A q := fun q h => by rw [← hAe]; exact Or.inr h
  have hS : va_S A s.heap s.heap [] := va_S.rf
  have hP : va_P D CL [(h0, .inr (1, [.ref q, .int L])), (q, .inl (cB, n, .inl f))] s.heap := hP
  have hl := lv_entry [.ref h0, .int x, .int y, .int 4] (n := 5) (Nat.le_of_ble_eq_true rfl)
  rw [lg_entry_eq]
  generalize (lg_sl [.ref h0, .int x, .int y, .int 4] ++ List.replicate (5 - (lg_sl [.ref h0, .int x, .int y, .int 4]).length) Slot.unset).toArray = ls at hl ⊢
  have hl : lv_has ls 5 [(0, .ref h0), (1, .int x), (2, .int y), (3, .int 4)] := hl
  have L_m1 : ((-1) : Int32).toInt = (-1) := by decide
  have L_0 : (0 : Int32).toInt = 0 := by decide
  have L_1 : (1 : Int32).toInt = 1 := by decide
  have L_2 : (2 : Int32).toInt = 2 := by decide
  have L_3 : (3 : Int32).toInt = 3 := by decide
  have L_4 : (4 : Int32).toInt = 4 := by decide
  have L_7 : (7 : Int32).toInt = 7 := by decide
  have L_8 : (8 : Int32).toInt = 8 := by decide
  have L_16 : (16 : Int32).toInt = 16 := by decide
  have L_24 : (24 : Int32).toInt = 24 := by decide
  refine lv_iconst (v := 0) hx hb d_Bytes_putHigh_0 (by decide) ?_
  refine lv_istore hx hb d_Bytes_putHigh_1 hl (by decide) rfl (fun ls hl => ?_)
  have hl : lv_has ls 5 [(4, .int 0), (0, .ref h0), (1, .int x), (2, .int y), (3, .int 4)] := hl
  refine lv_iload hx hb d_Bytes_putHigh_3 (lv_at hl 0 rfl) ?_
  refine lv_iload_n hx hb d_Bytes_putHigh_5 rfl (lv_at hl 4 rfl) ?_
  refine lv_icmp_ge (tgt := 34) hx hb d_Bytes_putHigh_6 (by decide) (fun h_9 => absurd h_9 (by decide)) (fun _ => ?_)
  refine lv_aload_n hx hb d_Bytes_putHigh_9 rfl (lv_at hl 1 rfl) ?_
  refine lv_iload_n hx hb d_Bytes_putHigh_10 rfl (lv_at hl 2 rfl) ?_
  refine lv_iload_n hx hb d_Bytes_putHigh_11 rfl (lv_at hl 4 rfl) ?_
  refine lv_iadd hx hb d_Bytes_putHigh_12 ?_
  refine lv_topi (fun v1 e_v1 => ?_)
  have t_v1 : v1.toInt = x.toInt + 4 := by rw [e_v1]; exact i_add rfl (by decide) (by omega) (by omega)
  refine lv_iconst (v := 1) hx hb d_Bytes_putHigh_13 (by decide) ?_
  refine lv_isub hx hb d_Bytes_putHigh_14 ?_
  refine lv_topi (fun v2 e_v2 => ?_)
  have t_v2 : v2.toInt = v1.toInt - 1 := by rw [e_v2]; exact i_sub rfl (by decide) (by omega) (by omega)
  refine lv_iload hx hb d_Bytes_putHigh_15 (lv_at hl 0 rfl) ?_
  refine lv_isub hx hb d_Bytes_putHigh_17 ?_
  refine lv_topi (fun v3 e_v3 => ?_)
  have t_v3 : v3.toInt = v2.toInt - 0 := by rw [e_v3]; exact i_sub rfl (by decide) (by omega) (by omega)
  refine lv_iload_n hx hb d_Bytes_putHigh_18 rfl (lv_at hl 3 rfl) ?_
  refine lv_bipush (v := 8) hx hb d_Bytes_putHigh_19 (by decide) ?_
  refine lv_iload hx hb d_Bytes_putHigh_21 (lv_at hl 0 rfl) ?_
  refine lv_imul hx hb d_Bytes_putHigh_23 ?_
  refine W.eq (g2 := F0 m 24 ls [.int 0, .int y, .int v3, .ref h0]) (by rw [show ((8 : Int32) * 0) = 0 from by decide]) ?_
  refine lv_ishr hx hb d_Bytes_putHigh_24 ?_
  refine lv_topi (fun v4 e_v4 => ?_)
  have t_v4 : v4.toInt = y.toInt / 1 := by rw [e_v4]; exact i_shr (k := 0) rfl (by decide) (by decide)
  have hPc := hP.sub (ws' := [(h0, .inr (1, [.ref q, .int L])), (q, .inl (cB, n, .inl f))]) [0, 1] rfl
  have hDc := hD.sub (ws' := [(h0, .inr (1, [.ref q, .int L])), (q, .inl (cB, n, .inl f))]) [0, 1] (by decide +kernel) rfl
  have hFc := va_free (wc := [(h0, .inr (1, [.ref q, .int L])), (q, .inl (cB, n, .inl f))]) hD hS hA [0, 1] rfl
  have hkc : 0 ≤ 0 := by decide
  have hks : 0 ≤ 0 := by decide
  refine va_callv (va_runV (C := "DiscMaker$Bytes") (As := [.int v3, .int v4]) (rest := []) ⟨hx, hb, hml, hown, hts⟩ (c3_putF l D cB cI cJ cZ cN cF s.heap.size h0 q n L f v3 v4 (by (try dsimp only); first | assumption | omega | trivial) (by (try dsimp only); first | assumption | omega | trivial) (by (try dsimp only); first | assumption | omega | trivial)) (cwV 2 hts (lg_goodV k988 k912 k913 k119 kc_Bytes_put) rfl rfl rfl (by decide +kernel) ⟨Nat.le_of_ble_eq_true rfl, Nat.le_of_ble_eq_true rfl⟩) ⟨fun a U g mk q => by obtain ⟨q0, q1, qP, qK, qN, qD⟩ := q; exact ⟨q0, q1, qP, va_K.moved (u := U) (U := U.calling g mk a) (Vm.Alike.refl U.vm) qK, qN.calling, qD⟩, va_recv hK hP (ci := 1) (q0 := 0) rfl rfl, fun U hU hW => ⟨rfl, by rw [hU], by rw [hU]; exact hPc, va_K.moved hW.alike hK, NN.warm hW hN, hDc.weaken (fun _ _ _ _ => trivial)⟩⟩ rfl rfl hl.1 rfl (lv_room (Nat.le_of_ble_eq_true rfl)) d_Bytes_putHigh_25 ⟨hkc, hks⟩) hS (fun q _ h => hFc q h) hFc (fun u t H1 locs ht hvm hp_r5 hB hz1 hk1 hS => ?_)
  obtain ⟨g_6, rfl⟩ : ∃ z, z = u := ⟨_, rfl⟩
  obtain ⟨hP1, hD1⟩ := hB
  rw [ht] at hP1
  obtain ⟨hP, hD⟩ := va_join (wr := []) (w1 := [(h0, .inr (1, [.ref q, .int L])), (q, .inl (cB, n, .inl g_6))]) hP hD [0, 1] [] rfl rfl (by decide +kernel) (by decide +kernel) hk1 hFc hP1 hD1
  clear hPc hDc hFc hP1 hD1 hk1 hz1 hkc hks
  generalize H1 = H at hP hS ⊢
  have hP : va_P D CL [(h0, .inr (1, [.ref q, .int L])), (q, .inl (cB, n, .inl g_6))] H := hP
  have hD : va_D A [(h0, .inr (1, [.ref q, .int L])), (q, .inl (cB, n, .inl g_6))] := hD
  try dsimp only at hp_r5
  have hw_7 := hp_r5
  refine lv_iinc (v := 1) hx hb d_Bytes_putHigh_28 hl (k := 0) rfl (by decide) (by decide +kernel) rfl (fun ls hl => ?_)
  have hl : lv_has ls 5 [(4, .int 1), (0, .ref h0), (1, .int x), (2, .int y), (3, .int 4)] := hl
  refine lv_goto (tgt := 3) hx hb d_Bytes_putHigh_31 (by decide) ?_
  refine lv_iload hx hb d_Bytes_putHigh_3 (lv_at hl 0 rfl) ?_
  refine lv_iload_n hx hb d_Bytes_putHigh_5 rfl (lv_at hl 4 rfl) ?_
  refine lv_icmp_ge (tgt := 34) hx hb d_Bytes_putHigh_6 (by decide) (fun h_9 => absurd h_9 (by decide)) (fun _ => ?_)
  refine lv_aload_n hx hb d_Bytes_putHigh_9 rfl (lv_at hl 1 rfl) ?_
  refine lv_iload_n hx hb d_Bytes_putHigh_10 rfl (lv_at hl 2 rfl) ?_
  refine lv_iload_n hx hb d_Bytes_putHigh_11 rfl (lv_at hl 4 rfl) ?_
  refine lv_iadd hx hb d_Bytes_putHigh_12 ?_
  refine lv_topi (fun v8 e_v8 => ?_)
  have t_v8 : v8.toInt = x.toInt + 4 := by rw [e_v8]; exact i_add rfl (by decide) (by omega) (by omega)
  refine lv_iconst (v := 1) hx hb d_Bytes_putHigh_13 (by decide) ?_
  refine lv_isub hx hb d_Bytes_putHigh_14 ?_
  refine lv_topi (fun v9 e_v9 => ?_)
  have t_v9 : v9.toInt = v8.toInt - 1 := by rw [e_v9]; exact i_sub rfl (by decide) (by omega) (by omega)
  refine lv_iload hx hb d_Bytes_putHigh_15 (lv_at hl 0 rfl) ?_
  refine lv_isub hx hb d_Bytes_putHigh_17 ?_
  refine lv_topi (fun v10 e_v10 => ?_)
  have t_v10 : v10.toInt = v9.toInt - 1 := by rw [e_v10]; exact i_sub rfl (by decide) (by omega) (by omega)
  refine lv_iload_n hx hb d_Bytes_putHigh_18 rfl (lv_at hl 3 rfl) ?_
  refine lv_bipush (v := 8) hx hb d_Bytes_putHigh_19 (by decide) ?_
  refine lv_iload hx hb d_Bytes_putHigh_21 (lv_at hl 0 rfl) ?_
  refine lv_imul hx hb d_Bytes_putHigh_23 ?_
  refine W.eq (g2 := F0 m 24 ls [.int 8, .int y, .int v10, .ref h0]) (by rw [show ((8 : Int32) * 1) = 8 from by decide]) ?_
  refine lv_ishr hx hb d_Bytes_putHigh_24 ?_
  refine lv_topi (fun v11 e_v11 => ?_)
  have t_v11 : v11.toInt = y.toInt / 256 := by rw [e_v11]; exact i_shr (k := 8) rfl (by decide) (by decide)
  have hPc := hP.sub (ws' := [(h0, .inr (1, [.ref q, .int L])), (q, .inl (cB, n, .inl g_6))]) [0, 1] rfl
  have hDc := hD.sub (ws' := [(h0, .inr (1, [.ref q, .int L])), (q, .inl (cB, n, .inl g_6))]) [0, 1] (by decide +kernel) rfl
  have hFc := va_free (wc := [(h0, .inr (1, [.ref q, .int L])), (q, .inl (cB, n, .inl g_6))]) hD hS hA [0, 1] rfl
  have hkc : 0 ≤ 0 := by decide
  have hks : 0 ≤ 0 := by decide
  refine va_callv (va_runV (C := "DiscMaker$Bytes") (As := [.int v10, .int v11]) (rest := []) ⟨hx, hb, hml, hown, hts⟩ (c3_putF l D cB cI cJ cZ cN cF H.size h0 q n L g_6 v10 v11 (by (try dsimp only); first | assumption | omega | trivial) (by (try dsimp only); first | assumption | omega | trivial) (by (try dsimp only); first | assumption | omega | trivial)) (cwV 2 hts (lg_goodV k988 k912 k913 k119 kc_Bytes_put) rfl rfl rfl (by decide +kernel) ⟨Nat.le_of_ble_eq_true rfl, Nat.le_of_ble_eq_true rfl⟩) ⟨fun a U g mk q => by obtain ⟨q0, q1, qP, qK, qN, qD⟩ := q; exact ⟨q0, q1, qP, va_K.moved (u := U) (U := U.calling g mk a) (Vm.Alike.refl U.vm) qK, qN.calling, qD⟩, va_recv hK hP (ci := 1) (q0 := 0) rfl rfl, fun U hU hW => ⟨rfl, by rw [hU], by rw [hU]; exact hPc, va_K.moved hW.alike hK, NN.warm hW hN, hDc.weaken (fun _ _ _ _ => trivial)⟩⟩ rfl rfl hl.1 rfl (lv_room (Nat.le_of_ble_eq_true rfl)) d_Bytes_putHigh_25 ⟨hkc, hks⟩) hS (fun q _ h => hFc q h) hFc (fun u t H1 locs ht hvm hp_r12 hB hz1 hk1 hS => ?_)
  obtain ⟨g_13, rfl⟩ : ∃ z, z = u := ⟨_, rfl⟩
  obtain ⟨hP1, hD1⟩ := hB
  rw [ht] at hP1
  obtain ⟨hP, hD⟩ := va_join (wr := []) (w1 := [(h0, .inr (1, [.ref q, .int L])), (q, .inl (cB, n, .inl g_13))]) hP hD [0, 1] [] rfl rfl (by decide +kernel) (by decide +kernel) hk1 hFc hP1 hD1
  clear hPc hDc hFc hP1 hD1 hk1 hz1 hkc hks
  generalize H1 = H at hP hS ⊢
  have hP : va_P D CL [(h0, .inr (1, [.ref q, .int L])), (q, .inl (cB, n, .inl g_13))] H := hP
  have hD : va_D A [(h0, .inr (1, [.ref q, .int L])), (q, .inl (cB, n, .inl g_13))] := hD
  try dsimp only at hp_r12
  have hw_14 := hp_r12
  refine lv_iinc (v := 2) hx hb d_Bytes_putHigh_28 hl (k := 0) rfl (by decide) (by decide +kernel) rfl (fun ls hl => ?_)
  have hl : lv_has ls 5 [(4, .int 2), (0, .ref h0), (1, .int x), (2, .int y), (3, .int 4)] := hl
  refine lv_goto (tgt := 3) hx hb d_Bytes_putHigh_31 (by decide) ?_
  refine lv_iload hx hb d_Bytes_putHigh_3 (lv_at hl 0 rfl) ?_
  refine lv_iload_n hx hb d_Bytes_putHigh_5 rfl (lv_at hl 4 rfl) ?_
  refine lv_icmp_ge (tgt := 34) hx hb d_Bytes_putHigh_6 (by decide) (fun h_9 => absurd h_9 (by decide)) (fun _ => ?_)
  refine lv_aload_n hx hb d_Bytes_putHigh_9 rfl (lv_at hl 1 rfl) ?_
  refine lv_iload_n hx hb d_Bytes_putHigh_10 rfl (lv_at hl 2 rfl) ?_
  refine lv_iload_n hx hb d_Bytes_putHigh_11 rfl (lv_at hl 4 rfl) ?_
  refine lv_iadd hx hb d_Bytes_putHigh_12 ?_
  refine lv_topi (fun v15 e_v15 => ?_)
  have t_v15 : v15.toInt = x.toInt + 4 := by rw [e_v15]; exact i_add rfl (by decide) (by omega) (by omega)
  refine lv_iconst (v := 1) hx hb d_Bytes_putHigh_13 (by decide) ?_
  refine lv_isub hx hb d_Bytes_putHigh_14 ?_
  refine lv_topi (fun v16 e_v16 => ?_)
  have t_v16 : v16.toInt = v15.toInt - 1 := by rw [e_v16]; exact i_sub rfl (by decide) (by omega) (by omega)
  refine lv_iload hx hb d_Bytes_putHigh_15 (lv_at hl 0 rfl) ?_
  refine lv_isub hx hb d_Bytes_putHigh_17 ?_
  refine lv_topi (fun v17 e_v17 => ?_)
  have t_v17 : v17.toInt = v16.toInt - 2 := by rw [e_v17]; exact i_sub rfl (by decide) (by omega) (by omega)
  refine lv_iload_n hx hb d_Bytes_putHigh_18 rfl (lv_at hl 3 rfl) ?_
  refine lv_bipush (v := 8) hx hb d_Bytes_putHigh_19 (by decide) ?_
  refine lv_iload hx hb d_Bytes_putHigh_21 (lv_at hl 0 rfl) ?_
  refine lv_imul hx hb d_Bytes_putHigh_23 ?_
  refine W.eq (g2 := F0 m 24 ls [.int 16, .int y, .int v17, .ref h0]) (by rw [show ((8 : Int32) * 2) = 16 from by decide]) ?_
  refine lv_ishr hx hb d_Bytes_putHigh_24 ?_
  refine lv_topi (fun v18 e_v18 => ?_)
  have t_v18 : v18.toInt = y.toInt / 65536 := by rw [e_v18]; exact i_shr (k := 16) rfl (by decide) (by decide)
  have hPc := hP.sub (ws' := [(h0, .inr (1, [.ref q, .int L])), (q, .inl (cB, n, .inl g_13))]) [0, 1] rfl
  have hDc := hD.sub (ws' := [(h0, .inr (1, [.ref q, .int L])), (q, .inl (cB, n, .inl g_13))]) [0, 1] (by decide +kernel) rfl
  have hFc := va_free (wc := [(h0, .inr (1, [.ref q, .int L])), (q, .inl (cB, n, .inl g_13))]) hD hS hA [0, 1] rfl
  have hkc : 0 ≤ 0 := by decide
  have hks : 0 ≤ 0 := by decide
  refine va_callv (va_runV (C := "DiscMaker$Bytes") (As := [.int v17, .int v18]) (rest := []) ⟨hx, hb, hml, hown, hts⟩ (c3_putF l D cB cI cJ cZ cN cF H.size h0 q n L g_13 v17 v18 (by (try dsimp only); first | assumption | omega | trivial) (by (try dsimp only); first | assumption | omega | trivial) (by (try dsimp only); first | assumption | omega | trivial)) (cwV 2 hts (lg_goodV k988 k912 k913 k119 kc_Bytes_put) rfl rfl rfl (by decide +kernel) ⟨Nat.le_of_ble_eq_true rfl, Nat.le_of_ble_eq_true rfl⟩) ⟨fun a U g mk q => by obtain ⟨q0, q1, qP, qK, qN, qD⟩ := q; exact ⟨q0, q1, qP, va_K.moved (u := U) (U := U.calling g mk a) (Vm.Alike.refl U.vm) qK, qN.calling, qD⟩, va_recv hK hP (ci := 1) (q0 := 0) rfl rfl, fun U hU hW => ⟨rfl, by rw [hU], by rw [hU]; exact hPc, va_K.moved hW.alike hK, NN.warm hW hN, hDc.weaken (fun _ _ _ _ => trivial)⟩⟩ rfl rfl hl.1 rfl (lv_room (Nat.le_of_ble_eq_true rfl)) d_Bytes_putHigh_25 ⟨hkc, hks⟩) hS (fun q _ h => hFc q h) hFc (fun u t H1 locs ht hvm hp_r19 hB hz1 hk1 hS => ?_)
  obtain ⟨g_20, rfl⟩ : ∃ z, z = u := ⟨_, rfl⟩
  obtain ⟨hP1, hD1⟩ := hB
  rw [ht] at hP1
  obtain ⟨hP, hD⟩ := va_join (wr := []) (w1 := [(h0, .inr (1, [.ref q, .int L])), (q, .inl (cB, n, .inl g_20))]) hP hD [0, 1] [] rfl rfl (by decide +kernel) (by decide +kernel) hk1 hFc hP1 hD1
  clear hPc hDc hFc hP1 hD1 hk1 hz1 hkc hks
  generalize H1 = H at hP hS ⊢
  have hP : va_P D CL [(h0, .inr (1, [.ref q, .int L])), (q, .inl (cB, n, .inl g_20))] H := hP
  have hD : va_D A [(h0, .inr (1, [.ref q, .int L])), (q, .inl (cB, n, .inl g_20))] := hD
  try dsimp only at hp_r19
  have hw_21 := hp_r19
  refine lv_iinc (v := 3) hx hb d_Bytes_putHigh_28 hl (k := 0) rfl (by decide) (by decide +kernel) rfl (fun ls hl => ?_)
  have hl : lv_has ls 5 [(4, .int 3), (0, .ref h0), (1, .int x), (2, .int y), (3, .int 4)] := hl
  refine lv_goto (tgt := 3) hx hb d_Bytes_putHigh_31 (by decide) ?_
  refine lv_iload hx hb d_Bytes_putHigh_3 (lv_at hl 0 rfl) ?_
  refine lv_iload_n hx hb d_Bytes_putHigh_5 rfl (lv_at hl 4 rfl) ?_
  refine lv_icmp_ge (tgt := 34) hx hb d_Bytes_putHigh_6 (by decide) (fun h_9 => absurd h_9 (by decide)) (fun _ => ?_)
  refine lv_aload_n hx hb d_Bytes_putHigh_9 rfl (lv_at hl 1 rfl) ?_
  refine lv_iload_n hx hb d_Bytes_putHigh_10 rfl (lv_at hl 2 rfl) ?_
  refine lv_iload_n hx hb d_Bytes_putHigh_11 rfl (lv_at hl 4 rfl) ?_
  refine lv_iadd hx hb d_Bytes_putHigh_12 ?_
  refine lv_topi (fun v22 e_v22 => ?_)
  have t_v22 : v22.toInt = x.toInt + 4 := by rw [e_v22]; exact i_add rfl (by decide) (by omega) (by omega)
  refine lv_iconst (v := 1) hx hb d_Bytes_putHigh_13 (by decide) ?_
  refine lv_isub hx hb d_Bytes_putHigh_14 ?_
  refine lv_topi (fun v23 e_v23 => ?_)
  have t_v23 : v23.toInt = v22.toInt - 1 := by rw [e_v23]; exact i_sub rfl (by decide) (by omega) (by omega)
  refine lv_iload hx hb d_Bytes_putHigh_15 (lv_at hl 0 rfl) ?_
  refine lv_isub hx hb d_Bytes_putHigh_17 ?_
  refine lv_topi (fun v24 e_v24 => ?_)
  have t_v24 : v24.toInt = v23.toInt - 3 := by rw [e_v24]; exact i_sub rfl (by decide) (by omega) (by omega)
  refine lv_iload_n hx hb d_Bytes_putHigh_18 rfl (lv_at hl 3 rfl) ?_
  refine lv_bipush (v := 8) hx hb d_Bytes_putHigh_19 (by decide) ?_
  refine lv_iload hx hb d_Bytes_putHigh_21 (lv_at hl 0 rfl) ?_
  refine lv_imul hx hb d_Bytes_putHigh_23 ?_
  refine W.eq (g2 := F0 m 24 ls [.int 24, .int y, .int v24, .ref h0]) (by rw [show ((8 : Int32) * 3) = 24 from by decide]) ?_
  refine lv_ishr hx hb d_Bytes_putHigh_24 ?_
  refine lv_topi (fun v25 e_v25 => ?_)
  have t_v25 : v25.toInt = y.toInt / 16777216 := by rw [e_v25]; exact i_shr (k := 24) rfl (by decide) (by decide)
  have hPc := hP.sub (ws' := [(h0, .inr (1, [.ref q, .int L])), (q, .inl (cB, n, .inl g_20))]) [0, 1] rfl
  have hDc := hD.sub (ws' := [(h0, .inr (1, [.ref q, .int L])), (q, .inl (cB, n, .inl g_20))]) [0, 1] (by decide +kernel) rfl
  have hFc := va_free (wc := [(h0, .inr (1, [.ref q, .int L])), (q, .inl (cB, n, .inl g_20))]) hD hS hA [0, 1] rfl
  have hkc : 0 ≤ 0 := by decide
  have hks : 0 ≤ 0 := by decide
  refine va_callv (va_runV (C := "DiscMaker$Bytes") (As := [.int v24, .int v25]) (rest := []) ⟨hx, hb, hml, hown, hts⟩ (c3_putF l D cB cI cJ cZ cN cF H.size h0 q n L g_20 v24 v25 (by (try dsimp only); first | assumption | omega | trivial) (by (try dsimp only); first | assumption | omega | trivial) (by (try dsimp only); first | assumption | omega | trivial)) (cwV 2 hts (lg_goodV k988 k912 k913 k119 kc_Bytes_put) rfl rfl rfl (by decide +kernel) ⟨Nat.le_of_ble_eq_true rfl, Nat.le_of_ble_eq_true rfl⟩) ⟨fun a U g mk q => by obtain ⟨q0, q1, qP, qK, qN, qD⟩ := q; exact ⟨q0, q1, qP, va_K.moved (u := U) (U := U.calling g mk a) (Vm.Alike.refl U.vm) qK, qN.calling, qD⟩, va_recv hK hP (ci := 1) (q0 := 0) rfl rfl, fun U hU hW => ⟨rfl, by rw [hU], by rw [hU]; exact hPc, va_K.moved hW.alike hK, NN.warm hW hN, hDc.weaken (fun _ _ _ _ => trivial)⟩⟩ rfl rfl hl.1 rfl (lv_room (Nat.le_of_ble_eq_true rfl)) d_Bytes_putHigh_25 ⟨hkc, hks⟩) hS (fun q _ h => hFc q h) hFc (fun u t H1 locs ht hvm hp_r26 hB hz1 hk1 hS => ?_)
  obtain ⟨g_27, rfl⟩ : ∃ z, z = u := ⟨_, rfl⟩
  obtain ⟨hP1, hD1⟩ := hB
  rw [ht] at hP1
  obtain ⟨hP, hD⟩ := va_join (wr := []) (w1 := [(h0, .inr (1, [.ref q, .int L])), (q, .inl (cB, n, .inl g_27))]) hP hD [0, 1] [] rfl rfl (by decide +kernel) (by decide +kernel) hk1 hFc hP1 hD1
  clear hPc hDc hFc hP1 hD1 hk1 hz1 hkc hks
  generalize H1 = H at hP hS ⊢
  have hP : va_P D CL [(h0, .inr (1, [.ref q, .int L])), (q, .inl (cB, n, .inl g_27))] H := hP
  have hD : va_D A [(h0, .inr (1, [.ref q, .int L])), (q, .inl (cB, n, .inl g_27))] := hD
  try dsimp only at hp_r26
  have hw_28 := hp_r26
  refine lv_iinc (v := 4) hx hb d_Bytes_putHigh_28 hl (k := 0) rfl (by decide) (by decide +kernel) rfl (fun ls hl => ?_)
  have hl : lv_has ls 5 [(4, .int 4), (0, .ref h0), (1, .int x), (2, .int y), (3, .int 4)] := hl
  refine lv_goto (tgt := 3) hx hb d_Bytes_putHigh_31 (by decide) ?_
  refine lv_iload hx hb d_Bytes_putHigh_3 (lv_at hl 0 rfl) ?_
  refine lv_iload_n hx hb d_Bytes_putHigh_5 rfl (lv_at hl 4 rfl) ?_
  refine lv_icmp_ge (tgt := 34) hx hb d_Bytes_putHigh_6 (by decide) (fun _ => ?_) (fun h_9 => absurd (by decide) h_9)
  have hP9 := hP.sub (ws' := [(h0, .inr (1, [.ref q, .int L])), (q, .inl (cB, n, .inl g_27))]) [0, 1] rfl
  have hD9 := hD.sub (ws' := [(h0, .inr (1, [.ref q, .int L])), (q, .inl (cB, n, .inl g_27))]) [0, 1] (by decide +kernel) rfl
  exact W.vret hx hb hr (fun t ht hW => ⟨⟨g_27, rfl, (BL_Bl (ch_d4 (c := fun i => (hL4 y.toInt).getD i 0) hw_7 hw_14 hw_21 hw_28 (by omega) (by omega) (by omega) (by omega) (by show v4.toInt % 256 = y.toInt % 256; omega) (by show v11.toInt % 256 = y.toInt / 256 % 256; omega) (by show v18.toInt % 256 = y.toInt / 65536 % 256; omega) (by show v25.toInt % 256 = y.toInt / 16777216 % 256; omega)) rfl), by rw [ht]; exact hP9, hD9⟩, hS.F ht⟩) hS.2.2 d_Bytes_putHigh_34

set_option maxHeartbeats 4000000 in
set_option maxRecDepth 100000 in
theorem c3_putHigh2F (l : Launch) (D : va_G) (cB cI cJ cZ cN cF : ClassId) (sz : Nat) (h0 : Nat) (q : Nat) (n : Nat) (L : Int32) (f : Nat → Int32) (x : Int32) (y : Int32) (hL : 0 ≤ L.toInt ∧ L.toInt ≤ n) (hn : n ≤ 3000000) (hin : 0 ≤ x.toInt ∧ x.toInt + 2 ≤ L.toInt) : Met l y_Bytes_putHigh w_Bytes_putHigh ({ frames := 1, cells := 0, slots := 0, locals := 28 }) (va_Pc [.ref h0, .int x, .int y, .int 2] (fun U => U.heap.size = sz ∧ va_P D CL [(h0, .inr (1, [.ref q, .int L])), (q, .inl (cB, n, .inl f))] U.heap ∧ va_K D CL (TY cB cI cJ cZ cN cF) U ∧ NN U ∧ va_D (fun _ => True) [(h0, .inr (1, [.ref q, .int L])), (q, .inl (cB, n, .inl f))])) (va_Qv (fun (u : (Nat → Int32)) => match u with | g => (BL (imC f) (imC g) x.toInt (hL2 y.toInt))) (fun (u : (Nat → Int32)) (t : State) => match u with | g => va_P D CL [(h0, .inr (1, [.ref q, .int L])), (q, .inl (cB, n, .inl g))] t.heap ∧ va_D (va_A [(h0, .inr (1, [.ref q, .int L])), (q, .inl (cB, n, .inl f))] sz) [(h0, .inr (1, [.ref q, .int L])), (q, .inl (cB, n, .inl g))]) (va_A [(h0, .inr (1, [.ref q, .int L])), (q, .inl (cB, n, .inl f))] sz)) 0 0 (va_A [(h0, .inr (1, [.ref q, .int L])), (q, .inl (cB, n, .inl f))] sz) := by
  refine Met.ofW (cc := b_Bytes_putHigh) (maxL := 5) (ret := none) (by decide +kernel) rfl ?_
  intro p e s m args below meth c s₁ B hml hv
  obtain ⟨rfl, hsz, hP, hK, hN, hD0⟩ := hv
  have hx := B.exec
  have hb := B.bytes
  have hr := B.returns
  have hts := atoms_spec (ws := w_Bytes_putHigh) B.pre
  have ht9 := fun (w : Cond) (h : w ∈ lw_g) => hts w (List.mem_cons_of_mem _ h)
  have hown : s.vm.findClass "DiscMaker$Bytes" = some m.cls := findClass_of_methodNamed B.named
  have hlocks := B.notSynchronized
  subst hsz
  have hD := hD0.self (sz := s.heap.size)
  generalize hAe : va_A [(h0, .inr (1, [.ref q, .int L])), (q, .inl (cB, n, .inl f))] s.heap.size = A at hD ⊢
  have hA : ∀ q : Nat, s.heap.size ≤ q → A q := fun q h => by rw [← hAe]; exact Or.inr h
  have hS : va_S A s.heap s.heap [] := va_S.rf
  have hP : va_P D CL [(h0, .inr (1, [.ref q, .int L])), (q, .inl (cB, n, .inl f))] s.heap := hP
  have hl := lv_entry [.ref h0, .int x, .int y, .int 2] (n := 5) (Nat.le_of_ble_eq_true rfl)
  rw [lg_entry_eq]
  generalize (lg_sl [.ref h0, .int x, .int y, .int 2] ++ List.replicate (5 - (lg_sl [.ref h0, .int x, .int y, .int 2]).length) Slot.unset).toArray = ls at hl ⊢
  have hl : lv_has ls 5 [(0, .ref h0), (1, .int x), (2, .int y), (3, .int 2)] := hl
  have L_m1 : ((-1) : Int32).toInt = (-1) := by decide
  have L_0 : (0 : Int32).toInt = 0 := by decide
  have L_1 : (1 : Int32).toInt = 1 := by decide
  have L_2 : (2 : Int32).toInt = 2 := by decide
  have L_3 : (3 : Int32).toInt = 3 := by decide
  have L_4 : (4 : Int32).toInt = 4 := by decide
  have L_7 : (7 : Int32).toInt = 7 := by decide
  have L_8 : (8 : Int32).toInt = 8 := by decide
  have L_16 : (16 : Int32).toInt = 16 := by decide
  have L_24 : (24 : Int32).toInt = 24 := by decide
  refine lv_iconst (v := 0) hx hb d_Bytes_putHigh_0 (by decide) ?_
  refine lv_istore hx hb d_Bytes_putHigh_1 hl (by decide) rfl (fun ls hl => ?_)
  have hl : lv_has ls 5 [(4, .int 0), (0, .ref h0), (1, .int x), (2, .int y), (3, .int 2)] := hl
  refine lv_iload hx hb d_Bytes_putHigh_3 (lv_at hl 0 rfl) ?_
  refine lv_iload_n hx hb d_Bytes_putHigh_5 rfl (lv_at hl 4 rfl) ?_
  refine lv_icmp_ge (tgt := 34) hx hb d_Bytes_putHigh_6 (by decide) (fun h_9 => absurd h_9 (by decide)) (fun _ => ?_)
  refine lv_aload_n hx hb d_Bytes_putHigh_9 rfl (lv_at hl 1 rfl) ?_
  refine lv_iload_n hx hb d_Bytes_putHigh_10 rfl (lv_at hl 2 rfl) ?_
  refine lv_iload_n hx hb d_Bytes_putHigh_11 rfl (lv_at hl 4 rfl) ?_
  refine lv_iadd hx hb d_Bytes_putHigh_12 ?_
  refine lv_topi (fun v1 e_v1 => ?_)
  have t_v1 : v1.toInt = x.toInt + 2 := by rw [e_v1]; exact i_add rfl (by decide) (by omega) (by omega)
  refine lv_iconst (v := 1) hx hb d_Bytes_putHigh_13 (by decide) ?_
  refine lv_isub hx hb d_Bytes_putHigh_14 ?_
  refine lv_topi (fun v2 e_v2 => ?_)
  have t_v2 : v2.toInt = v1.toInt - 1 := by rw [e_v2]; exact i_sub rfl (by decide) (by omega) (by omega)
  refine lv_iload hx hb d_Bytes_putHigh_15 (lv_at hl 0 rfl) ?_
  refine lv_isub hx hb d_Bytes_putHigh_17 ?_
  refine lv_topi (fun v3 e_v3 => ?_)
  have t_v3 : v3.toInt = v2.toInt - 0 := by rw [e_v3]; exact i_sub rfl (by decide) (by omega) (by omega)
  refine lv_iload_n hx hb d_Bytes_putHigh_18 rfl (lv_at hl 3 rfl) ?_
  refine lv_bipush (v := 8) hx hb d_Bytes_putHigh_19 (by decide) ?_
  refine lv_iload hx hb d_Bytes_putHigh_21 (lv_at hl 0 rfl) ?_
  refine lv_imul hx hb d_Bytes_putHigh_23 ?_
  refine W.eq (g2 := F0 m 24 ls [.int 0, .int y, .int v3, .ref h0]) (by rw [show ((8 : Int32) * 0) = 0 from by decide]) ?_
  refine lv_ishr hx hb d_Bytes_putHigh_24 ?_
  refine lv_topi (fun v4 e_v4 => ?_)
  have t_v4 : v4.toInt = y.toInt / 1 := by rw [e_v4]; exact i_shr (k := 0) rfl (by decide) (by decide)
  have hPc := hP.sub (ws' := [(h0, .inr (1, [.ref q, .int L])), (q, .inl (cB, n, .inl f))]) [0, 1] rfl
  have hDc := hD.sub (ws' := [(h0, .inr (1, [.ref q, .int L])), (q, .inl (cB, n, .inl f))]) [0, 1] (by decide +kernel) rfl
  have hFc := va_free (wc := [(h0, .inr (1, [.ref q, .int L])), (q, .inl (cB, n, .inl f))]) hD hS hA [0, 1] rfl
  have hkc : 0 ≤ 0 := by decide
  have hks : 0 ≤ 0 := by decide
  refine va_callv (va_runV (C := "DiscMaker$Bytes") (As := [.int v3, .int v4]) (rest := []) ⟨hx, hb, hml, hown, hts⟩ (c3_putF l D cB cI cJ cZ cN cF s.heap.size h0 q n L f v3 v4 (by (try dsimp only); first | assumption | omega | trivial) (by (try dsimp only); first | assumption | omega | trivial) (by (try dsimp only); first | assumption | omega | trivial)) (cwV 2 hts (lg_goodV k988 k912 k913 k119 kc_Bytes_put) rfl rfl rfl (by decide +kernel) ⟨Nat.le_of_ble_eq_true rfl, Nat.le_of_ble_eq_true rfl⟩) ⟨fun a U g mk q => by obtain ⟨q0, q1, qP, qK, qN, qD⟩ := q; exact ⟨q0, q1, qP, va_K.moved (u := U) (U := U.calling g mk a) (Vm.Alike.refl U.vm) qK, qN.calling, qD⟩, va_recv hK hP (ci := 1) (q0 := 0) rfl rfl, fun U hU hW => ⟨rfl, by rw [hU], by rw [hU]; exact hPc, va_K.moved hW.alike hK, NN.warm hW hN, hDc.weaken (fun _ _ _ _ => trivial)⟩⟩ rfl rfl hl.1 rfl (lv_room (Nat.le_of_ble_eq_true rfl)) d_Bytes_putHigh_25 ⟨hkc, hks⟩) hS (fun q _ h => hFc q h) hFc (fun u t H1 locs ht hvm hp_r5 hB hz1 hk1 hS => ?_)
  obtain ⟨g_6, rfl⟩ : ∃ z, z = u := ⟨_, rfl⟩
  obtain ⟨hP1, hD1⟩ := hB
  rw [ht] at hP1
  obtain ⟨hP, hD⟩ := va_join (wr := []) (w1 := [(h0, .inr (1, [.ref q, .int L])), (q, .inl (cB, n, .inl g_6))]) hP hD [0, 1] [] rfl rfl (by decide +kernel) (by decide +kernel) hk1 hFc hP1 hD1
  clear hPc hDc hFc hP1 hD1 hk1 hz1 hkc hks
  generalize H1 = H at hP hS ⊢
  have hP : va_P D CL [(h0, .inr (1, [.ref q, .int L])), (q, .inl (cB, n, .inl g_6))] H := hP
  have hD : va_D A [(h0, .inr (1, [.ref q, .int L])), (q, .inl (cB, n, .inl g_6))] := hD
  try dsimp only at hp_r5
  have hw_7 := hp_r5
  refine lv_iinc (v := 1) hx hb d_Bytes_putHigh_28 hl (k := 0) rfl (by decide) (by decide +kernel) rfl (fun ls hl => ?_)
  have hl : lv_has ls 5 [(4, .int 1), (0, .ref h0), (1, .int x), (2, .int y), (3, .int 2)] := hl
  refine lv_goto (tgt := 3) hx hb d_Bytes_putHigh_31 (by decide) ?_
  refine lv_iload hx hb d_Bytes_putHigh_3 (lv_at hl 0 rfl) ?_
  refine lv_iload_n hx hb d_Bytes_putHigh_5 rfl (lv_at hl 4 rfl) ?_
  refine lv_icmp_ge (tgt := 34) hx hb d_Bytes_putHigh_6 (by decide) (fun h_9 => absurd h_9 (by decide)) (fun _ => ?_)
  refine lv_aload_n hx hb d_Bytes_putHigh_9 rfl (lv_at hl 1 rfl) ?_
  refine lv_iload_n hx hb d_Bytes_putHigh_10 rfl (lv_at hl 2 rfl) ?_
  refine lv_iload_n hx hb d_Bytes_putHigh_11 rfl (lv_at hl 4 rfl) ?_
  refine lv_iadd hx hb d_Bytes_putHigh_12 ?_
  refine lv_topi (fun v8 e_v8 => ?_)
  have t_v8 : v8.toInt = x.toInt + 2 := by rw [e_v8]; exact i_add rfl (by decide) (by omega) (by omega)
  refine lv_iconst (v := 1) hx hb d_Bytes_putHigh_13 (by decide) ?_
  refine lv_isub hx hb d_Bytes_putHigh_14 ?_
  refine lv_topi (fun v9 e_v9 => ?_)
  have t_v9 : v9.toInt = v8.toInt - 1 := by rw [e_v9]; exact i_sub rfl (by decide) (by omega) (by omega)
  refine lv_iload hx hb d_Bytes_putHigh_15 (lv_at hl 0 rfl) ?_
  refine lv_isub hx hb d_Bytes_putHigh_17 ?_
  refine lv_topi (fun v10 e_v10 => ?_)
  have t_v10 : v10.toInt = v9.toInt - 1 := by rw [e_v10]; exact i_sub rfl (by decide) (by omega) (by omega)
  refine lv_iload_n hx hb d_Bytes_putHigh_18 rfl (lv_at hl 3 rfl) ?_
  refine lv_bipush (v := 8) hx hb d_Bytes_putHigh_19 (by decide) ?_
  refine lv_iload hx hb d_Bytes_putHigh_21 (lv_at hl 0 rfl) ?_
  refine lv_imul hx hb d_Bytes_putHigh_23 ?_
  refine W.eq (g2 := F0 m 24 ls [.int 8, .int y, .int v10, .ref h0]) (by rw [show ((8 : Int32) * 1) = 8 from by decide]) ?_
  refine lv_ishr hx hb d_Bytes_putHigh_24 ?_
  refine lv_topi (fun v11 e_v11 => ?_)
  have t_v11 : v11.toInt = y.toInt / 256 := by rw [e_v11]; exact i_shr (k := 8) rfl (by decide) (by decide)
  have hPc := hP.sub (ws' := [(h0, .inr (1, [.ref q, .int L])), (q, .inl (cB, n, .inl g_6))]) [0, 1] rfl
  have hDc := hD.sub (ws' := [(h0, .inr (1, [.ref q, .int L])), (q, .inl (cB, n, .inl g_6))]) [0, 1] (by decide +kernel) rfl
  have hFc := va_free (wc := [(h0, .inr (1, [.ref q, .int L])), (q, .inl (cB, n, .inl g_6))]) hD hS hA [0, 1] rfl
  have hkc : 0 ≤ 0 := by decide
  have hks : 0 ≤ 0 := by decide
  refine va_callv (va_runV (C := "DiscMaker$Bytes") (As := [.int v10, .int v11]) (rest := []) ⟨hx, hb, hml, hown, hts⟩ (c3_putF l D cB cI cJ cZ cN cF H.size h0 q n L g_6 v10 v11 (by (try dsimp only); first | assumption | omega | trivial) (by (try dsimp only); first | assumption | omega | trivial) (by (try dsimp only); first | assumption | omega | trivial)) (cwV 2 hts (lg_goodV k988 k912 k913 k119 kc_Bytes_put) rfl rfl rfl (by decide +kernel) ⟨Nat.le_of_ble_eq_true rfl, Nat.le_of_ble_eq_true rfl⟩) ⟨fun a U g mk q => by obtain ⟨q0, q1, qP, qK, qN, qD⟩ := q; exact ⟨q0, q1, qP, va_K.moved (u := U) (U := U.calling g mk a) (Vm.Alike.refl U.vm) qK, qN.calling, qD⟩, va_recv hK hP (ci := 1) (q0 := 0) rfl rfl, fun U hU hW => ⟨rfl, by rw [hU], by rw [hU]; exact hPc, va_K.moved hW.alike hK, NN.warm hW hN, hDc.weaken (fun _ _ _ _ => trivial)⟩⟩ rfl rfl hl.1 rfl (lv_room (Nat.le_of_ble_eq_true rfl)) d_Bytes_putHigh_25 ⟨hkc, hks⟩) hS (fun q _ h => hFc q h) hFc (fun u t H1 locs ht hvm hp_r12 hB hz1 hk1 hS => ?_)
  obtain ⟨g_13, rfl⟩ : ∃ z, z = u := ⟨_, rfl⟩
  obtain ⟨hP1, hD1⟩ := hB
  rw [ht] at hP1
  obtain ⟨hP, hD⟩ := va_join (wr := []) (w1 := [(h0, .inr (1, [.ref q, .int L])), (q, .inl (cB, n, .inl g_13))]) hP hD [0, 1] [] rfl rfl (by decide +kernel) (by decide +kernel) hk1 hFc hP1 hD1
  clear hPc hDc hFc hP1 hD1 hk1 hz1 hkc hks
  generalize H1 = H at hP hS ⊢
  have hP : va_P D CL [(h0, .inr (1, [.ref q, .int L])), (q, .inl (cB, n, .inl g_13))] H := hP
  have hD : va_D A [(h0, .inr (1, [.ref q, .int L])), (q, .inl (cB, n, .inl g_13))] := hD
  try dsimp only at hp_r12
  have hw_14 := hp_r12
  refine lv_iinc (v := 2) hx hb d_Bytes_putHigh_28 hl (k := 0) rfl (by decide) (by decide +kernel) rfl (fun ls hl => ?_)
  have hl : lv_has ls 5 [(4, .int 2), (0, .ref h0), (1, .int x), (2, .int y), (3, .int 2)] := hl
  refine lv_goto (tgt := 3) hx hb d_Bytes_putHigh_31 (by decide) ?_
  refine lv_iload hx hb d_Bytes_putHigh_3 (lv_at hl 0 rfl) ?_
  refine lv_iload_n hx hb d_Bytes_putHigh_5 rfl (lv_at hl 4 rfl) ?_
  refine lv_icmp_ge (tgt := 34) hx hb d_Bytes_putHigh_6 (by decide) (fun _ => ?_) (fun h_9 => absurd (by decide) h_9)
  have hP9 := hP.sub (ws' := [(h0, .inr (1, [.ref q, .int L])), (q, .inl (cB, n, .inl g_13))]) [0, 1] rfl
  have hD9 := hD.sub (ws' := [(h0, .inr (1, [.ref q, .int L])), (q, .inl (cB, n, .inl g_13))]) [0, 1] (by decide +kernel) rfl
  exact W.vret hx hb hr (fun t ht hW => ⟨⟨g_13, rfl, (BL_Bl (ch_d2 (c := fun i => (hL2 y.toInt).getD i 0) hw_7 hw_14 (by omega) (by omega) (by show v4.toInt % 256 = y.toInt % 256; omega) (by show v11.toInt % 256 = y.toInt / 256 % 256; omega)) rfl), by rw [ht]; exact hP9, hD9⟩, hS.F ht⟩) hS.2.2 d_Bytes_putHigh_34

set_option maxHeartbeats 4000000 in
set_option maxRecDepth 100000 in
theorem c3_copyToF (l : Launch) (D : va_G) (cB cI cJ cZ cN cF : ClassId) (sz : Nat) (h0 : Nat) (q : Nat) (n : Nat) (L : Int32) (f : Nat → Int32) (k0 : Nat) (kq : Nat) (kn : Nat) (kL : Int32) (kf : Nat → Int32) (x : Int32) (y : Int32) (z : Int32) (hL : 0 ≤ L.toInt ∧ L.toInt ≤ n) (hn : n ≤ 3000000) (hLk : 0 ≤ kL.toInt ∧ kL.toInt ≤ kn) (hnk : kn ≤ 3000000) (hin : 0 ≤ x.toInt ∧ 0 ≤ z.toInt ∧ x.toInt + z.toInt ≤ L.toInt) (hin2 : 0 ≤ y.toInt ∧ y.toInt + z.toInt ≤ kL.toInt) : Met l y_Bytes_copyTo w_Bytes_copyTo ({ frames := 1, cells := 0, slots := 0, locals := 28 }) (va_Pc [.ref h0, .ref k0, .int x, .int y, .int z] (fun U => U.heap.size = sz ∧ va_P D CL [(h0, .inr (1, [.ref q, .int L])), (q, .inl (cB, n, .inl f)), (k0, .inr (1, [.ref kq, .int kL])), (kq, .inl (cB, kn, .inl kf))] U.heap ∧ va_K D CL (TY cB cI cJ cZ cN cF) U ∧ NN U ∧ va_D (fun _ => True) [(h0, .inr (1, [.ref q, .int L])), (q, .inl (cB, n, .inl f)), (k0, .inr (1, [.ref kq, .int kL])), (kq, .inl (cB, kn, .inl kf))])) (va_Qv (fun (u : (Nat → Int32)) => match u with | g => (BL (imC kf) (imC g) y.toInt (tbL (fun i => imC f (x.toNatClampNeg + i)) z.toInt.toNat))) (fun (u : (Nat → Int32)) (t : State) => match u with | g => va_P D CL [(h0, .inr (1, [.ref q, .int L])), (q, .inl (cB, n, .inl f)), (k0, .inr (1, [.ref kq, .int kL])), (kq, .inl (cB, kn, .inl g))] t.heap ∧ va_D (va_A [(h0, .inr (1, [.ref q, .int L])), (q, .inl (cB, n, .inl f)), (k0, .inr (1, [.ref kq, .int kL])), (kq, .inl (cB, kn, .inl kf))] sz) [(h0, .inr (1, [.ref q, .int L])), (q, .inl (cB, n, .inl f)), (k0, .inr (1, [.ref kq, .int kL])), (kq, .inl (cB, kn, .inl g))]) (va_A [(h0, .inr (1, [.ref q, .int L])), (q, .inl (cB, n, .inl f)), (k0, .inr (1, [.ref kq, .int kL])), (kq, .inl (cB, kn, .inl kf))] sz)) 0 0 (va_A [(h0, .inr (1, [.ref q, .int L])), (q, .inl (cB, n, .inl f)), (k0, .inr (1, [.ref kq, .int kL])), (kq, .inl (cB, kn, .inl kf))] sz) := by
  refine Met.ofW (cc := b_Bytes_copyTo) (maxL := 6) (ret := none) (by decide +kernel) rfl ?_
  intro p e s m args below meth c s₁ B hml hv
  obtain ⟨rfl, hsz, hP, hK, hN, hD0⟩ := hv
  have hx := B.exec
  have hb := B.bytes
  have hr := B.returns
  have hts := atoms_spec (ws := w_Bytes_copyTo) B.pre
  have ht9 := fun (w : Cond) (h : w ∈ lw_g) => hts w (List.mem_cons_of_mem _ h)
  have hown : s.vm.findClass "DiscMaker$Bytes" = some m.cls := findClass_of_methodNamed B.named
  have hlocks := B.notSynchronized
  subst hsz
  have hD := hD0.self (sz := s.heap.size)
  generalize hAe : va_A [(h0, .inr (1, [.ref q, .int L])), (q, .inl (cB, n, .inl f)), (k0, .inr (1, [.ref kq, .int kL])), (kq, .inl (cB, kn, .inl kf))] s.heap.size = A at hD ⊢
  have hA : ∀ q : Nat, s.heap.size ≤ q → A q := fun q h => by rw [← hAe]; exact Or.inr h
  have hS : va_S A s.heap s.heap [] := va_S.rf
  have hP : va_P D CL [(h0, .inr (1, [.ref q, .int L])), (q, .inl (cB, n, .inl f)), (k0, .inr (1, [.ref kq, .int kL])), (kq, .inl (cB, kn, .inl kf))] s.heap := hP
  have hl := lv_entry [.ref h0, .ref k0, .int x, .int y, .int z] (n := 6) (Nat.le_of_ble_eq_true rfl)
  rw [lg_entry_eq]
  generalize (lg_sl [.ref h0, .ref k0, .int x, .int y, .int z] ++ List.replicate (6 - (lg_sl [.ref h0, .ref k0, .int x, .int y, .int z]).length) Slot.unset).toArray = ls at hl ⊢
  have hl : lv_has ls 6 [(0, .ref h0), (1, .ref k0), (2, .int x), (3, .int y), (4, .int z)] := hl
  have L_m1 : ((-1) : Int32).toInt = (-1) := by decide
  have L_0 : (0 : Int32).toInt = 0 := by decide
  have L_1 : (1 : Int32).toInt = 1 := by decide
  refine lv_iconst (v := 0) hx hb d_Bytes_copyTo_0 (by decide) ?_
  refine lv_istore hx hb d_Bytes_copyTo_1 hl (by decide) rfl (fun ls hl => ?_)
  have hl : lv_has ls 6 [(5, .int 0), (0, .ref h0), (1, .ref k0), (2, .int x), (3, .int y), (4, .int z)] := hl
  refine zz_labM (B := fun (lk : Nat) (K : Heap → List Loc → Array Slot → List Value → Prop) => ∀ (kx : Int32) (lf : Nat → Int32) (H : Heap) (locs : List Loc) (ls : Array Slot), lk = (z.toInt - kx.toInt).toNat → (0 ≤ kx.toInt ∧ kx.toInt ≤ z.toInt) → (BL (imC kf) (imC lf) y.toInt (tbL (fun i => imC f (x.toNatClampNeg + i)) kx.toInt.toNat)) → va_P D CL [(h0, .inr (1, [.ref q, .int L])), (q, .inl (cB, n, .inl f)), (k0, .inr (1, [.ref kq, .int kL])), (kq, .inl (cB, kn, .inl lf))] H → va_D A [(h0, .inr (1, [.ref q, .int L])), (q, .inl (cB, n, .inl f)), (k0, .inr (1, [.ref kq, .int kL])), (kq, .inl (cB, kn, .inl lf))] → va_S A s.heap H locs → lv_has ls 6 [(0, .ref h0), (1, .ref k0), (2, .int x), (3, .int y), (4, .int z), (5, .int kx)] → K H locs ls []) 3 ?_ ?_
  · skip
    intro lk ih3 kx lf H locs ls hm3 f1 f3 hP hD hS hl
    refine lv_iload hx hb d_Bytes_copyTo_3 (lv_at hl 5 rfl) ?_
    refine lv_iload hx hb d_Bytes_copyTo_5 (lv_at hl 4 rfl) ?_
    refine lv_icmp_ge (tgt := 32) hx hb d_Bytes_copyTo_7 (by decide) (fun h_9 => ?_) (fun h_9 => ?_)
    · skip
      have g7_5 : z.toInt ≤ kx.toInt := (i_le rfl rfl).mp h_9
      have hP9 := hP.sub (ws' := [(h0, .inr (1, [.ref q, .int L])), (q, .inl (cB, n, .inl f)), (k0, .inr (1, [.ref kq, .int kL])), (kq, .inl (cB, kn, .inl lf))]) [0, 1, 2, 3] rfl
      have hD9 := hD.sub (ws' := [(h0, .inr (1, [.ref q, .int L])), (q, .inl (cB, n, .inl f)), (k0, .inr (1, [.ref kq, .int kL])), (kq, .inl (cB, kn, .inl lf))]) [0, 1, 2, 3] (by decide +kernel) rfl
      exact W.vret hx hb hr (fun t ht hW => ⟨⟨lf, rfl, (by (try dsimp only); have h7 := f3; rw [show kx.toInt = z.toInt by omega] at h7; exact h7), by rw [ht]; exact hP9, hD9⟩, hS.F ht⟩) hS.2.2 d_Bytes_copyTo_32
    · skip
      have g7_5 : ¬ z.toInt ≤ kx.toInt := fun h8 => h_9 ((i_le rfl rfl).mpr h8)
      refine lv_aload_n hx hb d_Bytes_copyTo_10 rfl (lv_at hl 1 rfl) ?_
      refine lv_iload_n hx hb d_Bytes_copyTo_11 rfl (lv_at hl 3 rfl) ?_
      refine lv_iload hx hb d_Bytes_copyTo_12 (lv_at hl 5 rfl) ?_
      refine lv_iadd hx hb d_Bytes_copyTo_14 ?_
      refine lv_topi (fun v1 e_v1 => ?_)
      have t_v1 : v1.toInt = y.toInt + kx.toInt := by rw [e_v1]; exact i_add rfl rfl (by omega) (by omega)
      refine lv_aload_n hx hb d_Bytes_copyTo_15 rfl (lv_at hl 0 rfl) ?_
      refine lv_iload_n hx hb d_Bytes_copyTo_16 rfl (lv_at hl 2 rfl) ?_
      refine lv_iload hx hb d_Bytes_copyTo_17 (lv_at hl 5 rfl) ?_
      refine lv_iadd hx hb d_Bytes_copyTo_19 ?_
      refine lv_topi (fun v2 e_v2 => ?_)
      have t_v2 : v2.toInt = x.toInt + kx.toInt := by rw [e_v2]; exact i_add rfl rfl (by omega) (by omega)
      have hPc := hP.sub (ws' := [(h0, .inr (1, [.ref q, .int L])), (q, .inl (cB, n, .inl f))]) [0, 1] rfl
      have hDc := hD.sub (ws' := [(h0, .inr (1, [.ref q, .int L])), (q, .inl (cB, n, .inl f))]) [0, 1] (by decide +kernel) rfl
      have hFc := va_free (wc := [(h0, .inr (1, [.ref q, .int L])), (q, .inl (cB, n, .inl f))]) hD hS hA [0, 1] rfl
      have hkc : 0 ≤ 0 := by decide
      have hks : 0 ≤ 0 := by decide
      refine va_calli (va_runV (C := "DiscMaker$Bytes") (As := [.int v2]) (rest := [.int v1, .ref k0]) ⟨hx, hb, hml, hown, hts⟩ (c3_at l D cB cI cJ cZ cN cF H.size h0 q n L f v2 (by (try dsimp only); first | assumption | omega | trivial) (by (try dsimp only); first | assumption | omega | trivial)) (cwV 1 hts (lg_goodV k1064 k1065 k1066 k119 kc_Bytes_at) rfl rfl rfl (by decide +kernel) ⟨Nat.le_of_ble_eq_true rfl, Nat.le_of_ble_eq_true rfl⟩) ⟨fun a U g mk q => by obtain ⟨q0, q1, qP, qK, qN, qD⟩ := q; exact ⟨q0, q1, qP, va_K.moved (u := U) (U := U.calling g mk a) (Vm.Alike.refl U.vm) qK, qN.calling, qD⟩, va_recv hK hP (ci := 1) (q0 := 0) rfl rfl, fun U hU hW => ⟨rfl, by rw [hU], by rw [hU]; exact hPc, va_K.moved hW.alike hK, NN.warm hW hN, hDc.weaken (fun _ _ _ _ => trivial)⟩⟩ rfl rfl hl.1 rfl (lv_room (Nat.le_of_ble_eq_true rfl)) d_Bytes_copyTo_20 ⟨hkc, hks⟩) hS (fun q _ h => hFc q h) hFc (fun r3 u t H1 locs ht hvm hp_r3 hB hz1 hk1 hS => ?_)
      obtain ⟨hP1, hD1⟩ := hB
      rw [ht] at hP1
      obtain ⟨hP, hD⟩ := va_join (wr := [(k0, .inr (1, [.ref kq, .int kL])), (kq, .inl (cB, kn, .inl lf))]) (w1 := [(h0, .inr (1, [.ref q, .int L])), (q, .inl (cB, n, .inl f))]) hP hD [0, 1] [2, 3] rfl rfl (by decide +kernel) (by decide +kernel) hk1 hFc hP1 hD1
      clear hPc hDc hFc hP1 hD1 hk1 hz1 hkc hks
      generalize H1 = H at hP hS ⊢
      have hP : va_P D CL [(k0, .inr (1, [.ref kq, .int kL])), (kq, .inl (cB, kn, .inl lf)), (h0, .inr (1, [.ref q, .int L])), (q, .inl (cB, n, .inl f))] H := hP
      have hD : va_D A [(k0, .inr (1, [.ref kq, .int kL])), (kq, .inl (cB, kn, .inl lf)), (h0, .inr (1, [.ref q, .int L])), (q, .inl (cB, n, .inl f))] := hD
      try dsimp only at hp_r3
      obtain ⟨hr_4, hv_5⟩ := hp_r3
      have hPc := hP.sub (ws' := [(k0, .inr (1, [.ref kq, .int kL])), (kq, .inl (cB, kn, .inl lf))]) [0, 1] rfl
      have hDc := hD.sub (ws' := [(k0, .inr (1, [.ref kq, .int kL])), (kq, .inl (cB, kn, .inl lf))]) [0, 1] (by decide +kernel) rfl
      have hFc := va_free (wc := [(k0, .inr (1, [.ref kq, .int kL])), (kq, .inl (cB, kn, .inl lf))]) hD hS hA [0, 1] rfl
      have hkc : 0 ≤ 0 := by decide
      have hks : 0 ≤ 0 := by decide
      refine va_callv (va_runV (C := "DiscMaker$Bytes") (As := [.int v1, .int r3]) (rest := []) ⟨hx, hb, hml, hown, hts⟩ (c3_putF l D cB cI cJ cZ cN cF H.size k0 kq kn kL lf v1 r3 (by (try dsimp only); first | assumption | omega | trivial) (by (try dsimp only); first | assumption | omega | trivial) (by (try dsimp only); first | assumption | omega | trivial)) (cwV 2 hts (lg_goodV k988 k912 k913 k119 kc_Bytes_put) rfl rfl rfl (by decide +kernel) ⟨Nat.le_of_ble_eq_true rfl, Nat.le_of_ble_eq_true rfl⟩) ⟨fun a U g mk q => by obtain ⟨q0, q1, qP, qK, qN, qD⟩ := q; exact ⟨q0, q1, qP, va_K.moved (u := U) (U := U.calling g mk a) (Vm.Alike.refl U.vm) qK, qN.calling, qD⟩, va_recv hK hP (ci := 1) (q0 := 0) rfl rfl, fun U hU hW => ⟨rfl, by rw [hU], by rw [hU]; exact hPc, va_K.moved hW.alike hK, NN.warm hW hN, hDc.weaken (fun _ _ _ _ => trivial)⟩⟩ rfl rfl hl.1 rfl (lv_room (Nat.le_of_ble_eq_true rfl)) d_Bytes_copyTo_23 ⟨hkc, hks⟩) hS (fun q _ h => hFc q h) hFc (fun u t H1 locs ht hvm hp_r6 hB hz1 hk1 hS => ?_)
      obtain ⟨g_7, rfl⟩ : ∃ z, z = u := ⟨_, rfl⟩
      obtain ⟨hP1, hD1⟩ := hB
      rw [ht] at hP1
      obtain ⟨hP, hD⟩ := va_join (wr := [(h0, .inr (1, [.ref q, .int L])), (q, .inl (cB, n, .inl f))]) (w1 := [(k0, .inr (1, [.ref kq, .int kL])), (kq, .inl (cB, kn, .inl g_7))]) hP hD [0, 1] [2, 3] rfl rfl (by decide +kernel) (by decide +kernel) hk1 hFc hP1 hD1
      clear hPc hDc hFc hP1 hD1 hk1 hz1 hkc hks
      generalize H1 = H at hP hS ⊢
      have hP : va_P D CL [(h0, .inr (1, [.ref q, .int L])), (q, .inl (cB, n, .inl f)), (k0, .inr (1, [.ref kq, .int kL])), (kq, .inl (cB, kn, .inl g_7))] H := hP
      have hD : va_D A [(h0, .inr (1, [.ref q, .int L])), (q, .inl (cB, n, .inl f)), (k0, .inr (1, [.ref kq, .int kL])), (kq, .inl (cB, kn, .inl g_7))] := hD
      try dsimp only at hp_r6
      have hw_8 := hp_r6
      obtain ⟨v9, e_v9⟩ : ∃ z : Int32, z = kx + 1 := ⟨_, rfl⟩
      refine lv_iinc (v := v9) hx hb d_Bytes_copyTo_26 hl (k := 5) rfl e_v9.symm (by decide +kernel) rfl (fun ls hl => ?_)
      have t_v9 : v9.toInt = kx.toInt + 1 := by rw [e_v9]; exact i_add rfl (by decide) (by omega) (by omega)
      have hl : lv_has ls 6 [(5, .int v9), (0, .ref h0), (1, .ref k0), (2, .int x), (3, .int y), (4, .int z)] := hl
      refine lv_goto (tgt := 3) hx hb d_Bytes_copyTo_29 (by decide) ?_
      have hP := hP.sub (ws' := [(h0, .inr (1, [.ref q, .int L])), (q, .inl (cB, n, .inl f)), (k0, .inr (1, [.ref kq, .int kL])), (kq, .inl (cB, kn, .inl g_7))]) [0, 1, 2, 3] rfl
      have hD := hD.sub (ws' := [(h0, .inr (1, [.ref q, .int L])), (q, .inl (cB, n, .inl f)), (k0, .inr (1, [.ref kq, .int kL])), (kq, .inl (cB, kn, .inl g_7))]) [0, 1, 2, 3] (by decide +kernel) rfl
      have hl := lv_sub hl [1, 2, 3, 4, 5, 0] rfl
      exact ih3 _ (by first | omega | (dsimp only; omega)) v9 g_7 _ _ _ rfl ((by (try dsimp only); first | assumption | omega | trivial)) ((BL.step f3 hw_8 (by omega) (by omega) (show v9.toInt = kx.toInt + 1 by omega) (by rw [hv_5, atB_im (by omega) (by omega)]; have h7 := i_cl (a := v2) (by omega); have h6 := i_cl (a := x) (by omega); rw [show v2.toNatClampNeg = x.toNatClampNeg + kx.toInt.toNat by omega]; exact imC_mod _ _))) hP hD hS hl
  · skip
    intro kk3
    have hP := hP.sub (ws' := [(h0, .inr (1, [.ref q, .int L])), (q, .inl (cB, n, .inl f)), (k0, .inr (1, [.ref kq, .int kL])), (kq, .inl (cB, kn, .inl kf))]) [0, 1, 2, 3] rfl
    have hD := hD.sub (ws' := [(h0, .inr (1, [.ref q, .int L])), (q, .inl (cB, n, .inl f)), (k0, .inr (1, [.ref kq, .int kL])), (kq, .inl (cB, kn, .inl kf))]) [0, 1, 2, 3] (by decide +kernel) rfl
    have hl := lv_sub hl [1, 2, 3, 4, 5, 0] rfl
    exact kk3 _ 0 kf _ _ _ rfl ((by (try dsimp only); first | assumption | omega | trivial)) ((BL_tb0 (by omega))) hP hD hS hl
