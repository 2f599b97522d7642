theorem d_Bytes_put_0 : decode b_Bytes_put 0 = .ok (.iload_n 1, 1) := by decide +kernel
theorem d_Bytes_put_1 : decode b_Bytes_put 1 = .ok (.ifCond .lt 19, 3) := by decide +kernel
theorem d_Bytes_put_4 : decode b_Bytes_put 4 = .ok (.iload_n 1, 1) := by decide +kernel
theorem d_Bytes_put_5 : decode b_Bytes_put 5 = .ok (.aload_n 0, 1) := by decide +kernel
theorem d_Bytes_put_6 : decode b_Bytes_put 6 = .ok (.getfield 25, 3) := by decide +kernel
theorem d_Bytes_put_9 : decode b_Bytes_put 9 = .ok (.if_icmp .ge 11, 3) := by decide +kernel
theorem d_Bytes_put_12 : decode b_Bytes_put 12 = .ok (.aload_n 0, 1) := by decide +kernel
theorem d_Bytes_put_13 : decode b_Bytes_put 13 = .ok (.getfield 7, 3) := by decide +kernel
theorem d_Bytes_put_16 : decode b_Bytes_put 16 = .ok (.iload_n 1, 1) := by decide +kernel
theorem d_Bytes_put_17 : decode b_Bytes_put 17 = .ok (.iload_n 2, 1) := by decide +kernel
theorem d_Bytes_put_18 : decode b_Bytes_put 18 = .ok (.i2b, 1) := by decide +kernel
theorem d_Bytes_put_19 : decode b_Bytes_put 19 = .ok (.bastore, 1) := by decide +kernel
theorem d_Bytes_put_20 : decode b_Bytes_put 20 = .ok (.return_, 1) := by decide +kernel
set_option maxHeartbeats 4000000 in
set_option maxRecDepth 100000 in
theorem c_put (l : Launch) (D : va_G) (cB cI cJ cZ cN cF : ClassId) (sz : Nat) (h0 q L n : Nat) (f : Nat → Int32) (i v : Int32) (hL : L ≤ n) (hn : n < 2147483648) : Met l y_Bytes_put w_Bytes_put ({ frames := 0, cells := 0, slots := 0, locals := 0 }) (va_Pc [.ref h0, .int i, .int v] (fun U => U.heap.size = sz ∧ va_P D CL [(h0, .inr (1, [.ref q, .int (nI L)])), (q, .inl (cB, n, .inl f))] U.heap ∧ va_K D CL (TY cB cI cJ cZ cN cF) U ∧ NN U ∧ va_D (fun _ => True) [(h0, .inr (1, [.ref q, .int (nI L)])), (q, .inl (cB, n, .inl f))])) (va_Qv (fun (u : Nat → Int32) => True) (fun (u : Nat → Int32) (t : State) => match u with | g => va_P D CL [(h0, .inr (1, [.ref q, .int (nI L)])), (q, .inl (cB, n, .inl g))] t.heap ∧ va_D (va_A [(h0, .inr (1, [.ref q, .int (nI L)])), (q, .inl (cB, n, .inl f))] sz) [(h0, .inr (1, [.ref q, .int (nI L)])), (q, .inl (cB, n, .inl g))]) (va_A [(h0, .inr (1, [.ref q, .int (nI L)])), (q, .inl (cB, n, .inl f))] sz)) 0 0 (va_A [(h0, .inr (1, [.ref q, .int (nI L)])), (q, .inl (cB, n, .inl f))] sz) := by
  refine Met.ofW (cc := b_Bytes_put) (maxL := 3) (ret := none) (by decide) rfl ?_
  intro p e s m args below meth c s₁ B hml hv
  obtain ⟨rfl, hsz, hP, hK, hN, hD0⟩ := hv
  have hx := B.exec
  have hb := B.bytes
  have hr := B.returns
  have hts := atoms_spec (ws := w_Bytes_put) B.pre
  have ht9 := fun (w : Cond) (h : w ∈ lw_g) => hts w (List.mem_cons_of_mem _ h)
  have hown : s.vm.findClass "DiscMaker$Bytes" = some m.cls := findClass_of_methodNamed B.named
  have hlocks := B.notSynchronized
  subst hsz
  have hD := hD0.self (sz := s.heap.size)
  generalize hAe : va_A [(h0, .inr (1, [.ref q, .int (nI L)])), (q, .inl (cB, n, .inl f))] s.heap.size = A at hD ⊢
  have hA : ∀ q : Nat, s.heap.size ≤ q → A q := fun q h => by rw [← hAe]; exact Or.inr h
  have hS : va_S A s.heap s.heap [] := va_S.rf
  have hP : va_P D CL [(h0, .inr (1, [.ref q, .int (nI L)])), (q, .inl (cB, n, .inl f))] s.heap := hP
  have hl := lv_entry [.ref h0, .int i, .int v] (n := 3) (Nat.le_of_ble_eq_true rfl)
  rw [lg_entry_eq]
  generalize (lg_sl [.ref h0, .int i, .int v] ++ List.replicate (3 - (lg_sl [.ref h0, .int i, .int v]).length) Slot.unset).toArray = ls at hl ⊢
  have hl : lv_has ls 3 [(0, .ref h0), (1, .int i), (2, .int v)] := hl
  refine lv_iload_n hx hb d_Bytes_put_0 rfl (lv_at hl 1 rfl) ?_
  refine lv_if_lt (tgt := 20) hx hb d_Bytes_put_1 (by decide) (fun h_1 => ?_) (fun h_1 => ?_)
  · skip
    have hP9 := hP.sub (ws' := [(h0, .inr (1, [.ref q, .int (nI L)])), (q, .inl (cB, n, .inl f))]) [0, 1] rfl
    have hD9 := hD.sub (ws' := [(h0, .inr (1, [.ref q, .int (nI L)])), (q, .inl (cB, n, .inl f))]) [0, 1] (by decide) rfl
    exact W.vret hx hb hr (fun t ht hW => ⟨⟨f, rfl, trivial, by rw [ht]; exact hP9, hD9⟩, hS.F ht⟩) hS.2.2 d_Bytes_put_20
  · skip
    refine lv_iload_n hx hb d_Bytes_put_4 rfl (lv_at hl 1 rfl) ?_
    refine lv_aload_n hx hb d_Bytes_put_5 rfl (lv_at hl 0 rfl) ?_
    refine va_get (D := D) (ci := 1) (v := .int (nI L)) (C := "DiscMaker$Bytes") (T := F_Bytes) (N := 2) hx hb ht9 in_Bytes hown hK hP 0 rfl rfl 1 (by decide) (ht9 _ k258) (fun _ h9 => h9) rfl d_Bytes_put_6 ?_
    refine lv_icmp_ge (tgt := 20) hx hb d_Bytes_put_9 (by decide) (fun h_9 => ?_) (fun h_9 => ?_)
    · skip
      have hP9 := hP.sub (ws' := [(h0, .inr (1, [.ref q, .int (nI L)])), (q, .inl (cB, n, .inl f))]) [0, 1] rfl
      have hD9 := hD.sub (ws' := [(h0, .inr (1, [.ref q, .int (nI L)])), (q, .inl (cB, n, .inl f))]) [0, 1] (by decide) rfl
      exact W.vret hx hb hr (fun t ht hW => ⟨⟨f, rfl, trivial, by rw [ht]; exact hP9, hD9⟩, hS.F ht⟩) hS.2.2 d_Bytes_put_20
    · skip
      refine lv_aload_n hx hb d_Bytes_put_12 rfl (lv_at hl 0 rfl) ?_
      refine va_get (D := D) (ci := 1) (v := .ref q) (C := "DiscMaker$Bytes") (T := F_Bytes) (N := 2) hx hb ht9 in_Bytes hown hK hP 0 rfl rfl 0 (by decide) (ht9 _ k256) (fun _ h9 => h9) rfl d_Bytes_put_13 ?_
      refine lv_iload_n hx hb d_Bytes_put_16 rfl (lv_at hl 1 rfl) ?_
      refine lv_iload_n hx hb d_Bytes_put_17 rfl (lv_at hl 2 rfl) ?_
      refine lv_i2b hx hb d_Bytes_put_18 rfl ?_
      refine zz_bast hx hb hK hP hD hS 1 0 rfl rfl (z_inL h_1 h_9 hL hn) d_Bytes_put_19 (fun f19 H locs hP hD hS => ?_)
      have hP : va_P D CL [(h0, .inr (1, [.ref q, .int (nI L)])), (q, .inl (cB, n, .inl f19))] H := hP
      have hD : va_D A [(h0, .inr (1, [.ref q, .int (nI L)])), (q, .inl (cB, n, .inl f19))] := hD
      have hP9 := hP.sub (ws' := [(h0, .inr (1, [.ref q, .int (nI L)])), (q, .inl (cB, n, .inl f19))]) [0, 1] rfl
      have hD9 := hD.sub (ws' := [(h0, .inr (1, [.ref q, .int (nI L)])), (q, .inl (cB, n, .inl f19))]) [0, 1] (by decide) rfl
      exact W.vret hx hb hr (fun t ht hW => ⟨⟨f19, rfl, trivial, by rw [ht]; exact hP9, hD9⟩, hS.F ht⟩) hS.2.2 d_Bytes_put_20

theorem d_Bytes_at_0 : decode b_Bytes_at 0 = .ok (.iload_n 1, 1) := by decide +kernel
theorem d_Bytes_at_1 : decode b_Bytes_at 1 = .ok (.ifCond .lt 24, 3) := by decide +kernel
theorem d_Bytes_at_4 : decode b_Bytes_at 4 = .ok (.iload_n 1, 1) := by decide +kernel
theorem d_Bytes_at_5 : decode b_Bytes_at 5 = .ok (.aload_n 0, 1) := by decide +kernel
theorem d_Bytes_at_6 : decode b_Bytes_at 6 = .ok (.getfield 25, 3) := by decide +kernel
theorem d_Bytes_at_9 : decode b_Bytes_at 9 = .ok (.if_icmp .ge 16, 3) := by decide +kernel
theorem d_Bytes_at_12 : decode b_Bytes_at 12 = .ok (.aload_n 0, 1) := by decide +kernel
theorem d_Bytes_at_13 : decode b_Bytes_at 13 = .ok (.getfield 7, 3) := by decide +kernel
theorem d_Bytes_at_16 : decode b_Bytes_at 16 = .ok (.iload_n 1, 1) := by decide +kernel
theorem d_Bytes_at_17 : decode b_Bytes_at 17 = .ok (.baload, 1) := by decide +kernel
theorem d_Bytes_at_18 : decode b_Bytes_at 18 = .ok (.sipush 255, 3) := by decide +kernel
theorem d_Bytes_at_21 : decode b_Bytes_at 21 = .ok (.iand, 1) := by decide +kernel
theorem d_Bytes_at_22 : decode b_Bytes_at 22 = .ok (.goto 4, 3) := by decide +kernel
theorem d_Bytes_at_25 : decode b_Bytes_at 25 = .ok (.iconst 0, 1) := by decide +kernel
theorem d_Bytes_at_26 : decode b_Bytes_at 26 = .ok (.ireturn, 1) := by decide +kernel
set_option maxHeartbeats 4000000 in
set_option maxRecDepth 100000 in
theorem c_at (l : Launch) (D : va_G) (cB cI cJ cZ cN cF : ClassId) (sz : Nat) (h0 q L n : Nat) (f : Nat → Int32) (i : Int32) (hL : L ≤ n) (hn : n < 2147483648) : Met l y_Bytes_at w_Bytes_at ({ frames := 0, cells := 0, slots := 0, locals := 0 }) (va_Pc [.ref h0, .int i] (fun U => U.heap.size = sz ∧ va_P D CL [(h0, .inr (1, [.ref q, .int (nI L)])), (q, .inl (cB, n, .inl f))] U.heap ∧ va_K D CL (TY cB cI cJ cZ cN cF) U ∧ NN U ∧ va_D (fun _ => True) [(h0, .inr (1, [.ref q, .int (nI L)])), (q, .inl (cB, n, .inl f))])) (va_Qi (fun (r : Int32) (u : Unit) => True) (fun (u : Unit) (t : State) => match u with | () => va_P D CL [(h0, .inr (1, [.ref q, .int (nI L)])), (q, .inl (cB, n, .inl f))] t.heap ∧ va_D (va_A [(h0, .inr (1, [.ref q, .int (nI L)])), (q, .inl (cB, n, .inl f))] sz) [(h0, .inr (1, [.ref q, .int (nI L)])), (q, .inl (cB, n, .inl f))]) (va_A [(h0, .inr (1, [.ref q, .int (nI L)])), (q, .inl (cB, n, .inl f))] sz)) 0 0 (va_A [(h0, .inr (1, [.ref q, .int (nI L)])), (q, .inl (cB, n, .inl f))] sz) := by
  refine Met.ofW (cc := b_Bytes_at) (maxL := 2) (ret := some .int) (by decide) rfl ?_
  intro p e s m args below meth c s₁ B hml hv
  obtain ⟨rfl, hsz, hP, hK, hN, hD0⟩ := hv
  have hx := B.exec
  have hb := B.bytes
  have hr := B.returns
  have hts := atoms_spec (ws := w_Bytes_at) B.pre
  have ht9 := fun (w : Cond) (h : w ∈ lw_g) => hts w (List.mem_cons_of_mem _ h)
  have hown : s.vm.findClass "DiscMaker$Bytes" = some m.cls := findClass_of_methodNamed B.named
  have hlocks := B.notSynchronized
  subst hsz
  have hD := hD0.self (sz := s.heap.size)
  generalize hAe : va_A [(h0, .inr (1, [.ref q, .int (nI L)])), (q, .inl (cB, n, .inl f))] s.heap.size = A at hD ⊢
  have hA : ∀ q : Nat, s.heap.size ≤ q → A q := fun q h => by rw [← hAe]; exact Or.inr h
  have hS : va_S A s.heap s.heap [] := va_S.rf
  have hP : va_P D CL [(h0, .inr (1, [.ref q, .int (nI L)])), (q, .inl (cB, n, .inl f))] s.heap := hP
  have hl := lv_entry [.ref h0, .int i] (n := 2) (Nat.le_of_ble_eq_true rfl)
  rw [lg_entry_eq]
  generalize (lg_sl [.ref h0, .int i] ++ List.replicate (2 - (lg_sl [.ref h0, .int i]).length) Slot.unset).toArray = ls at hl ⊢
  have hl : lv_has ls 2 [(0, .ref h0), (1, .int i)] := hl
  refine lv_iload_n hx hb d_Bytes_at_0 rfl (lv_at hl 1 rfl) ?_
  refine lv_if_lt (tgt := 25) hx hb d_Bytes_at_1 (by decide) (fun h_1 => ?_) (fun h_1 => ?_)
  · skip
    refine lv_iconst (v := 0) hx hb d_Bytes_at_25 (by decide) ?_
    have hP9 := hP.sub (ws' := [(h0, .inr (1, [.ref q, .int (nI L)])), (q, .inl (cB, n, .inl f))]) [0, 1] rfl
    have hD9 := hD.sub (ws' := [(h0, .inr (1, [.ref q, .int (nI L)])), (q, .inl (cB, n, .inl f))]) [0, 1] (by decide) rfl
    exact W.iret (v := 0) hx hb hr (fun t ht hW => ⟨⟨0, (), rfl, trivial, by rw [ht]; exact hP9, hD9⟩, hS.F ht⟩) hS.2.2 d_Bytes_at_26
  · skip
    refine lv_iload_n hx hb d_Bytes_at_4 rfl (lv_at hl 1 rfl) ?_
    refine lv_aload_n hx hb d_Bytes_at_5 rfl (lv_at hl 0 rfl) ?_
    refine va_get (D := D) (ci := 1) (v := .int (nI L)) (C := "DiscMaker$Bytes") (T := F_Bytes) (N := 2) hx hb ht9 in_Bytes hown hK hP 0 rfl rfl 1 (by decide) (ht9 _ k258) (fun _ h9 => h9) rfl d_Bytes_at_6 ?_
    refine lv_icmp_ge (tgt := 25) hx hb d_Bytes_at_9 (by decide) (fun h_9 => ?_) (fun h_9 => ?_)
    · skip
      refine lv_iconst (v := 0) hx hb d_Bytes_at_25 (by decide) ?_
      have hP9 := hP.sub (ws' := [(h0, .inr (1, [.ref q, .int (nI L)])), (q, .inl (cB, n, .inl f))]) [0, 1] rfl
      have hD9 := hD.sub (ws' := [(h0, .inr (1, [.ref q, .int (nI L)])), (q, .inl (cB, n, .inl f))]) [0, 1] (by decide) rfl
      exact W.iret (v := 0) hx hb hr (fun t ht hW => ⟨⟨0, (), rfl, trivial, by rw [ht]; exact hP9, hD9⟩, hS.F ht⟩) hS.2.2 d_Bytes_at_26
    · skip
      refine lv_aload_n hx hb d_Bytes_at_12 rfl (lv_at hl 0 rfl) ?_
      refine va_get (D := D) (ci := 1) (v := .ref q) (C := "DiscMaker$Bytes") (T := F_Bytes) (N := 2) hx hb ht9 in_Bytes hown hK hP 0 rfl rfl 0 (by decide) (ht9 _ k256) (fun _ h9 => h9) rfl d_Bytes_at_13 ?_
      refine lv_iload_n hx hb d_Bytes_at_16 rfl (lv_at hl 1 rfl) ?_
      refine va_bald hx hb hK hP 1 0 rfl rfl (z_inL h_1 h_9 hL hn) d_Bytes_at_17 ?_
      refine lv_sipush (v := 255) hx hb d_Bytes_at_18 (by decide) ?_
      refine lv_iand hx hb d_Bytes_at_21 ?_
      refine lv_goto (tgt := 26) hx hb d_Bytes_at_22 (by decide) ?_
      have hP9 := hP.sub (ws' := [(h0, .inr (1, [.ref q, .int (nI L)])), (q, .inl (cB, n, .inl f))]) [0, 1] rfl
      have hD9 := hD.sub (ws' := [(h0, .inr (1, [.ref q, .int (nI L)])), (q, .inl (cB, n, .inl f))]) [0, 1] (by decide) rfl
      exact W.iret (v := ((f i.toNatClampNeg) &&& 255)) hx hb hr (fun t ht hW => ⟨⟨((f i.toNatClampNeg) &&& 255), (), rfl, trivial, by rw [ht]; exact hP9, hD9⟩, hS.F ht⟩) hS.2.2 d_Bytes_at_26

theorem d_Bytes_extend_0 : decode b_Bytes_extend 0 = .ok (.aload_n 0, 1) := by decide +kernel
theorem d_Bytes_extend_1 : decode b_Bytes_extend 1 = .ok (.getfield 25, 3) := by decide +kernel
theorem d_Bytes_extend_4 : decode b_Bytes_extend 4 = .ok (.istore_n 2, 1) := by decide +kernel
theorem d_Bytes_extend_5 : decode b_Bytes_extend 5 = .ok (.aload_n 0, 1) := by decide +kernel
theorem d_Bytes_extend_6 : decode b_Bytes_extend 6 = .ok (.aload_n 0, 1) := by decide +kernel
theorem d_Bytes_extend_7 : decode b_Bytes_extend 7 = .ok (.getfield 25, 3) := by decide +kernel
theorem d_Bytes_extend_10 : decode b_Bytes_extend 10 = .ok (.iload_n 1, 1) := by decide +kernel
theorem d_Bytes_extend_11 : decode b_Bytes_extend 11 = .ok (.iadd, 1) := by decide +kernel
theorem d_Bytes_extend_12 : decode b_Bytes_extend 12 = .ok (.aload_n 0, 1) := by decide +kernel
theorem d_Bytes_extend_13 : decode b_Bytes_extend 13 = .ok (.getfield 7, 3) := by decide +kernel
theorem d_Bytes_extend_16 : decode b_Bytes_extend 16 = .ok (.arraylength, 1) := by decide +kernel
theorem d_Bytes_extend_17 : decode b_Bytes_extend 17 = .ok (.if_icmp .le 11, 3) := by decide +kernel
theorem d_Bytes_extend_28 : decode b_Bytes_extend 28 = .ok (.aload_n 0, 1) := by decide +kernel
theorem d_Bytes_extend_29 : decode b_Bytes_extend 29 = .ok (.getfield 25, 3) := by decide +kernel
theorem d_Bytes_extend_32 : decode b_Bytes_extend 32 = .ok (.iload_n 1, 1) := by decide +kernel
theorem d_Bytes_extend_33 : decode b_Bytes_extend 33 = .ok (.iadd, 1) := by decide +kernel
theorem d_Bytes_extend_34 : decode b_Bytes_extend 34 = .ok (.putfield 25, 3) := by decide +kernel
theorem d_Bytes_extend_37 : decode b_Bytes_extend 37 = .ok (.iload_n 2, 1) := by decide +kernel
theorem d_Bytes_extend_38 : decode b_Bytes_extend 38 = .ok (.istore_n 3, 1) := by decide +kernel
theorem d_Bytes_extend_39 : decode b_Bytes_extend 39 = .ok (.iload_n 3, 1) := by decide +kernel
theorem d_Bytes_extend_40 : decode b_Bytes_extend 40 = .ok (.aload_n 0, 1) := by decide +kernel
theorem d_Bytes_extend_41 : decode b_Bytes_extend 41 = .ok (.getfield 25, 3) := by decide +kernel
theorem d_Bytes_extend_44 : decode b_Bytes_extend 44 = .ok (.if_icmp .ge 16, 3) := by decide +kernel
theorem d_Bytes_extend_47 : decode b_Bytes_extend 47 = .ok (.aload_n 0, 1) := by decide +kernel
theorem d_Bytes_extend_48 : decode b_Bytes_extend 48 = .ok (.getfield 7, 3) := by decide +kernel
theorem d_Bytes_extend_51 : decode b_Bytes_extend 51 = .ok (.iload_n 3, 1) := by decide +kernel
theorem d_Bytes_extend_52 : decode b_Bytes_extend 52 = .ok (.iconst 0, 1) := by decide +kernel
theorem d_Bytes_extend_53 : decode b_Bytes_extend 53 = .ok (.bastore, 1) := by decide +kernel
theorem d_Bytes_extend_54 : decode b_Bytes_extend 54 = .ok (.iinc 3 1, 3) := by decide +kernel
theorem d_Bytes_extend_57 : decode b_Bytes_extend 57 = .ok (.goto (-18), 3) := by decide +kernel
theorem d_Bytes_extend_60 : decode b_Bytes_extend 60 = .ok (.iload_n 2, 1) := by decide +kernel
theorem d_Bytes_extend_61 : decode b_Bytes_extend 61 = .ok (.ireturn, 1) := by decide +kernel
set_option maxHeartbeats 4000000 in
set_option maxRecDepth 100000 in
theorem c_extend (l : Launch) (D : va_G) (cB cI cJ cZ cN cF : ClassId) (sz : Nat) (h0 q L n kn9 : Nat) (f : Nat → Int32) (hL : L + kn9 ≤ n) (hn : n < 2147483648) : Met l y_Bytes_extend w_Bytes_extend ({ frames := 0, cells := 0, slots := 0, locals := 0 }) (va_Pc [.ref h0, .int (nI kn9)] (fun U => U.heap.size = sz ∧ va_P D CL [(h0, .inr (1, [.ref q, .int (nI L)])), (q, .inl (cB, n, .inl f))] U.heap ∧ va_K D CL (TY cB cI cJ cZ cN cF) U ∧ NN U ∧ va_D (fun _ => True) [(h0, .inr (1, [.ref q, .int (nI L)])), (q, .inl (cB, n, .inl f))])) (va_Qi (fun (r : Int32) (u : Nat → Int32) => r = nI L) (fun (u : Nat → Int32) (t : State) => match u with | g => va_P D CL [(h0, .inr (1, [.ref q, .int (nI (L + kn9))])), (q, .inl (cB, n, .inl g))] t.heap ∧ va_D (va_A [(h0, .inr (1, [.ref q, .int (nI L)])), (q, .inl (cB, n, .inl f))] sz) [(h0, .inr (1, [.ref q, .int (nI (L + kn9))])), (q, .inl (cB, n, .inl g))]) (va_A [(h0, .inr (1, [.ref q, .int (nI L)])), (q, .inl (cB, n, .inl f))] sz)) 0 0 (va_A [(h0, .inr (1, [.ref q, .int (nI L)])), (q, .inl (cB, n, .inl f))] sz) := by
  refine Met.ofW (cc := b_Bytes_extend) (maxL := 4) (ret := some .int) (by decide) rfl ?_
  intro p e s m args below meth c s₁ B hml hv
  obtain ⟨rfl, hsz, hP, hK, hN, hD0⟩ := hv
  have hx := B.exec
  have hb := B.bytes
  have hr := B.returns
  have hts := atoms_spec (ws := w_Bytes_extend) B.pre
  have ht9 := fun (w : Cond) (h : w ∈ lw_g) => hts w (List.mem_cons_of_mem _ h)
  have hown : s.vm.findClass "DiscMaker$Bytes" = some m.cls := findClass_of_methodNamed B.named
  have hlocks := B.notSynchronized
  subst hsz
  have hD := hD0.self (sz := s.heap.size)
  generalize hAe : va_A [(h0, .inr (1, [.ref q, .int (nI L)])), (q, .inl (cB, n, .inl f))] s.heap.size = A at hD ⊢
  have hA : ∀ q : Nat, s.heap.size ≤ q → A q := fun q h => by rw [← hAe]; exact Or.inr h
  have hS : va_S A s.heap s.heap [] := va_S.rf
  have hP : va_P D CL [(h0, .inr (1, [.ref q, .int (nI L)])), (q, .inl (cB, n, .inl f))] s.heap := hP
  have hl := lv_entry [.ref h0, .int (nI kn9)] (n := 4) (Nat.le_of_ble_eq_true rfl)
  rw [lg_entry_eq]
  generalize (lg_sl [.ref h0, .int (nI kn9)] ++ List.replicate (4 - (lg_sl [.ref h0, .int (nI kn9)]).length) Slot.unset).toArray = ls at hl ⊢
  have hl : lv_has ls 4 [(0, .ref h0), (1, .int (nI kn9))] := hl
  refine lv_aload_n hx hb d_Bytes_extend_0 rfl (lv_at hl 0 rfl) ?_
  refine va_get (D := D) (ci := 1) (v := .int (nI L)) (C := "DiscMaker$Bytes") (T := F_Bytes) (N := 2) hx hb ht9 in_Bytes hown hK hP 0 rfl rfl 1 (by decide) (ht9 _ k258) (fun _ h9 => h9) rfl d_Bytes_extend_1 ?_
  refine lv_istore_n hx hb d_Bytes_extend_4 rfl hl (by decide) rfl (fun ls hl => ?_)
  have hl : lv_has ls 4 [(2, .int (nI L)), (0, .ref h0), (1, .int (nI kn9))] := hl
  refine lv_aload_n hx hb d_Bytes_extend_5 rfl (lv_at hl 1 rfl) ?_
  refine lv_aload_n hx hb d_Bytes_extend_6 rfl (lv_at hl 1 rfl) ?_
  refine va_get (D := D) (ci := 1) (v := .int (nI L)) (C := "DiscMaker$Bytes") (T := F_Bytes) (N := 2) hx hb ht9 in_Bytes hown hK hP 0 rfl rfl 1 (by decide) (ht9 _ k258) (fun _ h9 => h9) rfl d_Bytes_extend_7 ?_
  refine lv_iload_n hx hb d_Bytes_extend_10 rfl (lv_at hl 2 rfl) ?_
  refine lv_iadd hx hb d_Bytes_extend_11 ?_
  refine W.eq (g2 := F0 m 12 ls [.int (nI (L + kn9)), .ref h0]) (by rw [show (((nI L) + (nI kn9)) : Int32) = nI (L + kn9) from nI_add L kn9]) ?_
  refine lv_aload_n hx hb d_Bytes_extend_12 rfl (lv_at hl 1 rfl) ?_
  refine va_get (D := D) (ci := 1) (v := .ref q) (C := "DiscMaker$Bytes") (T := F_Bytes) (N := 2) hx hb ht9 in_Bytes hown hK hP 0 rfl rfl 0 (by decide) (ht9 _ k256) (fun _ h9 => h9) rfl d_Bytes_extend_13 ?_
  refine va_alen (v := nI n) hx hb hK hP 1 0 rfl rfl rfl d_Bytes_extend_16 ?_
  refine lv_icmp_le (tgt := 28) hx hb d_Bytes_extend_17 (by decide) (fun h_17 => ?_) (fun h_17 => absurd (nI_le (by omega) (by omega)) h_17)
  refine lv_aload_n hx hb d_Bytes_extend_28 rfl (lv_at hl 1 rfl) ?_
  refine va_get (D := D) (ci := 1) (v := .int (nI L)) (C := "DiscMaker$Bytes") (T := F_Bytes) (N := 2) hx hb ht9 in_Bytes hown hK hP 0 rfl rfl 1 (by decide) (ht9 _ k258) (fun _ h9 => h9) rfl d_Bytes_extend_29 ?_
  refine lv_iload_n hx hb d_Bytes_extend_32 rfl (lv_at hl 2 rfl) ?_
  refine lv_iadd hx hb d_Bytes_extend_33 ?_
  refine W.eq (g2 := F0 m 34 ls [.int (nI (L + kn9)), .ref h0]) (by rw [show (((nI L) + (nI kn9)) : Int32) = nI (L + kn9) from nI_add L kn9]) ?_
  refine va_put (D := D) (ci := 1) (v := .int (nI (L + kn9))) (ty := .int) (C := "DiscMaker$Bytes") (T := F_Bytes) (N := 2) hx hb ht9 in_Bytes t_Bytes t_Bytes_ok n_Bytes hown hK hP hD hS 0 rfl rfl 1 (by decide) (ht9 _ k258) (fun _ h9 => h9) rfl (by decide +kernel) rfl rfl (Nat.le_of_ble_eq_true rfl) d_Bytes_extend_34 (fun H locs hP hD hS => ?_)
  have hP : va_P D CL [(h0, .inr (1, [.ref q, .int (nI (L + kn9))])), (q, .inl (cB, n, .inl f))] H := hP
  have hD : va_D A [(h0, .inr (1, [.ref q, .int (nI (L + kn9))])), (q, .inl (cB, n, .inl f))] := hD
  refine lv_iload_n hx hb d_Bytes_extend_37 rfl (lv_at hl 0 rfl) ?_
  refine lv_istore_n hx hb d_Bytes_extend_38 rfl hl (by decide) rfl (fun ls hl => ?_)
  have hl : lv_has ls 4 [(3, .int (nI L)), (2, .int (nI L)), (0, .ref h0), (1, .int (nI kn9))] := hl
  refine zz_loop (P := fun (lk : Nat) (H : Heap) (locs : List Loc) (ls : Array Slot) => ∃ (lj : Nat) (lf0 : Nat → Int32), lj + lk = L + kn9 ∧ va_P D CL [(h0, .inr (1, [.ref q, .int (nI (L + kn9))])), (q, .inl (cB, n, .inl lf0))] H ∧ va_D A [(h0, .inr (1, [.ref q, .int (nI (L + kn9))])), (q, .inl (cB, n, .inl lf0))] ∧ va_S A s.heap H locs ∧ lv_has ls 4 [(3, .int (nI lj)), (2, .int (nI L)), (0, .ref h0), (1, .int (nI kn9))]) (L + kn9 - L) ?_ ?_ _ _ _ ⟨L, f, by omega, hP, hD, hS, hl⟩
  · skip
    intro H locs ls hI
    obtain ⟨lj, lf0, hj, hP, hD, hS, hl⟩ := hI
    refine lv_iload_n hx hb d_Bytes_extend_39 rfl (lv_at hl 0 rfl) ?_
    refine lv_aload_n hx hb d_Bytes_extend_40 rfl (lv_at hl 2 rfl) ?_
    refine va_get (D := D) (ci := 1) (v := .int (nI (L + kn9))) (C := "DiscMaker$Bytes") (T := F_Bytes) (N := 2) hx hb ht9 in_Bytes hown hK hP 0 rfl rfl 1 (by decide) (ht9 _ k258) (fun _ h9 => h9) rfl d_Bytes_extend_41 ?_
    refine lv_icmp_ge (tgt := 60) hx hb d_Bytes_extend_44 (by decide) (fun h_44 => ?_) (fun h_44 => absurd (nI_le (by omega) (by omega)) h_44)
    refine lv_iload_n hx hb d_Bytes_extend_60 rfl (lv_at hl 1 rfl) ?_
    have hP9 := hP.sub (ws' := [(h0, .inr (1, [.ref q, .int (nI (L + kn9))])), (q, .inl (cB, n, .inl lf0))]) [0, 1] rfl
    have hD9 := hD.sub (ws' := [(h0, .inr (1, [.ref q, .int (nI (L + kn9))])), (q, .inl (cB, n, .inl lf0))]) [0, 1] (by decide) rfl
    exact W.iret (v := (nI L)) hx hb hr (fun t ht hW => ⟨⟨(nI L), lf0, rfl, rfl, by rw [ht]; exact hP9, hD9⟩, hS.F ht⟩) hS.2.2 d_Bytes_extend_61
  · skip
    intro lk ih H locs ls hI
    obtain ⟨lj, lf0, hj, hP, hD, hS, hl⟩ := hI
    refine lv_iload_n hx hb d_Bytes_extend_39 rfl (lv_at hl 0 rfl) ?_
    refine lv_aload_n hx hb d_Bytes_extend_40 rfl (lv_at hl 2 rfl) ?_
    refine va_get (D := D) (ci := 1) (v := .int (nI (L + kn9))) (C := "DiscMaker$Bytes") (T := F_Bytes) (N := 2) hx hb ht9 in_Bytes hown hK hP 0 rfl rfl 1 (by decide) (ht9 _ k258) (fun _ h9 => h9) rfl d_Bytes_extend_41 ?_
    refine lv_icmp_ge (tgt := 60) hx hb d_Bytes_extend_44 (by decide) (fun h_44 => absurd h_44 (nI_ge (by omega) (by omega))) (fun h_44 => ?_)
    refine lv_aload_n hx hb d_Bytes_extend_47 rfl (lv_at hl 2 rfl) ?_
    refine va_get (D := D) (ci := 1) (v := .ref q) (C := "DiscMaker$Bytes") (T := F_Bytes) (N := 2) hx hb ht9 in_Bytes hown hK hP 0 rfl rfl 0 (by decide) (ht9 _ k256) (fun _ h9 => h9) rfl d_Bytes_extend_48 ?_
    refine lv_iload_n hx hb d_Bytes_extend_51 rfl (lv_at hl 0 rfl) ?_
    refine lv_iconst (v := 0) hx hb d_Bytes_extend_52 (by decide) ?_
    refine zz_bast hx hb hK hP hD hS 1 0 rfl rfl (vp_in_nI (by omega) (by omega)) d_Bytes_extend_53 (fun f53 H locs hP hD hS => ?_)
    have hP : va_P D CL [(h0, .inr (1, [.ref q, .int (nI (L + kn9))])), (q, .inl (cB, n, .inl f53))] H := hP
    have hD : va_D A [(h0, .inr (1, [.ref q, .int (nI (L + kn9))])), (q, .inl (cB, n, .inl f53))] := hD
    refine lv_iinc (v := (nI (lj + 1))) hx hb d_Bytes_extend_54 hl (k := 0) rfl (nI_add lj 1) (by decide) rfl (fun ls hl => ?_)
    have hl : lv_has ls 4 [(3, .int (nI (lj + 1))), (2, .int (nI L)), (0, .ref h0), (1, .int (nI kn9))] := hl
    refine lv_goto (tgt := 39) hx hb d_Bytes_extend_57 (by decide) ?_
    have hP := hP.sub (ws' := [(h0, .inr (1, [.ref q, .int (nI (L + kn9))])), (q, .inl (cB, n, .inl f53))]) [0, 1] rfl
    have hD := hD.sub (ws' := [(h0, .inr (1, [.ref q, .int (nI (L + kn9))])), (q, .inl (cB, n, .inl f53))]) [0, 1] (by decide) rfl
    exact ih _ _ _ ⟨(lj + 1), f53, by omega, hP, hD, hS, hl⟩

theorem d_Bytes_fill_0 : decode b_Bytes_fill 0 = .ok (.iload_n 1, 1) := by decide +kernel
theorem d_Bytes_fill_1 : decode b_Bytes_fill 1 = .ok (.istore 4, 2) := by decide +kernel
theorem d_Bytes_fill_3 : decode b_Bytes_fill 3 = .ok (.iload 4, 2) := by decide +kernel
theorem d_Bytes_fill_5 : decode b_Bytes_fill 5 = .ok (.iload_n 2, 1) := by decide +kernel
theorem d_Bytes_fill_6 : decode b_Bytes_fill 6 = .ok (.if_icmp .ge 16, 3) := by decide +kernel
theorem d_Bytes_fill_9 : decode b_Bytes_fill 9 = .ok (.aload_n 0, 1) := by decide +kernel
theorem d_Bytes_fill_10 : decode b_Bytes_fill 10 = .ok (.iload 4, 2) := by decide +kernel
theorem d_Bytes_fill_12 : decode b_Bytes_fill 12 = .ok (.iload_n 3, 1) := by decide +kernel
theorem d_Bytes_fill_13 : decode b_Bytes_fill 13 = .ok (.invokevirtual 29, 3) := by decide +kernel
theorem d_Bytes_fill_16 : decode b_Bytes_fill 16 = .ok (.iinc 4 1, 3) := by decide +kernel
theorem d_Bytes_fill_19 : decode b_Bytes_fill 19 = .ok (.goto (-16), 3) := by decide +kernel
theorem d_Bytes_fill_22 : decode b_Bytes_fill 22 = .ok (.return_, 1) := by decide +kernel
set_option maxHeartbeats 4000000 in
set_option maxRecDepth 100000 in
theorem c_fill (l : Launch) (D : va_G) (cB cI cJ cZ cN cF : ClassId) (sz : Nat) (h0 q L n : Nat) (f : Nat → Int32) (a9 b9 : Nat) (v : Int32) (hL : L ≤ n) (hn : n < 2147483648) (hab : a9 ≤ b9) (hb9 : b9 < 2147483648) : Met l y_Bytes_fill w_Bytes_fill ({ frames := 1, cells := 0, slots := 0, locals := 22 }) (va_Pc [.ref h0, .int (nI a9), .int (nI b9), .int v] (fun U => U.heap.size = sz ∧ va_P D CL [(h0, .inr (1, [.ref q, .int (nI L)])), (q, .inl (cB, n, .inl f))] U.heap ∧ va_K D CL (TY cB cI cJ cZ cN cF) U ∧ NN U ∧ va_D (fun _ => True) [(h0, .inr (1, [.ref q, .int (nI L)])), (q, .inl (cB, n, .inl f))])) (va_Qv (fun (u : Nat → Int32) => True) (fun (u : Nat → Int32) (t : State) => match u with | g => va_P D CL [(h0, .inr (1, [.ref q, .int (nI L)])), (q, .inl (cB, n, .inl g))] t.heap ∧ va_D (va_A [(h0, .inr (1, [.ref q, .int (nI L)])), (q, .inl (cB, n, .inl f))] sz) [(h0, .inr (1, [.ref q, .int (nI L)])), (q, .inl (cB, n, .inl g))]) (va_A [(h0, .inr (1, [.ref q, .int (nI L)])), (q, .inl (cB, n, .inl f))] sz)) 0 0 (va_A [(h0, .inr (1, [.ref q, .int (nI L)])), (q, .inl (cB, n, .inl f))] sz) := by
  refine Met.ofW (cc := b_Bytes_fill) (maxL := 5) (ret := none) (by decide) rfl ?_
  intro p e s m args below meth c s₁ B hml hv
  obtain ⟨rfl, hsz, hP, hK, hN, hD0⟩ := hv
  have hx := B.exec
  have hb := B.bytes
  have hr := B.returns
  have hts := atoms_spec (ws := w_Bytes_fill) B.pre
  have ht9 := fun (w : Cond) (h : w ∈ lw_g) => hts w (List.mem_cons_of_mem _ h)
  have hown : s.vm.findClass "DiscMaker$Bytes" = some m.cls := findClass_of_methodNamed B.named
  have hlocks := B.notSynchronized
  subst hsz
  have hD := hD0.self (sz := s.heap.size)
  generalize hAe : va_A [(h0, .inr (1, [.ref q, .int (nI L)])), (q, .inl (cB, n, .inl f))] s.heap.size = A at hD ⊢
  have hA : ∀ q : Nat, s.heap.size ≤ q → A q := fun q h => by rw [← hAe]; exact Or.inr h
  have hS : va_S A s.heap s.heap [] := va_S.rf
  have hP : va_P D CL [(h0, .inr (1, [.ref q, .int (nI L)])), (q, .inl (cB, n, .inl f))] s.heap := hP
  have hl := lv_entry [.ref h0, .int (nI a9), .int (nI b9), .int v] (n := 5) (Nat.le_of_ble_eq_true rfl)
  rw [lg_entry_eq]
  generalize (lg_sl [.ref h0, .int (nI a9), .int (nI b9), .int v] ++ List.replicate (5 - (lg_sl [.ref h0, .int (nI a9), .int (nI b9), .int v]).length) Slot.unset).toArray = ls at hl ⊢
  have hl : lv_has ls 5 [(0, .ref h0), (1, .int (nI a9)), (2, .int (nI b9)), (3, .int v)] := hl
  refine lv_iload_n hx hb d_Bytes_fill_0 rfl (lv_at hl 1 rfl) ?_
  refine lv_istore hx hb d_Bytes_fill_1 hl (by decide) rfl (fun ls hl => ?_)
  have hl : lv_has ls 5 [(4, .int (nI a9)), (0, .ref h0), (1, .int (nI a9)), (2, .int (nI b9)), (3, .int v)] := hl
  refine zz_loop (P := fun (lk : Nat) (H : Heap) (locs : List Loc) (ls : Array Slot) => ∃ (lj : Nat) (lf0 : Nat → Int32), lj + lk = b9 ∧ va_P D CL [(h0, .inr (1, [.ref q, .int (nI L)])), (q, .inl (cB, n, .inl lf0))] H ∧ va_D A [(h0, .inr (1, [.ref q, .int (nI L)])), (q, .inl (cB, n, .inl lf0))] ∧ va_S A s.heap H locs ∧ lv_has ls 5 [(4, .int (nI lj)), (0, .ref h0), (1, .int (nI a9)), (2, .int (nI b9)), (3, .int v)]) (b9 - a9) ?_ ?_ _ _ _ ⟨a9, f, by omega, hP, hD, hS, hl⟩
  · skip
    intro H locs ls hI
    obtain ⟨lj, lf0, hj, hP, hD, hS, hl⟩ := hI
    refine lv_iload hx hb d_Bytes_fill_3 (lv_at hl 0 rfl) ?_
    refine lv_iload_n hx hb d_Bytes_fill_5 rfl (lv_at hl 3 rfl) ?_
    refine lv_icmp_ge (tgt := 22) hx hb d_Bytes_fill_6 (by decide) (fun h_6 => ?_) (fun h_6 => absurd (nI_le (by omega) (by omega)) h_6)
    have hP9 := hP.sub (ws' := [(h0, .inr (1, [.ref q, .int (nI L)])), (q, .inl (cB, n, .inl lf0))]) [0, 1] rfl
    have hD9 := hD.sub (ws' := [(h0, .inr (1, [.ref q, .int (nI L)])), (q, .inl (cB, n, .inl lf0))]) [0, 1] (by decide) rfl
    exact W.vret hx hb hr (fun t ht hW => ⟨⟨lf0, rfl, trivial, by rw [ht]; exact hP9, hD9⟩, hS.F ht⟩) hS.2.2 d_Bytes_fill_22
  · skip
    intro lk ih H locs ls hI
    obtain ⟨lj, lf0, hj, hP, hD, hS, hl⟩ := hI
    refine lv_iload hx hb d_Bytes_fill_3 (lv_at hl 0 rfl) ?_
    refine lv_iload_n hx hb d_Bytes_fill_5 rfl (lv_at hl 3 rfl) ?_
    refine lv_icmp_ge (tgt := 22) hx hb d_Bytes_fill_6 (by decide) (fun h_6 => absurd h_6 (nI_ge (by omega) (by omega))) (fun h_6 => ?_)
    refine lv_aload_n hx hb d_Bytes_fill_9 rfl (lv_at hl 1 rfl) ?_
    refine lv_iload hx hb d_Bytes_fill_10 (lv_at hl 0 rfl) ?_
    refine lv_iload_n hx hb d_Bytes_fill_12 rfl (lv_at hl 4 rfl) ?_
    have hPc := hP.sub (ws' := [(h0, .inr (1, [.ref q, .int (nI L)])), (q, .inl (cB, n, .inl lf0))]) [0, 1] rfl
    have hDc := hD.sub (ws' := [(h0, .inr (1, [.ref q, .int (nI L)])), (q, .inl (cB, n, .inl lf0))]) [0, 1] (by decide) rfl
    have hFc := va_free (wc := [(h0, .inr (1, [.ref q, .int (nI L)])), (q, .inl (cB, n, .inl lf0))]) hD hS hA [0, 1] rfl
    have hkc : 0 ≤ 0 := by decide
    have hks : 0 ≤ 0 := by decide
    refine va_callv (va_runV (C := "DiscMaker$Bytes") (As := [.int (nI lj), .int v]) (rest := []) ⟨hx, hb, hml, hown, hts⟩ (c_put l D cB cI cJ cZ cN cF H.size h0 q L n lf0 (nI lj) v hL hn) (cwV 2 hts (lg_goodV k988 k912 k913 k119 kc_Bytes_put) rfl rfl rfl (by decide +kernel) ⟨Nat.le_of_ble_eq_true rfl, Nat.le_of_ble_eq_true rfl⟩) ⟨fun a U g mk q => by obtain ⟨q0, q1, qP, qK, qN, qD⟩ := q; exact ⟨q0, q1, qP, va_K.moved (u := U) (U := U.calling g mk a) (Vm.Alike.refl U.vm) qK, qN.calling, qD⟩, va_recv hK hP (ci := 1) (q0 := 0) rfl rfl, fun U hU hW => ⟨rfl, by rw [hU], by rw [hU]; exact hPc, va_K.moved hW.alike hK, NN.warm hW hN, hDc.weaken (fun _ _ _ _ => trivial)⟩⟩ rfl rfl hl.1 rfl (lv_room (Nat.le_of_ble_eq_true rfl)) d_Bytes_fill_13 ⟨hkc, hks⟩) hS (fun q _ h => hFc q h) hFc (fun u t H1 locs ht hvm hp_13 hB hz1 hk1 hS => ?_)
    obtain ⟨g13, rfl⟩ : ∃ z, z = u := ⟨_, rfl⟩
    obtain ⟨hP1, hD1⟩ := hB
    rw [ht] at hP1
    obtain ⟨hP, hD⟩ := va_join (wr := []) (w1 := [(h0, .inr (1, [.ref q, .int (nI L)])), (q, .inl (cB, n, .inl g13))]) hP hD [0, 1] [] rfl rfl (by decide) (by decide) hk1 hFc hP1 hD1
    clear hPc hDc hFc hP1 hD1 hk1 hz1
    generalize H1 = H at hP hS ⊢
    have hP : va_P D CL [(h0, .inr (1, [.ref q, .int (nI L)])), (q, .inl (cB, n, .inl g13))] H := hP
    have hD : va_D A [(h0, .inr (1, [.ref q, .int (nI L)])), (q, .inl (cB, n, .inl g13))] := hD
    refine lv_iinc (v := (nI (lj + 1))) hx hb d_Bytes_fill_16 hl (k := 0) rfl (nI_add lj 1) (by decide) rfl (fun ls hl => ?_)
    have hl : lv_has ls 5 [(4, .int (nI (lj + 1))), (0, .ref h0), (1, .int (nI a9)), (2, .int (nI b9)), (3, .int v)] := hl
    refine lv_goto (tgt := 3) hx hb d_Bytes_fill_19 (by decide) ?_
    have hP := hP.sub (ws' := [(h0, .inr (1, [.ref q, .int (nI L)])), (q, .inl (cB, n, .inl g13))]) [0, 1] rfl
    have hD := hD.sub (ws' := [(h0, .inr (1, [.ref q, .int (nI L)])), (q, .inl (cB, n, .inl g13))]) [0, 1] (by decide) rfl
    exact ih _ _ _ ⟨(lj + 1), g13, by omega, hP, hD, hS, hl⟩
