theorem d_Arrays_copyOfRange_0 : decode b_Arrays_copyOfRange 0 = .ok (.iload_n 1, 1) := by decide +kernel
theorem d_Arrays_copyOfRange_1 : decode b_Arrays_copyOfRange 1 = .ok (.ifCond .ne 9, 3) := by decide +kernel
theorem d_Arrays_copyOfRange_4 : decode b_Arrays_copyOfRange 4 = .ok (.iload_n 2, 1) := by decide +kernel
theorem d_Arrays_copyOfRange_5 : decode b_Arrays_copyOfRange 5 = .ok (.aload_n 0, 1) := by decide +kernel
theorem d_Arrays_copyOfRange_6 : decode b_Arrays_copyOfRange 6 = .ok (.arraylength, 1) := by decide +kernel
theorem d_Arrays_copyOfRange_7 : decode b_Arrays_copyOfRange 7 = .ok (.if_icmp .eq 10, 3) := by decide +kernel
theorem d_Arrays_copyOfRange_10 : decode b_Arrays_copyOfRange 10 = .ok (.aload_n 0, 1) := by decide +kernel
theorem d_Arrays_copyOfRange_11 : decode b_Arrays_copyOfRange 11 = .ok (.iload_n 1, 1) := by decide +kernel
theorem d_Arrays_copyOfRange_12 : decode b_Arrays_copyOfRange 12 = .ok (.iload_n 2, 1) := by decide +kernel
theorem d_Arrays_copyOfRange_13 : decode b_Arrays_copyOfRange 13 = .ok (.invokestatic 339, 3) := by decide +kernel
theorem d_Arrays_copyOfRange_16 : decode b_Arrays_copyOfRange 16 = .ok (.areturn, 1) := by decide +kernel
theorem d_Arrays_copyOfRange_17 : decode b_Arrays_copyOfRange 17 = .ok (.aload_n 0, 1) := by decide +kernel
theorem d_Arrays_copyOfRange_18 : decode b_Arrays_copyOfRange 18 = .ok (.invokevirtual 310, 3) := by decide +kernel
theorem d_Arrays_copyOfRange_21 : decode b_Arrays_copyOfRange 21 = .ok (.checkcast 311, 3) := by decide +kernel
theorem d_Arrays_copyOfRange_24 : decode b_Arrays_copyOfRange 24 = .ok (.areturn, 1) := by decide +kernel
set_option maxHeartbeats 4000000 in
set_option maxRecDepth 100000 in
theorem c3_copyOfRange (l : Launch) (D : va_G) (cB cI cJ cZ cN cF : ClassId) (sz : Nat) (q : Nat) (f : Nat → Int32) (x : Int32) (y : Int32) (hxy : 0 ≤ x.toInt ∧ x.toInt ≤ y.toInt ∧ y.toInt ≤ 400) (hB : Rg (-128) 127 400 f) : Met l y_Arrays_copyOfRange w_Arrays_copyOfRange ({ frames := 2, cells := 1, slots := 400, locals := 90 }) (va_Pc [.ref q, .int x, .int y] (fun U => U.heap.size = sz ∧ va_P D CL [(q, .inl (cB, 400, .inl f))] U.heap ∧ va_K D CL (TY cB cI cJ cZ cN cF) U ∧ NN U ∧ va_D (fun _ => True) [(q, .inl (cB, 400, .inl f))] ∧ CST (va_A [(q, .inl (cB, 400, .inl f))] sz) U U.heap)) (va_Qr (fun (u : Nat × (Nat → Int32)) => match u with | (n2, g) => ((n2 : Int) = y.toInt - x.toInt) ∧ (Rg (-128) 127 n2 g) ∧ (∀ j, j < n2 → g j = f (x.toNatClampNeg + j))) (fun (u : Nat × (Nat → Int32)) (a : Nat) (t : State) => match u with | (n2, g) => va_P D CL [(q, .inl (cB, 400, .inl f)), (a, .inl (cB, n2, .inl g))] t.heap ∧ va_D (va_A [(q, .inl (cB, 400, .inl f))] sz) [(q, .inl (cB, 400, .inl f)), (a, .inl (cB, n2, .inl g))]) (va_A [(q, .inl (cB, 400, .inl f))] sz)) 1 400 (va_A [(q, .inl (cB, 400, .inl f))] sz) := by
  refine Met.ofW (cc := b_Arrays_copyOfRange) (maxL := 3) (ret := some (.array .byte)) (by decide +kernel) rfl ?_
  intro p e s m args below meth c s₁ B hml hv
  obtain ⟨rfl, hsz, hP, hK, hN, hD0, hZc⟩ := hv
  have hx := B.exec
  have hb := B.bytes
  have hr := B.returns
  have hts := atoms_spec (ws := w_Arrays_copyOfRange) B.pre
  have ht9 := fun (w : Cond) (h : w ∈ lw_g) => hts w (List.mem_cons_of_mem _ h)
  have hown : s.vm.findClass "java/util/Arrays" = some m.cls := findClass_of_methodNamed B.named
  have hlocks := B.notSynchronized
  subst hsz
  have hD := hD0.self (sz := s.heap.size)
  generalize hAe : va_A [(q, .inl (cB, 400, .inl f))] s.heap.size = A at hD hZc ⊢
  have hA : ∀ q : Nat, s.heap.size ≤ q → A q := fun q h => by rw [← hAe]; exact Or.inr h
  have hS : va_S A s.heap s.heap [] := va_S.rf
  have hP : va_P D CL [(q, .inl (cB, 400, .inl f))] s.heap := hP
  have hl := lv_entry [.ref q, .int x, .int y] (n := 3) (Nat.le_of_ble_eq_true rfl)
  rw [lg_entry_eq]
  generalize (lg_sl [.ref q, .int x, .int y] ++ List.replicate (3 - (lg_sl [.ref q, .int x, .int y]).length) Slot.unset).toArray = ls at hl ⊢
  have hl : lv_has ls 3 [(0, .ref q), (1, .int x), (2, .int y)] := hl
  have L_m1 : ((-1) : Int32).toInt = (-1) := by decide
  have L_0 : (0 : Int32).toInt = 0 := by decide
  have L_1 : (1 : Int32).toInt = 1 := by decide
  refine lv_iload_n hx hb d_Arrays_copyOfRange_0 rfl (lv_at hl 1 rfl) ?_
  refine lv_if_ne (tgt := 10) hx hb d_Arrays_copyOfRange_1 (by decide) (fun h_9 => ?_) (fun h_9 => ?_)
  · skip
    have g1_2 : ¬ x.toInt = 0 := fun h8 => h_9 ((i_eq rfl (by decide)).mpr h8)
    refine lv_aload_n hx hb d_Arrays_copyOfRange_10 rfl (lv_at hl 0 rfl) ?_
    refine lv_iload_n hx hb d_Arrays_copyOfRange_11 rfl (lv_at hl 1 rfl) ?_
    refine lv_iload_n hx hb d_Arrays_copyOfRange_12 rfl (lv_at hl 2 rfl) ?_
    have hPc := hP.sub (ws' := [(q, .inl (cB, 400, .inl f))]) [0] rfl
    have hDc := hD.sub (ws' := [(q, .inl (cB, 400, .inl f))]) [0] (by decide +kernel) rfl
    have hFc := va_free (wc := [(q, .inl (cB, 400, .inl f))]) hD hS hA [0] rfl
    have hkc : 1 ≤ 1 := by decide
    have hks : 400 ≤ 400 := by decide
    refine va_callr (va_runS (As := [.ref q, .int x, .int y]) (rest := []) ⟨hx, hb, hml, hown, hts⟩ (c3_copyOfRangeByte l D cB cI cJ cZ cN cF s.heap.size q f x y (by (try dsimp only); first | assumption | omega | trivial) (by (try dsimp only); first | assumption | omega | trivial)) (cwS 3 hts (lg_goodS k490 k491 k126 kc_Arrays_copyOfRangeByte) rfl rfl rfl (by decide +kernel) ⟨Nat.le_of_ble_eq_true rfl, Nat.le_of_ble_eq_true rfl⟩) ⟨fun a U g mk q => by obtain ⟨q0, q1, qP, qK, qN, qD⟩ := q; exact ⟨q0, q1, qP, va_K.moved (u := U) (U := U.calling g mk a) (Vm.Alike.refl U.vm) qK, qN.calling, qD⟩, fun U hU hW => ⟨rfl, by rw [hU], by rw [hU]; exact hPc, va_K.moved hW.alike hK, NN.warm hW hN, hDc.weaken (fun _ _ _ _ => trivial)⟩⟩ rfl rfl hl.1 rfl (lv_room (Nat.le_of_ble_eq_true rfl)) d_Arrays_copyOfRange_13 ⟨hkc, hks⟩) hS (fun q _ h => hFc q h) hFc (fun u r1 t H1 locs ht hvm hp_r1 hB hz1 hk1 hS => ?_)
    obtain ⟨n2_2, g_3⟩ := u
    obtain ⟨hP1, hD1⟩ := hB
    rw [ht] at hP1
    obtain ⟨hP, hD⟩ := va_join (wr := []) (w1 := [(q, .inl (cB, 400, .inl f)), (r1, .inl (cB, n2_2, .inl g_3))]) hP hD [0] [] rfl rfl (by decide +kernel) (by decide +kernel) hk1 hFc hP1 hD1
    clear hPc hDc hFc hP1 hD1 hk1 hz1 hkc hks
    generalize H1 = H at hP hS ⊢
    have hP : va_P D CL [(q, .inl (cB, 400, .inl f)), (r1, .inl (cB, n2_2, .inl g_3))] H := hP
    have hD : va_D A [(q, .inl (cB, 400, .inl f)), (r1, .inl (cB, n2_2, .inl g_3))] := hD
    refine W.widen (k := 1) (n := 400) (by decide) (by decide) ?_
    try dsimp only at hp_r1
    obtain ⟨hn2_4, hB2_5, hcp_6⟩ := hp_r1
    have hP9 := hP.sub (ws' := [(q, .inl (cB, 400, .inl f)), (r1, .inl (cB, n2_2, .inl g_3))]) [0, 1] rfl
    have hD9 := hD.sub (ws' := [(q, .inl (cB, 400, .inl f)), (r1, .inl (cB, n2_2, .inl g_3))]) [0, 1] (by decide +kernel) rfl
    exact W.aret (v := .ref r1) hx hb hr (Or.inr ⟨_, rfl⟩) (Or.inr ⟨_, rfl⟩) (fun t ht hW => ⟨⟨(n2_2, g_3), r1, rfl, ⟨(by (try dsimp only); first | assumption | omega | trivial), hB2_5, hcp_6⟩, by rw [ht]; exact hP9, hD9⟩, hS.F ht⟩) hS.2.2 d_Arrays_copyOfRange_16
  · skip
    have g1_2 : x.toInt = 0 := (i_eq rfl (by decide)).mp h_9
    refine lv_iload_n hx hb d_Arrays_copyOfRange_4 rfl (lv_at hl 2 rfl) ?_
    refine lv_aload_n hx hb d_Arrays_copyOfRange_5 rfl (lv_at hl 0 rfl) ?_
    refine va_alen (v := 400) hx hb hK hP 0 0 rfl rfl rfl d_Arrays_copyOfRange_6 ?_
    have L_400 : (400 : Int32).toInt = 400 := by decide
    refine lv_icmp_eq (tgt := 17) hx hb d_Arrays_copyOfRange_7 (by decide) (fun h_9 => ?_) (fun h_9 => ?_)
    · skip
      have g7_11 : y.toInt = 400 := (i_eq rfl (by decide)).mp h_9
      refine lv_aload_n hx hb d_Arrays_copyOfRange_17 rfl (lv_at hl 0 rfl) ?_
      have hc_18 : 1 ≤ 1 := by decide
      have hs_18 : 400 ≤ 400 := by decide
      have hnmB : s.vm.findClass "[B" = some cB := (hK.2 0 (cB, .byte) rfl).2
      refine va_clone (ad := "[B") hx hb (hml.trans hl.1.symm) hown (ht9 _ k599) (ht9 _ kSame) (ht9 _ kNatC) (ht9 _ kInsC) (ht9 _ kSelC) hZc hK hP hD hS hA 0 0 rfl rfl hnmB (fun i v hv => by
        have h2 : (arrV cB 400 (fun j => .int (f j))).slots[i]? = some v := hv
        have hi : i < (arrV cB 400 (fun j => Value.int (f j))).slots.size := (Array.getElem?_eq_some_iff.mp h2).1
        rw [arrV_size] at hi
        rw [arrV_read _ _ hi] at h2; cases h2; exact i_fitB (hB _ hi)) (Nat.le_of_ble_eq_true rfl) (Nat.le_of_ble_eq_true rfl) hc_18 (by show 0 + 400 ≤ 400; decide) d_Arrays_copyOfRange_18 (fun q7 H hK9 hP hD hS => ?_)
      have hP : va_P D CL [(q, .inl (cB, 400, .inl f)), (q7, .inl (cB, 400, .inl f))] H := hP
      have hD : va_D A [(q, .inl (cB, 400, .inl f)), (q7, .inl (cB, 400, .inl f))] := hD
      refine W.widen (k := 1) (n := 400) (by show 0 + 1 ≤ 1; decide) (by show 0 + 400 ≤ 400; decide) ?_
      refine va_castA (nm := "[B") hx hb hown (ht9 _ k605) hP 1 rfl hnmB d_Arrays_copyOfRange_21 ?_
      have hP9 := hP.sub (ws' := [(q, .inl (cB, 400, .inl f)), (q7, .inl (cB, 400, .inl f))]) [0, 1] rfl
      have hD9 := hD.sub (ws' := [(q, .inl (cB, 400, .inl f)), (q7, .inl (cB, 400, .inl f))]) [0, 1] (by decide +kernel) rfl
      exact W.aret (v := .ref q7) hx hb hr (Or.inr ⟨_, rfl⟩) (Or.inr ⟨_, rfl⟩) (fun t ht hW => ⟨⟨(400, f), q7, rfl, ⟨(by (try dsimp only); first | assumption | omega | trivial), hB, (fun j hj => by have h8 := i_cl (a := x) (by omega); rw [show x.toNatClampNeg + j = j by omega])⟩, by rw [ht]; exact hP9, hD9⟩, hS.F ht⟩) hS.2.2 d_Arrays_copyOfRange_24
    · skip
      have g7_11 : ¬ y.toInt = 400 := fun h8 => h_9 ((i_eq rfl (by decide)).mpr h8)
      refine lv_aload_n hx hb d_Arrays_copyOfRange_10 rfl (lv_at hl 0 rfl) ?_
      refine lv_iload_n hx hb d_Arrays_copyOfRange_11 rfl (lv_at hl 1 rfl) ?_
      refine lv_iload_n hx hb d_Arrays_copyOfRange_12 rfl (lv_at hl 2 rfl) ?_
      have hPc := hP.sub (ws' := [(q, .inl (cB, 400, .inl f))]) [0] rfl
      have hDc := hD.sub (ws' := [(q, .inl (cB, 400, .inl f))]) [0] (by decide +kernel) rfl
      have hFc := va_free (wc := [(q, .inl (cB, 400, .inl f))]) hD hS hA [0] rfl
      have hkc : 1 ≤ 1 := by decide
      have hks : 400 ≤ 400 := by decide
      refine va_callr (va_runS (As := [.ref q, .int x, .int y]) (rest := []) ⟨hx, hb, hml, hown, hts⟩ (c3_copyOfRangeByte l D cB cI cJ cZ cN cF s.heap.size q f x y (by (try dsimp only); first | assumption | omega | trivial) (by (try dsimp only); first | assumption | omega | trivial)) (cwS 3 hts (lg_goodS k490 k491 k126 kc_Arrays_copyOfRangeByte) rfl rfl rfl (by decide +kernel) ⟨Nat.le_of_ble_eq_true rfl, Nat.le_of_ble_eq_true rfl⟩) ⟨fun a U g mk q => by obtain ⟨q0, q1, qP, qK, qN, qD⟩ := q; exact ⟨q0, q1, qP, va_K.moved (u := U) (U := U.calling g mk a) (Vm.Alike.refl U.vm) qK, qN.calling, qD⟩, fun U hU hW => ⟨rfl, by rw [hU], by rw [hU]; exact hPc, va_K.moved hW.alike hK, NN.warm hW hN, hDc.weaken (fun _ _ _ _ => trivial)⟩⟩ rfl rfl hl.1 rfl (lv_room (Nat.le_of_ble_eq_true rfl)) d_Arrays_copyOfRange_13 ⟨hkc, hks⟩) hS (fun q _ h => hFc q h) hFc (fun u r8 t H1 locs ht hvm hp_r8 hB hz1 hk1 hS => ?_)
      obtain ⟨n2_9, g_10⟩ := u
      obtain ⟨hP1, hD1⟩ := hB
      rw [ht] at hP1
      obtain ⟨hP, hD⟩ := va_join (wr := []) (w1 := [(q, .inl (cB, 400, .inl f)), (r8, .inl (cB, n2_9, .inl g_10))]) hP hD [0] [] rfl rfl (by decide +kernel) (by decide +kernel) hk1 hFc hP1 hD1
      clear hPc hDc hFc hP1 hD1 hk1 hz1 hkc hks
      generalize H1 = H at hP hS ⊢
      have hP : va_P D CL [(q, .inl (cB, 400, .inl f)), (r8, .inl (cB, n2_9, .inl g_10))] H := hP
      have hD : va_D A [(q, .inl (cB, 400, .inl f)), (r8, .inl (cB, n2_9, .inl g_10))] := hD
      refine W.widen (k := 1) (n := 400) (by decide) (by decide) ?_
      try dsimp only at hp_r8
      obtain ⟨hn2_11, hB2_12, hcp_13⟩ := hp_r8
      have hP9 := hP.sub (ws' := [(q, .inl (cB, 400, .inl f)), (r8, .inl (cB, n2_9, .inl g_10))]) [0, 1] rfl
      have hD9 := hD.sub (ws' := [(q, .inl (cB, 400, .inl f)), (r8, .inl (cB, n2_9, .inl g_10))]) [0, 1] (by decide +kernel) rfl
      exact W.aret (v := .ref r8) hx hb hr (Or.inr ⟨_, rfl⟩) (Or.inr ⟨_, rfl⟩) (fun t ht hW => ⟨⟨(n2_9, g_10), r8, rfl, ⟨(by (try dsimp only); first | assumption | omega | trivial), hB2_12, hcp_13⟩, by rw [ht]; exact hP9, hD9⟩, hS.F ht⟩) hS.2.2 d_Arrays_copyOfRange_16
