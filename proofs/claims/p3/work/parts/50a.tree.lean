theorem d_Tree_has_0 : decode b_Tree_has 0 = .ok (.iload_n 1, 1) := by decide +kernel
theorem d_Tree_has_1 : decode b_Tree_has 1 = .ok (.ifCond .lt 15, 3) := by decide +kernel
theorem d_Tree_has_4 : decode b_Tree_has 4 = .ok (.iload_n 1, 1) := by decide +kernel
theorem d_Tree_has_5 : decode b_Tree_has 5 = .ok (.aload_n 0, 1) := by decide +kernel
theorem d_Tree_has_6 : decode b_Tree_has 6 = .ok (.getfield 20, 3) := by decide +kernel
theorem d_Tree_has_9 : decode b_Tree_has 9 = .ok (.if_icmp .ge 7, 3) := by decide +kernel
theorem d_Tree_has_12 : decode b_Tree_has 12 = .ok (.iconst 1, 1) := by decide +kernel
theorem d_Tree_has_13 : decode b_Tree_has 13 = .ok (.goto 4, 3) := by decide +kernel
theorem d_Tree_has_16 : decode b_Tree_has 16 = .ok (.iconst 0, 1) := by decide +kernel
theorem d_Tree_has_17 : decode b_Tree_has 17 = .ok (.ireturn, 1) := by decide +kernel
set_option maxHeartbeats 4000000 in
set_option maxRecDepth 100000 in
theorem c3_has_ (l : Launch) (D : va_G) (cB cI cJ cZ cN cF : ClassId) (sz : Nat) (tr : Nat) (ta : Nat) (cn : Int32) (dr : Int32) (x : Int32) : Met l y_Tree_has w_Tree_has ({ frames := 0, cells := 0, slots := 0, locals := 0 }) (va_Pc [.ref tr, .int x] (fun U => U.heap.size = sz ∧ va_P D CL [] U.heap ∧ va_K D CL (TY cB cI cJ cZ cN cF) U ∧ NN U ∧ va_D (fun _ => True) [] ∧ RO D [(tr, .inr (10, [.ref ta, .int cn, .int dr]))] (va_A [] sz) U U.heap)) (va_Qi (fun (r : Int32) (u : Unit) => (0 ≤ r.toInt ∧ r.toInt ≤ 1) ∧ (r.toInt ≠ 0 → 0 ≤ x.toInt ∧ x.toInt < cn.toInt) ∧ (BoolIs r (0 ≤ x.toInt ∧ x.toInt < cn.toInt))) (fun (u : Unit) (t : State) => match u with | () => va_P D CL [] t.heap ∧ va_D (va_A [] sz) []) (va_A [] sz)) 0 0 (va_A [] sz) := by
  refine Met.ofW (cc := b_Tree_has) (maxL := 2) (ret := some .boolean) (by decide +kernel) rfl ?_
  intro p e s m args below meth c s₁ B hml hv
  obtain ⟨rfl, hsz, hP, hK, hN, hD0, hZr⟩ := hv
  have hx := B.exec
  have hb := B.bytes
  have hr := B.returns
  have hts := atoms_spec (ws := w_Tree_has) B.pre
  have ht9 := fun (w : Cond) (h : w ∈ lw_g) => hts w (List.mem_cons_of_mem _ h)
  have hown : s.vm.findClass "DiscMaker$Tree" = some m.cls := findClass_of_methodNamed B.named
  have hlocks := B.notSynchronized
  subst hsz
  have hD := hD0.self (sz := s.heap.size)
  generalize hAe : va_A [] s.heap.size = A at hD hZr ⊢
  have hA : ∀ q : Nat, s.heap.size ≤ q → A q := fun q h => by rw [← hAe]; exact Or.inr h
  have hS : va_S A s.heap s.heap [] := va_S.rf
  have hP : va_P D CL [] s.heap := hP
  have hl := lv_entry [.ref tr, .int x] (n := 2) (Nat.le_of_ble_eq_true rfl)
  rw [lg_entry_eq]
  generalize (lg_sl [.ref tr, .int x] ++ List.replicate (2 - (lg_sl [.ref tr, .int x]).length) Slot.unset).toArray = ls at hl ⊢
  have hl : lv_has ls 2 [(0, .ref tr), (1, .int x)] := hl
  have L_m1 : ((-1) : Int32).toInt = (-1) := by decide
  have L_0 : (0 : Int32).toInt = 0 := by decide
  have L_1 : (1 : Int32).toInt = 1 := by decide
  refine lv_iload_n hx hb d_Tree_has_0 rfl (lv_at hl 1 rfl) ?_
  refine lv_if_lt (tgt := 16) hx hb d_Tree_has_1 (by decide) (fun h_9 => ?_) (fun h_9 => ?_)
  · skip
    have g1_2 : x.toInt < 0 := (i_lt rfl (by decide)).mp h_9
    refine lv_iconst (v := 0) hx hb d_Tree_has_16 (by decide) ?_
    have hP9 := hP.sub (ws' := []) [] rfl
    have hD9 := hD.sub (ws' := []) [] (by decide +kernel) rfl
    exact W.zret (v := 0) hx hb hr (by first | rfl | decide | exact i_narZ (by omega)) (fun t ht hW => ⟨⟨0, (), rfl, ⟨(by (try dsimp only); first | assumption | omega | trivial), (by (try dsimp only); intro h7; first | (exfalso; omega) | omega | assumption), (by (try dsimp only); unfold BoolIs; omega)⟩, by rw [ht]; exact hP9, hD9⟩, hS.F ht⟩) hS.2.2 d_Tree_has_17
  · skip
    have g1_2 : ¬ x.toInt < 0 := fun h8 => h_9 ((i_lt rfl (by decide)).mpr h8)
    refine lv_iload_n hx hb d_Tree_has_4 rfl (lv_at hl 1 rfl) ?_
    refine lv_aload_n hx hb d_Tree_has_5 rfl (lv_at hl 0 rfl) ?_
    have hPR := RO_at hZr hS
    refine va_get (D := D) (ci := 10) (v := .int cn) (C := "DiscMaker$Tree") (T := F_Tree) (N := 3) hx hb ht9 in_Tree hown hK hPR 0 rfl rfl 1 (by decide) (ht9 _ k239) (fun _ h9 => h9) rfl d_Tree_has_6 ?_
    refine lv_icmp_ge (tgt := 16) hx hb d_Tree_has_9 (by decide) (fun h_9 => ?_) (fun h_9 => ?_)
    · skip
      have g9_8 : cn.toInt ≤ x.toInt := (i_le rfl rfl).mp h_9
      refine lv_iconst (v := 0) hx hb d_Tree_has_16 (by decide) ?_
      have hP9 := hP.sub (ws' := []) [] rfl
      have hD9 := hD.sub (ws' := []) [] (by decide +kernel) rfl
      exact W.zret (v := 0) hx hb hr (by first | rfl | decide | exact i_narZ (by omega)) (fun t ht hW => ⟨⟨0, (), rfl, ⟨(by (try dsimp only); first | assumption | omega | trivial), (by (try dsimp only); intro h7; first | (exfalso; omega) | omega | assumption), (by (try dsimp only); unfold BoolIs; omega)⟩, by rw [ht]; exact hP9, hD9⟩, hS.F ht⟩) hS.2.2 d_Tree_has_17
    · skip
      have g9_8 : ¬ cn.toInt ≤ x.toInt := fun h8 => h_9 ((i_le rfl rfl).mpr h8)
      refine lv_iconst (v := 1) hx hb d_Tree_has_12 (by decide) ?_
      refine lv_goto (tgt := 17) hx hb d_Tree_has_13 (by decide) ?_
      have hP9 := hP.sub (ws' := []) [] rfl
      have hD9 := hD.sub (ws' := []) [] (by decide +kernel) rfl
      exact W.zret (v := 1) hx hb hr (by first | rfl | decide | exact i_narZ (by omega)) (fun t ht hW => ⟨⟨1, (), rfl, ⟨(by (try dsimp only); first | assumption | omega | trivial), (by (try dsimp only); intro h7; first | (exfalso; omega) | omega | assumption), (by (try dsimp only); unfold BoolIs; omega)⟩, by rw [ht]; exact hP9, hD9⟩, hS.F ht⟩) hS.2.2 d_Tree_has_17

theorem d_Tree_hasDirectory_0 : decode b_Tree_hasDirectory 0 = .ok (.aload_n 0, 1) := by decide +kernel
theorem d_Tree_hasDirectory_1 : decode b_Tree_hasDirectory 1 = .ok (.iload_n 1, 1) := by decide +kernel
theorem d_Tree_hasDirectory_2 : decode b_Tree_hasDirectory 2 = .ok (.invokevirtual 27, 3) := by decide +kernel
theorem d_Tree_hasDirectory_5 : decode b_Tree_hasDirectory 5 = .ok (.ifCond .eq 19, 3) := by decide +kernel
theorem d_Tree_hasDirectory_8 : decode b_Tree_hasDirectory 8 = .ok (.aload_n 0, 1) := by decide +kernel
theorem d_Tree_hasDirectory_9 : decode b_Tree_hasDirectory 9 = .ok (.getfield 11, 3) := by decide +kernel
theorem d_Tree_hasDirectory_12 : decode b_Tree_hasDirectory 12 = .ok (.iload_n 1, 1) := by decide +kernel
theorem d_Tree_hasDirectory_13 : decode b_Tree_hasDirectory 13 = .ok (.aaload, 1) := by decide +kernel
theorem d_Tree_hasDirectory_14 : decode b_Tree_hasDirectory 14 = .ok (.getfield 31, 3) := by decide +kernel
theorem d_Tree_hasDirectory_17 : decode b_Tree_hasDirectory 17 = .ok (.ifCond .ne 7, 3) := by decide +kernel
theorem d_Tree_hasDirectory_20 : decode b_Tree_hasDirectory 20 = .ok (.iconst 1, 1) := by decide +kernel
theorem d_Tree_hasDirectory_21 : decode b_Tree_hasDirectory 21 = .ok (.goto 4, 3) := by decide +kernel
theorem d_Tree_hasDirectory_24 : decode b_Tree_hasDirectory 24 = .ok (.iconst 0, 1) := by decide +kernel
theorem d_Tree_hasDirectory_25 : decode b_Tree_hasDirectory 25 = .ok (.ireturn, 1) := by decide +kernel
set_option maxHeartbeats 4000000 in
set_option maxRecDepth 100000 in
theorem c3_hasDirectory (l : Launch) (D : va_G) (cB cI cJ cZ cN cF : ClassId) (sz : Nat) (tr : Nat) (ta : Nat) (cn : Int32) (dr : Int32) (na : Nat → Nat → Nat) (ng : Nat → Nat → Int32) (nn : Nat → Nat → Nat) (nf : Nat → Nat → Nat → Int32) (cm : Nat) (x : Int32) (hcn : cn.toInt = cm) (hcm : cm ≤ 40) (htok : TOK cm ng nn) : Met l y_Tree_hasDirectory w_Tree_hasDirectory ({ frames := 1, cells := 0, slots := 0, locals := 27 }) (va_Pc [.ref tr, .int x] (fun U => U.heap.size = sz ∧ va_P D CL [] U.heap ∧ va_K D CL (TY cB cI cJ cZ cN cF) U ∧ NN U ∧ va_D (fun _ => True) [] ∧ RO D (([(tr, .inr (10, [.ref ta, .int cn, .int dr])), (ta, .inl (cN, 40, .inr (.inr (.inr (.inr (rowF na cm))))))] : va_W) ++ (PL (NC cB na ng nn nf) cm)) (va_A [] sz) U U.heap)) (va_Qi (fun (r : Int32) (u : Unit) => (0 ≤ r.toInt ∧ r.toInt ≤ 1) ∧ (r.toInt ≠ 0 → 0 ≤ x.toInt ∧ x.toInt < cn.toInt) ∧ (BoolIs r (DirC x cm ng))) (fun (u : Unit) (t : State) => match u with | () => va_P D CL [] t.heap ∧ va_D (va_A [] sz) []) (va_A [] sz)) 0 0 (va_A [] sz) := by
  refine Met.ofW (cc := b_Tree_hasDirectory) (maxL := 2) (ret := some .boolean) (by decide +kernel) rfl ?_
  intro p e s m args below meth c s₁ B hml hv
  obtain ⟨rfl, hsz, hP, hK, hN, hD0, hZr⟩ := hv
  have hx := B.exec
  have hb := B.bytes
  have hr := B.returns
  have hts := atoms_spec (ws := w_Tree_hasDirectory) B.pre
  have ht9 := fun (w : Cond) (h : w ∈ lw_g) => hts w (List.mem_cons_of_mem _ h)
  have hown : s.vm.findClass "DiscMaker$Tree" = some m.cls := findClass_of_methodNamed B.named
  have hlocks := B.notSynchronized
  subst hsz
  have hD := hD0.self (sz := s.heap.size)
  generalize hAe : va_A [] s.heap.size = A at hD hZr ⊢
  have hA : ∀ q : Nat, s.heap.size ≤ q → A q := fun q h => by rw [← hAe]; exact Or.inr h
  have hS : va_S A s.heap s.heap [] := va_S.rf
  have hP : va_P D CL [] s.heap := hP
  have hl := lv_entry [.ref tr, .int x] (n := 2) (Nat.le_of_ble_eq_true rfl)
  rw [lg_entry_eq]
  generalize (lg_sl [.ref tr, .int x] ++ List.replicate (2 - (lg_sl [.ref tr, .int x]).length) Slot.unset).toArray = ls at hl ⊢
  have hl : lv_has ls 2 [(0, .ref tr), (1, .int x)] := hl
  have L_m1 : ((-1) : Int32).toInt = (-1) := by decide
  have L_0 : (0 : Int32).toInt = 0 := by decide
  have L_1 : (1 : Int32).toInt = 1 := by decide
  refine lv_aload_n hx hb d_Tree_hasDirectory_0 rfl (lv_at hl 0 rfl) ?_
  refine lv_iload_n hx hb d_Tree_hasDirectory_1 rfl (lv_at hl 1 rfl) ?_
  have hPc := hP.sub (ws' := []) [] rfl
  have hDc := hD.sub (ws' := []) [] (by decide +kernel) rfl
  have hFc := va_free (wc := []) hD hS hA [] rfl
  have hPR := RO_at hZr hS
  have hkc : 0 ≤ 0 := by decide
  have hks : 0 ≤ 0 := by decide
  refine va_calli (va_runV (C := "DiscMaker$Tree") (As := [.int x]) (rest := []) ⟨hx, hb, hml, hown, hts⟩ (c3_has_ l D cB cI cJ cZ cN cF s.heap.size tr ta cn dr x) (cwV 1 hts (lg_goodV k799 k800 k801 k117 kc_Tree_has) rfl rfl rfl (by decide +kernel) ⟨Nat.le_of_ble_eq_true rfl, Nat.le_of_ble_eq_true rfl⟩) ⟨fun a U g mk q => by obtain ⟨q0, q1, qP, qK, qN, qD, qZ0⟩ := q; exact ⟨q0, q1, qP, va_K.moved (u := U) (U := U.calling g mk a) (Vm.Alike.refl U.vm) qK, qN.calling, qD, RO_blind qZ0⟩, va_recv hK hPR (ci := 10) (q0 := 0) rfl rfl, fun U hU hW => ⟨rfl, by rw [hU], by rw [hU]; exact hPc, va_K.moved hW.alike hK, NN.warm hW hN, hDc.weaken (fun _ _ _ _ => trivial), (RO_pass (RO_one hZr 0 rfl) hS hFc hU)⟩⟩ rfl rfl hl.1 rfl (lv_room (Nat.le_of_ble_eq_true rfl)) d_Tree_hasDirectory_2 ⟨hkc, hks⟩) hS (fun q _ h => hFc q h) hFc (fun r1 u t H1 locs ht hvm hp_r1 hB hz1 hk1 hS => ?_)
  obtain ⟨hP1, hD1⟩ := hB
  rw [ht] at hP1
  obtain ⟨hP, hD⟩ := va_join (wr := []) (w1 := []) hP hD [] [] rfl rfl (by decide +kernel) (by decide +kernel) hk1 hFc hP1 hD1
  clear hPc hDc hFc hP1 hD1 hk1 hz1 hkc hks
  generalize H1 = H at hP hS ⊢
  have hP : va_P D CL [] H := hP
  have hD : va_D A [] := hD
  try dsimp only at hp_r1
  obtain ⟨hr_2, hv_3, hb_4⟩ := hp_r1
  refine lv_if_eq (tgt := 24) hx hb d_Tree_hasDirectory_5 (by decide) (fun h_9 => ?_) (fun h_9 => ?_)
  · skip
    have g5_4 : r1.toInt = 0 := (i_eq rfl (by decide)).mp h_9
    refine lv_iconst (v := 0) hx hb d_Tree_hasDirectory_24 (by decide) ?_
    have hP9 := hP.sub (ws' := []) [] rfl
    have hD9 := hD.sub (ws' := []) [] (by decide +kernel) rfl
    exact W.zret (v := 0) hx hb hr (by first | rfl | decide | exact i_narZ (by omega)) (fun t ht hW => ⟨⟨0, (), rfl, ⟨(by (try dsimp only); first | assumption | omega | trivial), (by (try dsimp only); intro h7; first | (exfalso; omega) | omega | assumption), (by (try dsimp only); first | exact Or.inl ⟨by decide, by omega, by omega, by omega⟩ | exact Or.inr ⟨by decide, fun h8 => by have h9 := h8.2.2; omega⟩ | exact Or.inr ⟨by decide, fun h8 => hb_4.f (by omega) ⟨h8.1, by have h9 := h8.2.1; omega⟩⟩)⟩, by rw [ht]; exact hP9, hD9⟩, hS.F ht⟩) hS.2.2 d_Tree_hasDirectory_25
  · skip
    have g5_4 : ¬ r1.toInt = 0 := fun h8 => h_9 ((i_eq rfl (by decide)).mpr h8)
    refine lv_aload_n hx hb d_Tree_hasDirectory_8 rfl (lv_at hl 0 rfl) ?_
    have hPR := RO_at hZr hS
    refine va_get (D := D) (ci := 10) (v := .ref ta) (C := "DiscMaker$Tree") (T := F_Tree) (N := 3) hx hb ht9 in_Tree hown hK hPR 0 rfl rfl 0 (by decide) (ht9 _ k235) (fun _ h9 => h9) rfl d_Tree_hasDirectory_9 ?_
    refine lv_iload_n hx hb d_Tree_hasDirectory_12 rfl (lv_at hl 1 rfl) ?_
    have hPR := RO_at hZr hS
    refine va_aldq hx hb hK hPR 1 4 rfl rfl (vp_in_iff.mpr ⟨by omega, by omega⟩) d_Tree_hasDirectory_13 ?_
    have c_hk5 := i_cl (a := x) (by omega)
    have hk5 : x.toNatClampNeg < cm := by omega
    have o_hk5 := htok x.toNatClampNeg hk5
    obtain ⟨i_hj6, hj6⟩ : ∃ j : Nat, (PL (NC cB na ng nn nf) cm)[j]? = some ((na x.toNatClampNeg 0), .inr (5, [.int (ng x.toNatClampNeg 0), .ref (na x.toNatClampNeg 1), .ref (na x.toNatClampNeg 2), .ref (na x.toNatClampNeg 3), .int (ng x.toNatClampNeg 1), .int (ng x.toNatClampNeg 2), .int (ng x.toNatClampNeg 3), .int (ng x.toNatClampNeg 4), .int (ng x.toNatClampNeg 5), .int (ng x.toNatClampNeg 6), .int (ng x.toNatClampNeg 7), .int (ng x.toNatClampNeg 8)])) := PL_get (i := 0) hk5 rfl
    obtain ⟨i_hj7, hj7⟩ : ∃ j : Nat, (PL (NC cB na ng nn nf) cm)[j]? = some ((na x.toNatClampNeg 1), .inl (cB, (nn x.toNatClampNeg 1), .inl (nf x.toNatClampNeg 1))) := PL_get (i := 1) hk5 rfl
    obtain ⟨i_hj8, hj8⟩ : ∃ j : Nat, (PL (NC cB na ng nn nf) cm)[j]? = some ((na x.toNatClampNeg 2), .inl (cB, 11, .inl (nf x.toNatClampNeg 2))) := PL_get (i := 2) hk5 rfl
    obtain ⟨i_hj9, hj9⟩ : ∃ j : Nat, (PL (NC cB na ng nn nf) cm)[j]? = some ((na x.toNatClampNeg 3), .inl (cB, (nn x.toNatClampNeg 3), .inl (nf x.toNatClampNeg 3))) := PL_get (i := 3) hk5 rfl
    refine W.eq (g2 := F0 m 14 ls [.ref (na x.toNatClampNeg 0)]) (by rw [show rowF na cm x.toNatClampNeg = some (na x.toNatClampNeg 0) from rowF_some hk5]; rfl) ?_
    have hPR := RO_at hZr hS
    refine va_getN (D := D) (ci := 5) (v := .int (ng x.toNatClampNeg 0)) (C := "DiscMaker$Node") (T := F_Node) (N := 12) hx hb ht9 in_Node hown hK hPR _ (pix (X := [(tr, .inr (10, [.ref ta, .int cn, .int dr])), (ta, .inl (cN, 40, .inr (.inr (.inr (.inr (rowF na cm))))))]) hj6) rfl 0 (by decide) (va_Nw.use rfl (hN _ k180)) (fun _ h9 => h9) rfl d_Tree_hasDirectory_14 ?_
    refine lv_if_ne (tgt := 24) hx hb d_Tree_hasDirectory_17 (by decide) (fun h_9 => ?_) (fun h_9 => ?_)
    · skip
      have g17_12 : ¬ (ng x.toNatClampNeg 0).toInt = 0 := fun h8 => h_9 ((i_eq rfl (by decide)).mpr h8)
      refine lv_iconst (v := 0) hx hb d_Tree_hasDirectory_24 (by decide) ?_
      have hP9 := hP.sub (ws' := []) [] rfl
      have hD9 := hD.sub (ws' := []) [] (by decide +kernel) rfl
      exact W.zret (v := 0) hx hb hr (by first | rfl | decide | exact i_narZ (by omega)) (fun t ht hW => ⟨⟨0, (), rfl, ⟨(by (try dsimp only); first | assumption | omega | trivial), (by (try dsimp only); intro h7; first | (exfalso; omega) | omega | assumption), (by (try dsimp only); first | exact Or.inl ⟨by decide, by omega, by omega, by omega⟩ | exact Or.inr ⟨by decide, fun h8 => by have h9 := h8.2.2; omega⟩ | exact Or.inr ⟨by decide, fun h8 => hb_4.f (by omega) ⟨h8.1, by have h9 := h8.2.1; omega⟩⟩)⟩, by rw [ht]; exact hP9, hD9⟩, hS.F ht⟩) hS.2.2 d_Tree_hasDirectory_25
    · skip
      have g17_12 : (ng x.toNatClampNeg 0).toInt = 0 := (i_eq rfl (by decide)).mp h_9
      refine lv_iconst (v := 1) hx hb d_Tree_hasDirectory_20 (by decide) ?_
      refine lv_goto (tgt := 25) hx hb d_Tree_hasDirectory_21 (by decide) ?_
      have hP9 := hP.sub (ws' := []) [] rfl
      have hD9 := hD.sub (ws' := []) [] (by decide +kernel) rfl
      exact W.zret (v := 1) hx hb hr (by first | rfl | decide | exact i_narZ (by omega)) (fun t ht hW => ⟨⟨1, (), rfl, ⟨(by (try dsimp only); first | assumption | omega | trivial), (by (try dsimp only); intro h7; first | (exfalso; omega) | omega | assumption), (by (try dsimp only); first | exact Or.inl ⟨by decide, by omega, by omega, by omega⟩ | exact Or.inr ⟨by decide, fun h8 => by have h9 := h8.2.2; omega⟩ | exact Or.inr ⟨by decide, fun h8 => hb_4.f (by omega) ⟨h8.1, by have h9 := h8.2.1; omega⟩⟩)⟩, by rw [ht]; exact hP9, hD9⟩, hS.F ht⟩) hS.2.2 d_Tree_hasDirectory_25

theorem d_Tree_directoriesIn_0 : decode b_Tree_directoriesIn 0 = .ok (.iconst 0, 1) := by decide +kernel
theorem d_Tree_directoriesIn_1 : decode b_Tree_directoriesIn 1 = .ok (.istore_n 2, 1) := by decide +kernel
theorem d_Tree_directoriesIn_2 : decode b_Tree_directoriesIn 2 = .ok (.iconst 1, 1) := by decide +kernel
theorem d_Tree_directoriesIn_3 : decode b_Tree_directoriesIn 3 = .ok (.istore_n 3, 1) := by decide +kernel
theorem d_Tree_directoriesIn_4 : decode b_Tree_directoriesIn 4 = .ok (.iload_n 3, 1) := by decide +kernel
theorem d_Tree_directoriesIn_5 : decode b_Tree_directoriesIn 5 = .ok (.aload_n 0, 1) := by decide +kernel
theorem d_Tree_directoriesIn_6 : decode b_Tree_directoriesIn 6 = .ok (.getfield 20, 3) := by decide +kernel
theorem d_Tree_directoriesIn_9 : decode b_Tree_directoriesIn 9 = .ok (.if_icmp .ge 37, 3) := by decide +kernel
theorem d_Tree_directoriesIn_12 : decode b_Tree_directoriesIn 12 = .ok (.aload_n 0, 1) := by decide +kernel
theorem d_Tree_directoriesIn_13 : decode b_Tree_directoriesIn 13 = .ok (.getfield 11, 3) := by decide +kernel
theorem d_Tree_directoriesIn_16 : decode b_Tree_directoriesIn 16 = .ok (.iload_n 3, 1) := by decide +kernel
theorem d_Tree_directoriesIn_17 : decode b_Tree_directoriesIn 17 = .ok (.aaload, 1) := by decide +kernel
theorem d_Tree_directoriesIn_18 : decode b_Tree_directoriesIn 18 = .ok (.getfield 34, 3) := by decide +kernel
theorem d_Tree_directoriesIn_21 : decode b_Tree_directoriesIn 21 = .ok (.iload_n 1, 1) := by decide +kernel
theorem d_Tree_directoriesIn_22 : decode b_Tree_directoriesIn 22 = .ok (.if_icmp .ne 18, 3) := by decide +kernel
theorem d_Tree_directoriesIn_25 : decode b_Tree_directoriesIn 25 = .ok (.aload_n 0, 1) := by decide +kernel
theorem d_Tree_directoriesIn_26 : decode b_Tree_directoriesIn 26 = .ok (.getfield 11, 3) := by decide +kernel
theorem d_Tree_directoriesIn_29 : decode b_Tree_directoriesIn 29 = .ok (.iload_n 3, 1) := by decide +kernel
theorem d_Tree_directoriesIn_30 : decode b_Tree_directoriesIn 30 = .ok (.aaload, 1) := by decide +kernel
theorem d_Tree_directoriesIn_31 : decode b_Tree_directoriesIn 31 = .ok (.getfield 31, 3) := by decide +kernel
theorem d_Tree_directoriesIn_34 : decode b_Tree_directoriesIn 34 = .ok (.ifCond .ne 6, 3) := by decide +kernel
theorem d_Tree_directoriesIn_37 : decode b_Tree_directoriesIn 37 = .ok (.iinc 2 1, 3) := by decide +kernel
theorem d_Tree_directoriesIn_40 : decode b_Tree_directoriesIn 40 = .ok (.iinc 3 1, 3) := by decide +kernel
theorem d_Tree_directoriesIn_43 : decode b_Tree_directoriesIn 43 = .ok (.goto (-39), 3) := by decide +kernel
theorem d_Tree_directoriesIn_46 : decode b_Tree_directoriesIn 46 = .ok (.iload_n 2, 1) := by decide +kernel
theorem d_Tree_directoriesIn_47 : decode b_Tree_directoriesIn 47 = .ok (.ireturn, 1) := by decide +kernel
set_option maxHeartbeats 4000000 in
set_option maxRecDepth 100000 in
theorem c3_directoriesIn (l : Launch) (D : va_G) (cB cI cJ cZ cN cF : ClassId) (sz : Nat) (tr : Nat) (ta : Nat) (cn : Int32) (dr : Int32) (na : Nat → Nat → Nat) (ng : Nat → Nat → Int32) (nn : Nat → Nat → Nat) (nf : Nat → Nat → Nat → Int32) (cm : Nat) (x : Int32) (hcn : cn.toInt = cm) (hcm : cm ≤ 40) (htok : TOK cm ng nn) : Met l y_Tree_directoriesIn w_Tree_directoriesIn ({ frames := 0, cells := 0, slots := 0, locals := 0 }) (va_Pc [.ref tr, .int x] (fun U => U.heap.size = sz ∧ va_P D CL [] U.heap ∧ va_K D CL (TY cB cI cJ cZ cN cF) U ∧ NN U ∧ va_D (fun _ => True) [] ∧ RO D (([(tr, .inr (10, [.ref ta, .int cn, .int dr])), (ta, .inl (cN, 40, .inr (.inr (.inr (.inr (rowF na cm))))))] : va_W) ++ (PL (NC cB na ng nn nf) cm)) (va_A [] sz) U U.heap)) (va_Qi (fun (r : Int32) (u : Unit) => (0 ≤ r.toInt ∧ r.toInt ≤ 40)) (fun (u : Unit) (t : State) => match u with | () => va_P D CL [] t.heap ∧ va_D (va_A [] sz) []) (va_A [] sz)) 0 0 (va_A [] sz) := by
  refine Met.ofW (cc := b_Tree_directoriesIn) (maxL := 4) (ret := some .int) (by decide +kernel) rfl ?_
  intro p e s m args below meth c s₁ B hml hv
  obtain ⟨rfl, hsz, hP, hK, hN, hD0, hZr⟩ := hv
  have hx := B.exec
  have hb := B.bytes
  have hr := B.returns
  have hts := atoms_spec (ws := w_Tree_directoriesIn) B.pre
  have ht9 := fun (w : Cond) (h : w ∈ lw_g) => hts w (List.mem_cons_of_mem _ h)
  have hown : s.vm.findClass "DiscMaker$Tree" = some m.cls := findClass_of_methodNamed B.named
  have hlocks := B.notSynchronized
  subst hsz
  have hD := hD0.self (sz := s.heap.size)
  generalize hAe : va_A [] s.heap.size = A at hD hZr ⊢
  have hA : ∀ q : Nat, s.heap.size ≤ q → A q := fun q h => by rw [← hAe]; exact Or.inr h
  have hS : va_S A s.heap s.heap [] := va_S.rf
  have hP : va_P D CL [] s.heap := hP
  have hl := lv_entry [.ref tr, .int x] (n := 4) (Nat.le_of_ble_eq_true rfl)
  rw [lg_entry_eq]
  generalize (lg_sl [.ref tr, .int x] ++ List.replicate (4 - (lg_sl [.ref tr, .int x]).length) Slot.unset).toArray = ls at hl ⊢
  have hl : lv_has ls 4 [(0, .ref tr), (1, .int x)] := hl
  have L_m1 : ((-1) : Int32).toInt = (-1) := by decide
  have L_0 : (0 : Int32).toInt = 0 := by decide
  have L_1 : (1 : Int32).toInt = 1 := by decide
  refine lv_iconst (v := 0) hx hb d_Tree_directoriesIn_0 (by decide) ?_
  refine lv_istore_n hx hb d_Tree_directoriesIn_1 rfl hl (by decide) rfl (fun ls hl => ?_)
  have hl : lv_has ls 4 [(2, .int 0), (0, .ref tr), (1, .int x)] := hl
  refine lv_iconst (v := 1) hx hb d_Tree_directoriesIn_2 (by decide) ?_
  refine lv_istore_n hx hb d_Tree_directoriesIn_3 rfl hl (by decide) rfl (fun ls hl => ?_)
  have hl : lv_has ls 4 [(3, .int 1), (2, .int 0), (0, .ref tr), (1, .int x)] := hl
  refine zz_labM (B := fun (lk : Nat) (K : Heap → List Loc → Array Slot → List Value → Prop) => ∀ (fd : Int32) (kx : Int32) (H : Heap) (locs : List Loc) (ls : Array Slot), lk = (41 - kx.toInt).toNat → (1 ≤ kx.toInt ∧ kx.toInt ≤ 40) → (0 ≤ fd.toInt ∧ fd.toInt ≤ kx.toInt - 1) → va_P D CL [] H → va_D A [] → va_S A s.heap H locs → lv_has ls 4 [(0, .ref tr), (1, .int x), (2, .int fd), (3, .int kx)] → K H locs ls []) 4 ?_ ?_
  · skip
    intro lk ih4 fd kx H locs ls hm4 e1 e2 hP hD hS hl
    refine lv_iload_n hx hb d_Tree_directoriesIn_4 rfl (lv_at hl 3 rfl) ?_
    refine lv_aload_n hx hb d_Tree_directoriesIn_5 rfl (lv_at hl 0 rfl) ?_
    have hPR := RO_at hZr hS
    refine va_get (D := D) (ci := 10) (v := .int cn) (C := "DiscMaker$Tree") (T := F_Tree) (N := 3) hx hb ht9 in_Tree hown hK hPR 0 rfl rfl 1 (by decide) (ht9 _ k239) (fun _ h9 => h9) rfl d_Tree_directoriesIn_6 ?_
    refine lv_icmp_ge (tgt := 46) hx hb d_Tree_directoriesIn_9 (by decide) (fun h_9 => ?_) (fun h_9 => ?_)
    · skip
      have g9_8 : cn.toInt ≤ kx.toInt := (i_le rfl rfl).mp h_9
      refine lv_iload_n hx hb d_Tree_directoriesIn_46 rfl (lv_at hl 2 rfl) ?_
      have hP9 := hP.sub (ws' := []) [] rfl
      have hD9 := hD.sub (ws' := []) [] (by decide +kernel) rfl
      exact W.iret (v := fd) hx hb hr (fun t ht hW => ⟨⟨fd, (), rfl, (by (try dsimp only); first | assumption | omega | trivial), by rw [ht]; exact hP9, hD9⟩, hS.F ht⟩) hS.2.2 d_Tree_directoriesIn_47
    · skip
      have g9_8 : ¬ cn.toInt ≤ kx.toInt := fun h8 => h_9 ((i_le rfl rfl).mpr h8)
      refine lv_aload_n hx hb d_Tree_directoriesIn_12 rfl (lv_at hl 0 rfl) ?_
      have hPR := RO_at hZr hS
      refine va_get (D := D) (ci := 10) (v := .ref ta) (C := "DiscMaker$Tree") (T := F_Tree) (N := 3) hx hb ht9 in_Tree hown hK hPR 0 rfl rfl 0 (by decide) (ht9 _ k235) (fun _ h9 => h9) rfl d_Tree_directoriesIn_13 ?_
      refine lv_iload_n hx hb d_Tree_directoriesIn_16 rfl (lv_at hl 3 rfl) ?_
      have hPR := RO_at hZr hS
      refine va_aldq hx hb hK hPR 1 4 rfl rfl (vp_in_iff.mpr ⟨by omega, by omega⟩) d_Tree_directoriesIn_17 ?_
      have c_hk1 := i_cl (a := kx) (by omega)
      have hk1 : kx.toNatClampNeg < cm := by omega
      have o_hk1 := htok kx.toNatClampNeg hk1
      obtain ⟨i_hj2, hj2⟩ : ∃ j : Nat, (PL (NC cB na ng nn nf) cm)[j]? = some ((na kx.toNatClampNeg 0), .inr (5, [.int (ng kx.toNatClampNeg 0), .ref (na kx.toNatClampNeg 1), .ref (na kx.toNatClampNeg 2), .ref (na kx.toNatClampNeg 3), .int (ng kx.toNatClampNeg 1), .int (ng kx.toNatClampNeg 2), .int (ng kx.toNatClampNeg 3), .int (ng kx.toNatClampNeg 4), .int (ng kx.toNatClampNeg 5), .int (ng kx.toNatClampNeg 6), .int (ng kx.toNatClampNeg 7), .int (ng kx.toNatClampNeg 8)])) := PL_get (i := 0) hk1 rfl
      obtain ⟨i_hj3, hj3⟩ : ∃ j : Nat, (PL (NC cB na ng nn nf) cm)[j]? = some ((na kx.toNatClampNeg 1), .inl (cB, (nn kx.toNatClampNeg 1), .inl (nf kx.toNatClampNeg 1))) := PL_get (i := 1) hk1 rfl
      obtain ⟨i_hj4, hj4⟩ : ∃ j : Nat, (PL (NC cB na ng nn nf) cm)[j]? = some ((na kx.toNatClampNeg 2), .inl (cB, 11, .inl (nf kx.toNatClampNeg 2))) := PL_get (i := 2) hk1 rfl
      obtain ⟨i_hj5, hj5⟩ : ∃ j : Nat, (PL (NC cB na ng nn nf) cm)[j]? = some ((na kx.toNatClampNeg 3), .inl (cB, (nn kx.toNatClampNeg 3), .inl (nf kx.toNatClampNeg 3))) := PL_get (i := 3) hk1 rfl
      refine W.eq (g2 := F0 m 18 ls [.ref (na kx.toNatClampNeg 0)]) (by rw [show rowF na cm kx.toNatClampNeg = some (na kx.toNatClampNeg 0) from rowF_some hk1]; rfl) ?_
      have hPR := RO_at hZr hS
      refine va_getN (D := D) (ci := 5) (v := .int (ng kx.toNatClampNeg 2)) (C := "DiscMaker$Node") (T := F_Node) (N := 12) hx hb ht9 in_Node hown hK hPR _ (pix (X := [(tr, .inr (10, [.ref ta, .int cn, .int dr])), (ta, .inl (cN, 40, .inr (.inr (.inr (.inr (rowF na cm))))))]) hj2) rfl 5 (by decide) (va_Nw.use rfl (hN _ k196)) (fun _ h9 => h9) rfl d_Tree_directoriesIn_18 ?_
      refine lv_iload_n hx hb d_Tree_directoriesIn_21 rfl (lv_at hl 1 rfl) ?_
      refine lv_icmp_ne (tgt := 40) hx hb d_Tree_directoriesIn_22 (by decide) (fun h_9 => ?_) (fun h_9 => ?_)
      · skip
        have g22_17 : ¬ (ng kx.toNatClampNeg 2).toInt = x.toInt := fun h8 => h_9 ((i_eq rfl rfl).mpr h8)
        obtain ⟨v6, e_v6⟩ : ∃ z : Int32, z = kx + 1 := ⟨_, rfl⟩
        refine lv_iinc (v := v6) hx hb d_Tree_directoriesIn_40 hl (k := 3) rfl e_v6.symm (by decide +kernel) rfl (fun ls hl => ?_)
        have t_v6 : v6.toInt = kx.toInt + 1 := by rw [e_v6]; exact i_add rfl (by decide) (by omega) (by omega)
        have hl : lv_has ls 4 [(3, .int v6), (0, .ref tr), (1, .int x), (2, .int fd)] := hl
        refine lv_goto (tgt := 4) hx hb d_Tree_directoriesIn_43 (by decide) ?_
        have hP := hP.sub (ws' := []) [] rfl
        have hD := hD.sub (ws' := []) [] (by decide +kernel) rfl
        have hl := lv_sub hl [1, 2, 3, 0] rfl
        exact ih4 _ (by first | omega | (dsimp only; omega)) fd v6 _ _ _ rfl ((by (try dsimp only); first | assumption | omega | trivial)) ((by (try dsimp only); first | assumption | omega | trivial)) hP hD hS hl
      · skip
        have g22_17 : (ng kx.toNatClampNeg 2).toInt = x.toInt := (i_eq rfl rfl).mp h_9
        refine lv_aload_n hx hb d_Tree_directoriesIn_25 rfl (lv_at hl 0 rfl) ?_
        have hPR := RO_at hZr hS
        refine va_get (D := D) (ci := 10) (v := .ref ta) (C := "DiscMaker$Tree") (T := F_Tree) (N := 3) hx hb ht9 in_Tree hown hK hPR 0 rfl rfl 0 (by decide) (ht9 _ k235) (fun _ h9 => h9) rfl d_Tree_directoriesIn_26 ?_
        refine lv_iload_n hx hb d_Tree_directoriesIn_29 rfl (lv_at hl 3 rfl) ?_
        have hPR := RO_at hZr hS
        refine va_aldq hx hb hK hPR 1 4 rfl rfl (vp_in_iff.mpr ⟨by omega, by omega⟩) d_Tree_directoriesIn_30 ?_
        have c_hk7 := i_cl (a := kx) (by omega)
        have hk7 : kx.toNatClampNeg < cm := by omega
        have o_hk7 := htok kx.toNatClampNeg hk7
        obtain ⟨i_hj8, hj8⟩ : ∃ j : Nat, (PL (NC cB na ng nn nf) cm)[j]? = some ((na kx.toNatClampNeg 0), .inr (5, [.int (ng kx.toNatClampNeg 0), .ref (na kx.toNatClampNeg 1), .ref (na kx.toNatClampNeg 2), .ref (na kx.toNatClampNeg 3), .int (ng kx.toNatClampNeg 1), .int (ng kx.toNatClampNeg 2), .int (ng kx.toNatClampNeg 3), .int (ng kx.toNatClampNeg 4), .int (ng kx.toNatClampNeg 5), .int (ng kx.toNatClampNeg 6), .int (ng kx.toNatClampNeg 7), .int (ng kx.toNatClampNeg 8)])) := PL_get (i := 0) hk7 rfl
        obtain ⟨i_hj9, hj9⟩ : ∃ j : Nat, (PL (NC cB na ng nn nf) cm)[j]? = some ((na kx.toNatClampNeg 1), .inl (cB, (nn kx.toNatClampNeg 1), .inl (nf kx.toNatClampNeg 1))) := PL_get (i := 1) hk7 rfl
        obtain ⟨i_hj10, hj10⟩ : ∃ j : Nat, (PL (NC cB na ng nn nf) cm)[j]? = some ((na kx.toNatClampNeg 2), .inl (cB, 11, .inl (nf kx.toNatClampNeg 2))) := PL_get (i := 2) hk7 rfl
        obtain ⟨i_hj11, hj11⟩ : ∃ j : Nat, (PL (NC cB na ng nn nf) cm)[j]? = some ((na kx.toNatClampNeg 3), .inl (cB, (nn kx.toNatClampNeg 3), .inl (nf kx.toNatClampNeg 3))) := PL_get (i := 3) hk7 rfl
        refine W.eq (g2 := F0 m 31 ls [.ref (na kx.toNatClampNeg 0)]) (by rw [show rowF na cm kx.toNatClampNeg = some (na kx.toNatClampNeg 0) from rowF_some hk7]; rfl) ?_
        have hPR := RO_at hZr hS
        refine va_getN (D := D) (ci := 5) (v := .int (ng kx.toNatClampNeg 0)) (C := "DiscMaker$Node") (T := F_Node) (N := 12) hx hb ht9 in_Node hown hK hPR _ (pix (X := [(tr, .inr (10, [.ref ta, .int cn, .int dr])), (ta, .inl (cN, 40, .inr (.inr (.inr (.inr (rowF na cm))))))]) hj8) rfl 0 (by decide) (va_Nw.use rfl (hN _ k180)) (fun _ h9 => h9) rfl d_Tree_directoriesIn_31 ?_
        refine lv_if_ne (tgt := 40) hx hb d_Tree_directoriesIn_34 (by decide) (fun h_9 => ?_) (fun h_9 => ?_)
        · skip
          have g34_26 : ¬ (ng kx.toNatClampNeg 0).toInt = 0 := fun h8 => h_9 ((i_eq rfl (by decide)).mpr h8)
          obtain ⟨v12, e_v12⟩ : ∃ z : Int32, z = kx + 1 := ⟨_, rfl⟩
          refine lv_iinc (v := v12) hx hb d_Tree_directoriesIn_40 hl (k := 3) rfl e_v12.symm (by decide +kernel) rfl (fun ls hl => ?_)
          have t_v12 : v12.toInt = kx.toInt + 1 := by rw [e_v12]; exact i_add rfl (by decide) (by omega) (by omega)
          have hl : lv_has ls 4 [(3, .int v12), (0, .ref tr), (1, .int x), (2, .int fd)] := hl
          refine lv_goto (tgt := 4) hx hb d_Tree_directoriesIn_43 (by decide) ?_
          have hP := hP.sub (ws' := []) [] rfl
          have hD := hD.sub (ws' := []) [] (by decide +kernel) rfl
          have hl := lv_sub hl [1, 2, 3, 0] rfl
          exact ih4 _ (by first | omega | (dsimp only; omega)) fd v12 _ _ _ rfl ((by (try dsimp only); first | assumption | omega | trivial)) ((by (try dsimp only); first | assumption | omega | trivial)) hP hD hS hl
        · skip
          have g34_26 : (ng kx.toNatClampNeg 0).toInt = 0 := (i_eq rfl (by decide)).mp h_9
          obtain ⟨v13, e_v13⟩ : ∃ z : Int32, z = fd + 1 := ⟨_, rfl⟩
          refine lv_iinc (v := v13) hx hb d_Tree_directoriesIn_37 hl (k := 2) rfl e_v13.symm (by decide +kernel) rfl (fun ls hl => ?_)
          have t_v13 : v13.toInt = fd.toInt + 1 := by rw [e_v13]; exact i_add rfl (by decide) (by omega) (by omega)
          have hl : lv_has ls 4 [(2, .int v13), (0, .ref tr), (1, .int x), (3, .int kx)] := hl
          obtain ⟨v14, e_v14⟩ : ∃ z : Int32, z = kx + 1 := ⟨_, rfl⟩
          refine lv_iinc (v := v14) hx hb d_Tree_directoriesIn_40 hl (k := 3) rfl e_v14.symm (by decide +kernel) rfl (fun ls hl => ?_)
          have t_v14 : v14.toInt = kx.toInt + 1 := by rw [e_v14]; exact i_add rfl (by decide) (by omega) (by omega)
          have hl : lv_has ls 4 [(3, .int v14), (2, .int v13), (0, .ref tr), (1, .int x)] := hl
          refine lv_goto (tgt := 4) hx hb d_Tree_directoriesIn_43 (by decide) ?_
          have hP := hP.sub (ws' := []) [] rfl
          have hD := hD.sub (ws' := []) [] (by decide +kernel) rfl
          have hl := lv_sub hl [2, 3, 1, 0] rfl
          exact ih4 _ (by first | omega | (dsimp only; omega)) v13 v14 _ _ _ rfl ((by (try dsimp only); first | assumption | omega | trivial)) ((by (try dsimp only); first | assumption | omega | trivial)) hP hD hS hl
  · skip
    intro kk4
    have hP := hP.sub (ws' := []) [] rfl
    have hD := hD.sub (ws' := []) [] (by decide +kernel) rfl
    have hl := lv_sub hl [2, 3, 1, 0] rfl
    exact kk4 _ 0 1 _ _ _ rfl ((by (try dsimp only); first | assumption | omega | trivial)) ((by (try dsimp only); first | assumption | omega | trivial)) hP hD hS hl

theorem d_Tree_isNamed_0 : decode b_Tree_isNamed 0 = .ok (.iconst 1, 1) := by decide +kernel
theorem d_Tree_isNamed_1 : decode b_Tree_isNamed 1 = .ok (.istore_n 2, 1) := by decide +kernel
theorem d_Tree_isNamed_2 : decode b_Tree_isNamed 2 = .ok (.iload_n 2, 1) := by decide +kernel
theorem d_Tree_isNamed_3 : decode b_Tree_isNamed 3 = .ok (.aload_n 0, 1) := by decide +kernel
theorem d_Tree_isNamed_4 : decode b_Tree_isNamed 4 = .ok (.getfield 20, 3) := by decide +kernel
theorem d_Tree_isNamed_7 : decode b_Tree_isNamed 7 = .ok (.if_icmp .ge 46, 3) := by decide +kernel
theorem d_Tree_isNamed_10 : decode b_Tree_isNamed 10 = .ok (.aload_n 0, 1) := by decide +kernel
theorem d_Tree_isNamed_11 : decode b_Tree_isNamed 11 = .ok (.getfield 11, 3) := by decide +kernel
theorem d_Tree_isNamed_14 : decode b_Tree_isNamed 14 = .ok (.iload_n 2, 1) := by decide +kernel
theorem d_Tree_isNamed_15 : decode b_Tree_isNamed 15 = .ok (.aaload, 1) := by decide +kernel
theorem d_Tree_isNamed_16 : decode b_Tree_isNamed 16 = .ok (.getfield 34, 3) := by decide +kernel
theorem d_Tree_isNamed_19 : decode b_Tree_isNamed 19 = .ok (.aload_n 1, 1) := by decide +kernel
theorem d_Tree_isNamed_20 : decode b_Tree_isNamed 20 = .ok (.getfield 34, 3) := by decide +kernel
theorem d_Tree_isNamed_23 : decode b_Tree_isNamed 23 = .ok (.if_icmp .ne 24, 3) := by decide +kernel
theorem d_Tree_isNamed_26 : decode b_Tree_isNamed 26 = .ok (.aload_n 0, 1) := by decide +kernel
theorem d_Tree_isNamed_27 : decode b_Tree_isNamed 27 = .ok (.getfield 11, 3) := by decide +kernel
theorem d_Tree_isNamed_30 : decode b_Tree_isNamed 30 = .ok (.iload_n 2, 1) := by decide +kernel
theorem d_Tree_isNamed_31 : decode b_Tree_isNamed 31 = .ok (.aaload, 1) := by decide +kernel
theorem d_Tree_isNamed_32 : decode b_Tree_isNamed 32 = .ok (.getfield 54, 3) := by decide +kernel
theorem d_Tree_isNamed_35 : decode b_Tree_isNamed 35 = .ok (.aload_n 1, 1) := by decide +kernel
theorem d_Tree_isNamed_36 : decode b_Tree_isNamed 36 = .ok (.getfield 54, 3) := by decide +kernel
theorem d_Tree_isNamed_39 : decode b_Tree_isNamed 39 = .ok (.invokestatic 58, 3) := by decide +kernel
theorem d_Tree_isNamed_42 : decode b_Tree_isNamed 42 = .ok (.ifCond .ne 5, 3) := by decide +kernel
theorem d_Tree_isNamed_45 : decode b_Tree_isNamed 45 = .ok (.iconst 1, 1) := by decide +kernel
theorem d_Tree_isNamed_46 : decode b_Tree_isNamed 46 = .ok (.ireturn, 1) := by decide +kernel
theorem d_Tree_isNamed_47 : decode b_Tree_isNamed 47 = .ok (.iinc 2 1, 3) := by decide +kernel
theorem d_Tree_isNamed_50 : decode b_Tree_isNamed 50 = .ok (.goto (-48), 3) := by decide +kernel
theorem d_Tree_isNamed_53 : decode b_Tree_isNamed 53 = .ok (.iconst 0, 1) := by decide +kernel
theorem d_Tree_isNamed_54 : decode b_Tree_isNamed 54 = .ok (.ireturn, 1) := by decide +kernel
set_option maxHeartbeats 4000000 in
set_option maxRecDepth 100000 in
theorem c3_isNamed (l : Launch) (D : va_G) (cB cI cJ cZ cN cF : ClassId) (sz : Nat) (tr : Nat) (ta : Nat) (cn : Int32) (dr : Int32) (na : Nat → Nat → Nat) (ng : Nat → Nat → Int32) (nn : Nat → Nat → Nat) (nf : Nat → Nat → Nat → Int32) (cm : Nat) (h0 : Nat) (kna : Nat) (kke : Nat) (kta : Nat) (so : Int32) (nu : Int32) (pa : Int32) (ab : Int32) (mo : Int32) (ow : Int32) (gr : Int32) (si : Int32) (sd : Int32) (l1 : Nat) (c1 : Nat → Int32) (hcn : cn.toInt = cm) (hcm : cm ≤ 40) (htok : TOK cm ng nn) (hl1 : l1 ≤ 400) : Met l y_Tree_isNamed w_Tree_isNamed ({ frames := 2, cells := 0, slots := 0, locals := 59 }) (va_Pc [.ref tr, .ref h0] (fun U => U.heap.size = sz ∧ va_P D CL [] U.heap ∧ va_K D CL (TY cB cI cJ cZ cN cF) U ∧ NN U ∧ va_D (fun _ => True) [] ∧ RO D (([(tr, .inr (10, [.ref ta, .int cn, .int dr])), (ta, .inl (cN, 40, .inr (.inr (.inr (.inr (rowF na cm)))))), (h0, .inr (5, [.int so, .ref kna, .ref kke, .ref kta, .int nu, .int pa, .int ab, .int mo, .int ow, .int gr, .int si, .int sd])), (kna, .inl (cB, l1, .inl c1))] : va_W) ++ (PL (NC cB na ng nn nf) cm)) (va_A [] sz) U U.heap)) (va_Qi (fun (r : Int32) (u : Unit) => (0 ≤ r.toInt ∧ r.toInt ≤ 1) ∧ (BoolIs r (NmdC cm ng nn nf pa l1 c1))) (fun (u : Unit) (t : State) => match u with | () => va_P D CL [] t.heap ∧ va_D (va_A [] sz) []) (va_A [] sz)) 0 0 (va_A [] sz) := by
  refine Met.ofW (cc := b_Tree_isNamed) (maxL := 3) (ret := some .boolean) (by decide +kernel) rfl ?_
  intro p e s m args below meth c s₁ B hml hv
  obtain ⟨rfl, hsz, hP, hK, hN, hD0, hZr⟩ := hv
  have hx := B.exec
  have hb := B.bytes
  have hr := B.returns
  have hts := atoms_spec (ws := w_Tree_isNamed) B.pre
  have ht9 := fun (w : Cond) (h : w ∈ lw_g) => hts w (List.mem_cons_of_mem _ h)
  have hown : s.vm.findClass "DiscMaker$Tree" = some m.cls := findClass_of_methodNamed B.named
  have hlocks := B.notSynchronized
  subst hsz
  have hD := hD0.self (sz := s.heap.size)
  generalize hAe : va_A [] s.heap.size = A at hD hZr ⊢
  have hA : ∀ q : Nat, s.heap.size ≤ q → A q := fun q h => by rw [← hAe]; exact Or.inr h
  have hS : va_S A s.heap s.heap [] := va_S.rf
  have hP : va_P D CL [] s.heap := hP
  have hl := lv_entry [.ref tr, .ref h0] (n := 3) (Nat.le_of_ble_eq_true rfl)
  rw [lg_entry_eq]
  generalize (lg_sl [.ref tr, .ref h0] ++ List.replicate (3 - (lg_sl [.ref tr, .ref h0]).length) Slot.unset).toArray = ls at hl ⊢
  have hl : lv_has ls 3 [(0, .ref tr), (1, .ref h0)] := hl
  have L_m1 : ((-1) : Int32).toInt = (-1) := by decide
  have L_0 : (0 : Int32).toInt = 0 := by decide
  have L_1 : (1 : Int32).toInt = 1 := by decide
  refine lv_iconst (v := 1) hx hb d_Tree_isNamed_0 (by decide) ?_
  refine lv_istore_n hx hb d_Tree_isNamed_1 rfl hl (by decide) rfl (fun ls hl => ?_)
  have hl : lv_has ls 3 [(2, .int 1), (0, .ref tr), (1, .ref h0)] := hl
  refine zz_labM (B := fun (lk : Nat) (K : Heap → List Loc → Array Slot → List Value → Prop) => ∀ (kx : Int32) (H : Heap) (locs : List Loc) (ls : Array Slot), lk = (cn.toInt - kx.toInt).toNat → (1 ≤ kx.toInt ∧ (kx.toInt ≤ cn.toInt ∨ kx.toInt = 1)) → (∀ k : Nat, 1 ≤ k → (k : Int) < kx.toInt → ¬ ((ng k 2).toInt = pa.toInt ∧ EqN (nn k 1) (nf k 1) l1 c1)) → va_P D CL [] H → va_D A [] → va_S A s.heap H locs → lv_has ls 3 [(0, .ref tr), (1, .ref h0), (2, .int kx)] → K H locs ls []) 2 ?_ ?_
  · skip
    intro lk ih2 kx H locs ls hm2 e1 e2 hP hD hS hl
    refine lv_iload_n hx hb d_Tree_isNamed_2 rfl (lv_at hl 2 rfl) ?_
    refine lv_aload_n hx hb d_Tree_isNamed_3 rfl (lv_at hl 0 rfl) ?_
    have hPR := RO_at hZr hS
    refine va_get (D := D) (ci := 10) (v := .int cn) (C := "DiscMaker$Tree") (T := F_Tree) (N := 3) hx hb ht9 in_Tree hown hK hPR 0 rfl rfl 1 (by decide) (ht9 _ k239) (fun _ h9 => h9) rfl d_Tree_isNamed_4 ?_
    refine lv_icmp_ge (tgt := 53) hx hb d_Tree_isNamed_7 (by decide) (fun h_9 => ?_) (fun h_9 => ?_)
    · skip
      have g7_6 : cn.toInt ≤ kx.toInt := (i_le rfl rfl).mp h_9
      refine lv_iconst (v := 0) hx hb d_Tree_isNamed_53 (by decide) ?_
      have hP9 := hP.sub (ws' := []) [] rfl
      have hD9 := hD.sub (ws' := []) [] (by decide +kernel) rfl
      exact W.zret (v := 0) hx hb hr (by first | rfl | decide | exact i_narZ (by omega)) (fun t ht hW => ⟨⟨0, (), rfl, ⟨(by (try dsimp only); first | assumption | omega | trivial), (Or.inr ⟨by decide, fun h8 => by obtain ⟨k, h1, h2, h3, h4⟩ := h8; exact e2 k h1 (by omega) ⟨h3, h4⟩⟩)⟩, by rw [ht]; exact hP9, hD9⟩, hS.F ht⟩) hS.2.2 d_Tree_isNamed_54
    · skip
      have g7_6 : ¬ cn.toInt ≤ kx.toInt := fun h8 => h_9 ((i_le rfl rfl).mpr h8)
      refine lv_aload_n hx hb d_Tree_isNamed_10 rfl (lv_at hl 0 rfl) ?_
      have hPR := RO_at hZr hS
      refine va_get (D := D) (ci := 10) (v := .ref ta) (C := "DiscMaker$Tree") (T := F_Tree) (N := 3) hx hb ht9 in_Tree hown hK hPR 0 rfl rfl 0 (by decide) (ht9 _ k235) (fun _ h9 => h9) rfl d_Tree_isNamed_11 ?_
      refine lv_iload_n hx hb d_Tree_isNamed_14 rfl (lv_at hl 2 rfl) ?_
      have hPR := RO_at hZr hS
      refine va_aldq hx hb hK hPR 1 4 rfl rfl (vp_in_iff.mpr ⟨by omega, by omega⟩) d_Tree_isNamed_15 ?_
      have c_hk1 := i_cl (a := kx) (by omega)
      have hk1 : kx.toNatClampNeg < cm := by omega
      have o_hk1 := htok kx.toNatClampNeg hk1
      obtain ⟨i_hj2, hj2⟩ : ∃ j : Nat, (PL (NC cB na ng nn nf) cm)[j]? = some ((na kx.toNatClampNeg 0), .inr (5, [.int (ng kx.toNatClampNeg 0), .ref (na kx.toNatClampNeg 1), .ref (na kx.toNatClampNeg 2), .ref (na kx.toNatClampNeg 3), .int (ng kx.toNatClampNeg 1), .int (ng kx.toNatClampNeg 2), .int (ng kx.toNatClampNeg 3), .int (ng kx.toNatClampNeg 4), .int (ng kx.toNatClampNeg 5), .int (ng kx.toNatClampNeg 6), .int (ng kx.toNatClampNeg 7), .int (ng kx.toNatClampNeg 8)])) := PL_get (i := 0) hk1 rfl
      obtain ⟨i_hj3, hj3⟩ : ∃ j : Nat, (PL (NC cB na ng nn nf) cm)[j]? = some ((na kx.toNatClampNeg 1), .inl (cB, (nn kx.toNatClampNeg 1), .inl (nf kx.toNatClampNeg 1))) := PL_get (i := 1) hk1 rfl
      obtain ⟨i_hj4, hj4⟩ : ∃ j : Nat, (PL (NC cB na ng nn nf) cm)[j]? = some ((na kx.toNatClampNeg 2), .inl (cB, 11, .inl (nf kx.toNatClampNeg 2))) := PL_get (i := 2) hk1 rfl
      obtain ⟨i_hj5, hj5⟩ : ∃ j : Nat, (PL (NC cB na ng nn nf) cm)[j]? = some ((na kx.toNatClampNeg 3), .inl (cB, (nn kx.toNatClampNeg 3), .inl (nf kx.toNatClampNeg 3))) := PL_get (i := 3) hk1 rfl
      refine W.eq (g2 := F0 m 16 ls [.ref (na kx.toNatClampNeg 0)]) (by rw [show rowF na cm kx.toNatClampNeg = some (na kx.toNatClampNeg 0) from rowF_some hk1]; rfl) ?_
      have hPR := RO_at hZr hS
      refine va_getN (D := D) (ci := 5) (v := .int (ng kx.toNatClampNeg 2)) (C := "DiscMaker$Node") (T := F_Node) (N := 12) hx hb ht9 in_Node hown hK hPR _ (pix (X := [(tr, .inr (10, [.ref ta, .int cn, .int dr])), (ta, .inl (cN, 40, .inr (.inr (.inr (.inr (rowF na cm)))))), (h0, .inr (5, [.int so, .ref kna, .ref kke, .ref kta, .int nu, .int pa, .int ab, .int mo, .int ow, .int gr, .int si, .int sd])), (kna, .inl (cB, l1, .inl c1))]) hj2) rfl 5 (by decide) (va_Nw.use rfl (hN _ k196)) (fun _ h9 => h9) rfl d_Tree_isNamed_16 ?_
      refine lv_aload_n hx hb d_Tree_isNamed_19 rfl (lv_at hl 1 rfl) ?_
      have hPR := RO_at hZr hS
      refine va_getN (D := D) (ci := 5) (v := .int pa) (C := "DiscMaker$Node") (T := F_Node) (N := 12) hx hb ht9 in_Node hown hK hPR 2 rfl rfl 5 (by decide) (va_Nw.use rfl (hN _ k196)) (fun _ h9 => h9) rfl d_Tree_isNamed_20 ?_
      refine lv_icmp_ne (tgt := 47) hx hb d_Tree_isNamed_23 (by decide) (fun h_9 => ?_) (fun h_9 => ?_)
      · skip
        have g23_16 : ¬ (ng kx.toNatClampNeg 2).toInt = pa.toInt := fun h8 => h_9 ((i_eq rfl rfl).mpr h8)
        obtain ⟨v6, e_v6⟩ : ∃ z : Int32, z = kx + 1 := ⟨_, rfl⟩
        refine lv_iinc (v := v6) hx hb d_Tree_isNamed_47 hl (k := 2) rfl e_v6.symm (by decide +kernel) rfl (fun ls hl => ?_)
        have t_v6 : v6.toInt = kx.toInt + 1 := by rw [e_v6]; exact i_add rfl (by decide) (by omega) (by omega)
        have hl : lv_has ls 3 [(2, .int v6), (0, .ref tr), (1, .ref h0)] := hl
        refine lv_goto (tgt := 2) hx hb d_Tree_isNamed_50 (by decide) ?_
        have hP := hP.sub (ws' := []) [] rfl
        have hD := hD.sub (ws' := []) [] (by decide +kernel) rfl
        have hl := lv_sub hl [1, 2, 0] rfl
        exact ih2 _ (by first | omega | (dsimp only; omega)) v6 _ _ _ rfl ((by (try dsimp only); first | assumption | omega | trivial)) ((fun k h1 h2 => (Decidable.em (k = kx.toNatClampNeg)).elim (fun e => by subst e; exact (fun h7 => absurd h7.1 (by omega))) (fun e => e2 k h1 (by have := i_cl (a := kx) (by omega); omega)))) hP hD hS hl
      · skip
        have g23_16 : (ng kx.toNatClampNeg 2).toInt = pa.toInt := (i_eq rfl rfl).mp h_9
        refine lv_aload_n hx hb d_Tree_isNamed_26 rfl (lv_at hl 0 rfl) ?_
        have hPR := RO_at hZr hS
        refine va_get (D := D) (ci := 10) (v := .ref ta) (C := "DiscMaker$Tree") (T := F_Tree) (N := 3) hx hb ht9 in_Tree hown hK hPR 0 rfl rfl 0 (by decide) (ht9 _ k235) (fun _ h9 => h9) rfl d_Tree_isNamed_27 ?_
        refine lv_iload_n hx hb d_Tree_isNamed_30 rfl (lv_at hl 2 rfl) ?_
        have hPR := RO_at hZr hS
        refine va_aldq hx hb hK hPR 1 4 rfl rfl (vp_in_iff.mpr ⟨by omega, by omega⟩) d_Tree_isNamed_31 ?_
        have c_hk7 := i_cl (a := kx) (by omega)
        have hk7 : kx.toNatClampNeg < cm := by omega
        have o_hk7 := htok kx.toNatClampNeg hk7
        obtain ⟨i_hj8, hj8⟩ : ∃ j : Nat, (PL (NC cB na ng nn nf) cm)[j]? = some ((na kx.toNatClampNeg 0), .inr (5, [.int (ng kx.toNatClampNeg 0), .ref (na kx.toNatClampNeg 1), .ref (na kx.toNatClampNeg 2), .ref (na kx.toNatClampNeg 3), .int (ng kx.toNatClampNeg 1), .int (ng kx.toNatClampNeg 2), .int (ng kx.toNatClampNeg 3), .int (ng kx.toNatClampNeg 4), .int (ng kx.toNatClampNeg 5), .int (ng kx.toNatClampNeg 6), .int (ng kx.toNatClampNeg 7), .int (ng kx.toNatClampNeg 8)])) := PL_get (i := 0) hk7 rfl
        obtain ⟨i_hj9, hj9⟩ : ∃ j : Nat, (PL (NC cB na ng nn nf) cm)[j]? = some ((na kx.toNatClampNeg 1), .inl (cB, (nn kx.toNatClampNeg 1), .inl (nf kx.toNatClampNeg 1))) := PL_get (i := 1) hk7 rfl
        obtain ⟨i_hj10, hj10⟩ : ∃ j : Nat, (PL (NC cB na ng nn nf) cm)[j]? = some ((na kx.toNatClampNeg 2), .inl (cB, 11, .inl (nf kx.toNatClampNeg 2))) := PL_get (i := 2) hk7 rfl
        obtain ⟨i_hj11, hj11⟩ : ∃ j : Nat, (PL (NC cB na ng nn nf) cm)[j]? = some ((na kx.toNatClampNeg 3), .inl (cB, (nn kx.toNatClampNeg 3), .inl (nf kx.toNatClampNeg 3))) := PL_get (i := 3) hk7 rfl
        refine W.eq (g2 := F0 m 32 ls [.ref (na kx.toNatClampNeg 0)]) (by rw [show rowF na cm kx.toNatClampNeg = some (na kx.toNatClampNeg 0) from rowF_some hk7]; rfl) ?_
        have hPR := RO_at hZr hS
        refine va_getN (D := D) (ci := 5) (v := .ref (na kx.toNatClampNeg 1)) (C := "DiscMaker$Node") (T := F_Node) (N := 12) hx hb ht9 in_Node hown hK hPR _ (pix (X := [(tr, .inr (10, [.ref ta, .int cn, .int dr])), (ta, .inl (cN, 40, .inr (.inr (.inr (.inr (rowF na cm)))))), (h0, .inr (5, [.int so, .ref kna, .ref kke, .ref kta, .int nu, .int pa, .int ab, .int mo, .int ow, .int gr, .int si, .int sd])), (kna, .inl (cB, l1, .inl c1))]) hj8) rfl 1 (by decide) (va_Nw.use rfl (hN _ k185)) (fun _ h9 => h9) rfl d_Tree_isNamed_32 ?_
        refine lv_aload_n hx hb d_Tree_isNamed_35 rfl (lv_at hl 1 rfl) ?_
        have hPR := RO_at hZr hS
        refine va_getN (D := D) (ci := 5) (v := .ref kna) (C := "DiscMaker$Node") (T := F_Node) (N := 12) hx hb ht9 in_Node hown hK hPR 2 rfl rfl 1 (by decide) (va_Nw.use rfl (hN _ k185)) (fun _ h9 => h9) rfl d_Tree_isNamed_36 ?_
        have hPc := hP.sub (ws' := []) [] rfl
        have hDc := hD.sub (ws' := []) [] (by decide +kernel) rfl
        have hFc := va_free (wc := []) hD hS hA [] rfl
        have hkc : 0 ≤ 0 := by decide
        have hks : 0 ≤ 0 := by decide
        refine va_calli (va_runS (As := [.ref (na kx.toNatClampNeg 1), .ref kna]) (rest := []) ⟨hx, hb, hml, hown, hts⟩ (c3_compareRows l D cB cI cJ cZ cN cF H.size (na kx.toNatClampNeg 1) (nn kx.toNatClampNeg 1) (nf kx.toNatClampNeg 1) kna l1 c1 (by (try dsimp only); first | assumption | omega | trivial) (by (try dsimp only); first | assumption | omega | trivial)) (va_cwS 2 hts (lg_goodSX k823 k824 k118 kc_Node_compareRows) rfl rfl rfl (by decide +kernel) ⟨Nat.le_of_ble_eq_true rfl, Nat.le_of_ble_eq_true rfl⟩) ⟨fun a U g mk q => by obtain ⟨q0, q1, qP, qK, qN, qD, qZ0⟩ := q; exact ⟨q0, q1, qP, va_K.moved (u := U) (U := U.calling g mk a) (Vm.Alike.refl U.vm) qK, qN.calling, qD, RO_blind qZ0⟩, fun U hU hW => ⟨rfl, by rw [hU], by rw [hU]; exact hPc, va_K.moved hW.alike hK, NN.warm hW hN, hDc.weaken (fun _ _ _ _ => trivial), (RO_app (w1 := [((na kx.toNatClampNeg 1), .inl (cB, (nn kx.toNatClampNeg 1), .inl (nf kx.toNatClampNeg 1)))]) (w2 := [(kna, .inl (cB, l1, .inl c1))]) (RO_pass (RO_one hZr _ (pix (X := [(tr, .inr (10, [.ref ta, .int cn, .int dr])), (ta, .inl (cN, 40, .inr (.inr (.inr (.inr (rowF na cm)))))), (h0, .inr (5, [.int so, .ref kna, .ref kke, .ref kta, .int nu, .int pa, .int ab, .int mo, .int ow, .int gr, .int si, .int sd])), (kna, .inl (cB, l1, .inl c1))]) hj9)) hS hFc hU) (RO_pass (RO_one hZr 3 rfl) hS hFc hU))⟩⟩ rfl rfl hl.1 rfl (lv_room (Nat.le_of_ble_eq_true rfl)) d_Tree_isNamed_39 ⟨hkc, hks⟩) hS (fun q _ h => hFc q h) hFc (fun r12 u t H1 locs ht hvm hp_r12 hB hz1 hk1 hS => ?_)
        obtain ⟨hP1, hD1⟩ := hB
        rw [ht] at hP1
        obtain ⟨hP, hD⟩ := va_join (wr := []) (w1 := []) hP hD [] [] rfl rfl (by decide +kernel) (by decide +kernel) hk1 hFc hP1 hD1
        clear hPc hDc hFc hP1 hD1 hk1 hz1 hkc hks
        generalize H1 = H at hP hS ⊢
        have hP : va_P D CL [] H := hP
        have hD : va_D A [] := hD
        try dsimp only at hp_r12
        have hv_13 := hp_r12
        refine lv_if_ne (tgt := 47) hx hb d_Tree_isNamed_42 (by decide) (fun h_9 => ?_) (fun h_9 => ?_)
        · skip
          have g42_28 : ¬ r12.toInt = 0 := fun h8 => h_9 ((i_eq rfl (by decide)).mpr h8)
          obtain ⟨v14, e_v14⟩ : ∃ z : Int32, z = kx + 1 := ⟨_, rfl⟩
          refine lv_iinc (v := v14) hx hb d_Tree_isNamed_47 hl (k := 2) rfl e_v14.symm (by decide +kernel) rfl (fun ls hl => ?_)
          have t_v14 : v14.toInt = kx.toInt + 1 := by rw [e_v14]; exact i_add rfl (by decide) (by omega) (by omega)
          have hl : lv_has ls 3 [(2, .int v14), (0, .ref tr), (1, .ref h0)] := hl
          refine lv_goto (tgt := 2) hx hb d_Tree_isNamed_50 (by decide) ?_
          have hP := hP.sub (ws' := []) [] rfl
          have hD := hD.sub (ws' := []) [] (by decide +kernel) rfl
          have hl := lv_sub hl [1, 2, 0] rfl
          exact ih2 _ (by first | omega | (dsimp only; omega)) v14 _ _ _ rfl ((by (try dsimp only); first | assumption | omega | trivial)) ((fun k h1 h2 => (Decidable.em (k = kx.toNatClampNeg)).elim (fun e => by subst e; exact (fun h7 => hv_13.ne (by omega) h7.2)) (fun e => e2 k h1 (by have := i_cl (a := kx) (by omega); omega)))) hP hD hS hl
        · skip
          have g42_28 : r12.toInt = 0 := (i_eq rfl (by decide)).mp h_9
          refine lv_iconst (v := 1) hx hb d_Tree_isNamed_45 (by decide) ?_
          have hP9 := hP.sub (ws' := []) [] rfl
          have hD9 := hD.sub (ws' := []) [] (by decide +kernel) rfl
          exact W.zret (v := 1) hx hb hr (by first | rfl | decide | exact i_narZ (by omega)) (fun t ht hW => ⟨⟨1, (), rfl, ⟨(by (try dsimp only); first | assumption | omega | trivial), (Or.inl ⟨by decide, ⟨kx.toNatClampNeg, by have := i_cl (a := kx) (by omega); omega, by have := i_cl (a := kx) (by omega); omega, by omega, hv_13.eq (by omega)⟩⟩)⟩, by rw [ht]; exact hP9, hD9⟩, hS.F ht⟩) hS.2.2 d_Tree_isNamed_46
  · skip
    intro kk2
    have hP := hP.sub (ws' := []) [] rfl
    have hD := hD.sub (ws' := []) [] (by decide +kernel) rfl
    have hl := lv_sub hl [1, 2, 0] rfl
    exact kk2 _ 1 _ _ _ rfl ((by (try dsimp only); first | assumption | omega | trivial)) ((fun k h1 h2 => absurd h2 (by omega))) hP hD hS hl

theorem d_Tree_isFullFor_0 : decode b_Tree_isFullFor 0 = .ok (.aload_n 0, 1) := by decide +kernel
theorem d_Tree_isFullFor_1 : decode b_Tree_isFullFor 1 = .ok (.getfield 20, 3) := by decide +kernel
theorem d_Tree_isFullFor_4 : decode b_Tree_isFullFor 4 = .ok (.bipush 40, 2) := by decide +kernel
theorem d_Tree_isFullFor_6 : decode b_Tree_isFullFor 6 = .ok (.if_icmp .lt 5, 3) := by decide +kernel
theorem d_Tree_isFullFor_9 : decode b_Tree_isFullFor 9 = .ok (.iconst 1, 1) := by decide +kernel
theorem d_Tree_isFullFor_10 : decode b_Tree_isFullFor 10 = .ok (.ireturn, 1) := by decide +kernel
theorem d_Tree_isFullFor_11 : decode b_Tree_isFullFor 11 = .ok (.aload_n 1, 1) := by decide +kernel
theorem d_Tree_isFullFor_12 : decode b_Tree_isFullFor 12 = .ok (.getfield 31, 3) := by decide +kernel
theorem d_Tree_isFullFor_15 : decode b_Tree_isFullFor 15 = .ok (.ifCond .ne 25, 3) := by decide +kernel
theorem d_Tree_isFullFor_18 : decode b_Tree_isFullFor 18 = .ok (.aload_n 0, 1) := by decide +kernel
theorem d_Tree_isFullFor_19 : decode b_Tree_isFullFor 19 = .ok (.getfield 24, 3) := by decide +kernel
theorem d_Tree_isFullFor_22 : decode b_Tree_isFullFor 22 = .ok (.bipush 12, 2) := by decide +kernel
theorem d_Tree_isFullFor_24 : decode b_Tree_isFullFor 24 = .ok (.if_icmp .ge 12, 3) := by decide +kernel
theorem d_Tree_isFullFor_27 : decode b_Tree_isFullFor 27 = .ok (.aload_n 1, 1) := by decide +kernel
theorem d_Tree_isFullFor_28 : decode b_Tree_isFullFor 28 = .ok (.getfield 37, 3) := by decide +kernel
theorem d_Tree_isFullFor_31 : decode b_Tree_isFullFor 31 = .ok (.bipush 7, 2) := by decide +kernel
theorem d_Tree_isFullFor_33 : decode b_Tree_isFullFor 33 = .ok (.if_icmp .le 7, 3) := by decide +kernel
theorem d_Tree_isFullFor_36 : decode b_Tree_isFullFor 36 = .ok (.iconst 1, 1) := by decide +kernel
theorem d_Tree_isFullFor_37 : decode b_Tree_isFullFor 37 = .ok (.goto 4, 3) := by decide +kernel
theorem d_Tree_isFullFor_40 : decode b_Tree_isFullFor 40 = .ok (.iconst 0, 1) := by decide +kernel
theorem d_Tree_isFullFor_41 : decode b_Tree_isFullFor 41 = .ok (.ireturn, 1) := by decide +kernel
set_option maxHeartbeats 4000000 in
set_option maxRecDepth 100000 in
theorem c3_isFullFor (l : Launch) (D : va_G) (cB cI cJ cZ cN cF : ClassId) (sz : Nat) (tr : Nat) (ta : Nat) (cn : Int32) (dr : Int32) (h0 : Nat) (kna : Nat) (kke : Nat) (kta : Nat) (so : Int32) (nu : Int32) (pa : Int32) (ab : Int32) (mo : Int32) (ow : Int32) (gr : Int32) (si : Int32) (sd : Int32) : Met l y_Tree_isFullFor w_Tree_isFullFor ({ frames := 0, cells := 0, slots := 0, locals := 0 }) (va_Pc [.ref tr, .ref h0] (fun U => U.heap.size = sz ∧ va_P D CL [] U.heap ∧ va_K D CL (TY cB cI cJ cZ cN cF) U ∧ NN U ∧ va_D (fun _ => True) [] ∧ RO D [(tr, .inr (10, [.ref ta, .int cn, .int dr])), (h0, .inr (5, [.int so, .ref kna, .ref kke, .ref kta, .int nu, .int pa, .int ab, .int mo, .int ow, .int gr, .int si, .int sd]))] (va_A [] sz) U U.heap)) (va_Qi (fun (r : Int32) (u : Unit) => (0 ≤ r.toInt ∧ r.toInt ≤ 1) ∧ (r.toInt = 0 → cn.toInt < 40) ∧ (BoolIs r (40 ≤ cn.toInt ∨ (so.toInt = 0 ∧ (12 ≤ dr.toInt ∨ 7 < ab.toInt))))) (fun (u : Unit) (t : State) => match u with | () => va_P D CL [] t.heap ∧ va_D (va_A [] sz) []) (va_A [] sz)) 0 0 (va_A [] sz) := by
  refine Met.ofW (cc := b_Tree_isFullFor) (maxL := 2) (ret := some .boolean) (by decide +kernel) rfl ?_
  intro p e s m args below meth c s₁ B hml hv
  obtain ⟨rfl, hsz, hP, hK, hN, hD0, hZr⟩ := hv
  have hx := B.exec
  have hb := B.bytes
  have hr := B.returns
  have hts := atoms_spec (ws := w_Tree_isFullFor) B.pre
  have ht9 := fun (w : Cond) (h : w ∈ lw_g) => hts w (List.mem_cons_of_mem _ h)
  have hown : s.vm.findClass "DiscMaker$Tree" = some m.cls := findClass_of_methodNamed B.named
  have hlocks := B.notSynchronized
  subst hsz
  have hD := hD0.self (sz := s.heap.size)
  generalize hAe : va_A [] s.heap.size = A at hD hZr ⊢
  have hA : ∀ q : Nat, s.heap.size ≤ q → A q := fun q h => by rw [← hAe]; exact Or.inr h
  have hS : va_S A s.heap s.heap [] := va_S.rf
  have hP : va_P D CL [] s.heap := hP
  have hl := lv_entry [.ref tr, .ref h0] (n := 2) (Nat.le_of_ble_eq_true rfl)
  rw [lg_entry_eq]
  generalize (lg_sl [.ref tr, .ref h0] ++ List.replicate (2 - (lg_sl [.ref tr, .ref h0]).length) Slot.unset).toArray = ls at hl ⊢
  have hl : lv_has ls 2 [(0, .ref tr), (1, .ref h0)] := hl
  have L_m1 : ((-1) : Int32).toInt = (-1) := by decide
  have L_0 : (0 : Int32).toInt = 0 := by decide
  have L_1 : (1 : Int32).toInt = 1 := by decide
  have L_7 : (7 : Int32).toInt = 7 := by decide
  have L_12 : (12 : Int32).toInt = 12 := by decide
  have L_40 : (40 : Int32).toInt = 40 := by decide
  refine lv_aload_n hx hb d_Tree_isFullFor_0 rfl (lv_at hl 0 rfl) ?_
  have hPR := RO_at hZr hS
  refine va_get (D := D) (ci := 10) (v := .int cn) (C := "DiscMaker$Tree") (T := F_Tree) (N := 3) hx hb ht9 in_Tree hown hK hPR 0 rfl rfl 1 (by decide) (ht9 _ k239) (fun _ h9 => h9) rfl d_Tree_isFullFor_1 ?_
  refine lv_bipush (v := 40) hx hb d_Tree_isFullFor_4 (by decide) ?_
  refine lv_icmp_lt (tgt := 11) hx hb d_Tree_isFullFor_6 (by decide) (fun h_9 => ?_) (fun h_9 => ?_)
  · skip
    have g6_4 : cn.toInt < 40 := (i_lt rfl (by decide)).mp h_9
    refine lv_aload_n hx hb d_Tree_isFullFor_11 rfl (lv_at hl 1 rfl) ?_
    have hPR := RO_at hZr hS
    refine va_getN (D := D) (ci := 5) (v := .int so) (C := "DiscMaker$Node") (T := F_Node) (N := 12) hx hb ht9 in_Node hown hK hPR 1 rfl rfl 0 (by decide) (va_Nw.use rfl (hN _ k180)) (fun _ h9 => h9) rfl d_Tree_isFullFor_12 ?_
    refine lv_if_ne (tgt := 40) hx hb d_Tree_isFullFor_15 (by decide) (fun h_9 => ?_) (fun h_9 => ?_)
    · skip
      have g15_7 : ¬ so.toInt = 0 := fun h8 => h_9 ((i_eq rfl (by decide)).mpr h8)
      refine lv_iconst (v := 0) hx hb d_Tree_isFullFor_40 (by decide) ?_
      have hP9 := hP.sub (ws' := []) [] rfl
      have hD9 := hD.sub (ws' := []) [] (by decide +kernel) rfl
      exact W.zret (v := 0) hx hb hr (by first | rfl | decide | exact i_narZ (by omega)) (fun t ht hW => ⟨⟨0, (), rfl, ⟨(by (try dsimp only); first | assumption | omega | trivial), (by (try dsimp only); intro h7; first | (exfalso; omega) | omega), (by (try dsimp only); unfold BoolIs; omega)⟩, by rw [ht]; exact hP9, hD9⟩, hS.F ht⟩) hS.2.2 d_Tree_isFullFor_41
    · skip
      have g15_7 : so.toInt = 0 := (i_eq rfl (by decide)).mp h_9
      refine lv_aload_n hx hb d_Tree_isFullFor_18 rfl (lv_at hl 0 rfl) ?_
      have hPR := RO_at hZr hS
      refine va_get (D := D) (ci := 10) (v := .int dr) (C := "DiscMaker$Tree") (T := F_Tree) (N := 3) hx hb ht9 in_Tree hown hK hPR 0 rfl rfl 2 (by decide) (ht9 _ k242) (fun _ h9 => h9) rfl d_Tree_isFullFor_19 ?_
      refine lv_bipush (v := 12) hx hb d_Tree_isFullFor_22 (by decide) ?_
      refine lv_icmp_ge (tgt := 36) hx hb d_Tree_isFullFor_24 (by decide) (fun h_9 => ?_) (fun h_9 => ?_)
      · skip
        have g24_13 : 12 ≤ dr.toInt := (i_le (by decide) rfl).mp h_9
        refine lv_iconst (v := 1) hx hb d_Tree_isFullFor_36 (by decide) ?_
        refine lv_goto (tgt := 41) hx hb d_Tree_isFullFor_37 (by decide) ?_
        have hP9 := hP.sub (ws' := []) [] rfl
        have hD9 := hD.sub (ws' := []) [] (by decide +kernel) rfl
        exact W.zret (v := 1) hx hb hr (by first | rfl | decide | exact i_narZ (by omega)) (fun t ht hW => ⟨⟨1, (), rfl, ⟨(by (try dsimp only); first | assumption | omega | trivial), (by (try dsimp only); intro h7; first | (exfalso; omega) | omega), (by (try dsimp only); unfold BoolIs; omega)⟩, by rw [ht]; exact hP9, hD9⟩, hS.F ht⟩) hS.2.2 d_Tree_isFullFor_41
      · skip
        have g24_13 : ¬ 12 ≤ dr.toInt := fun h8 => h_9 ((i_le (by decide) rfl).mpr h8)
        refine lv_aload_n hx hb d_Tree_isFullFor_27 rfl (lv_at hl 1 rfl) ?_
        have hPR := RO_at hZr hS
        refine va_getN (D := D) (ci := 5) (v := .int ab) (C := "DiscMaker$Node") (T := F_Node) (N := 12) hx hb ht9 in_Node hown hK hPR 1 rfl rfl 6 (by decide) (va_Nw.use rfl (hN _ k199)) (fun _ h9 => h9) rfl d_Tree_isFullFor_28 ?_
        refine lv_bipush (v := 7) hx hb d_Tree_isFullFor_31 (by decide) ?_
        refine lv_icmp_le (tgt := 40) hx hb d_Tree_isFullFor_33 (by decide) (fun h_9 => ?_) (fun h_9 => ?_)
        · skip
          have g33_20 : ab.toInt ≤ 7 := (i_le rfl (by decide)).mp h_9
          refine lv_iconst (v := 0) hx hb d_Tree_isFullFor_40 (by decide) ?_
          have hP9 := hP.sub (ws' := []) [] rfl
          have hD9 := hD.sub (ws' := []) [] (by decide +kernel) rfl
          exact W.zret (v := 0) hx hb hr (by first | rfl | decide | exact i_narZ (by omega)) (fun t ht hW => ⟨⟨0, (), rfl, ⟨(by (try dsimp only); first | assumption | omega | trivial), (by (try dsimp only); intro h7; first | (exfalso; omega) | omega), (by (try dsimp only); unfold BoolIs; omega)⟩, by rw [ht]; exact hP9, hD9⟩, hS.F ht⟩) hS.2.2 d_Tree_isFullFor_41
        · skip
          have g33_20 : ¬ ab.toInt ≤ 7 := fun h8 => h_9 ((i_le rfl (by decide)).mpr h8)
          refine lv_iconst (v := 1) hx hb d_Tree_isFullFor_36 (by decide) ?_
          refine lv_goto (tgt := 41) hx hb d_Tree_isFullFor_37 (by decide) ?_
          have hP9 := hP.sub (ws' := []) [] rfl
          have hD9 := hD.sub (ws' := []) [] (by decide +kernel) rfl
          exact W.zret (v := 1) hx hb hr (by first | rfl | decide | exact i_narZ (by omega)) (fun t ht hW => ⟨⟨1, (), rfl, ⟨(by (try dsimp only); first | assumption | omega | trivial), (by (try dsimp only); intro h7; first | (exfalso; omega) | omega), (by (try dsimp only); unfold BoolIs; omega)⟩, by rw [ht]; exact hP9, hD9⟩, hS.F ht⟩) hS.2.2 d_Tree_isFullFor_41
  · skip
    have g6_4 : ¬ cn.toInt < 40 := fun h8 => h_9 ((i_lt rfl (by decide)).mpr h8)
    refine lv_iconst (v := 1) hx hb d_Tree_isFullFor_9 (by decide) ?_
    have hP9 := hP.sub (ws' := []) [] rfl
    have hD9 := hD.sub (ws' := []) [] (by decide +kernel) rfl
    exact W.zret (v := 1) hx hb hr (by first | rfl | decide | exact i_narZ (by omega)) (fun t ht hW => ⟨⟨1, (), rfl, ⟨(by (try dsimp only); first | assumption | omega | trivial), (by (try dsimp only); intro h7; first | (exfalso; omega) | omega), (by (try dsimp only); unfold BoolIs; omega)⟩, by rw [ht]; exact hP9, hD9⟩, hS.F ht⟩) hS.2.2 d_Tree_isFullFor_10

theorem d_Tree_isTaken_0 : decode b_Tree_isTaken 0 = .ok (.iconst 1, 1) := by decide +kernel
theorem d_Tree_isTaken_1 : decode b_Tree_isTaken 1 = .ok (.istore_n 2, 1) := by decide +kernel
theorem d_Tree_isTaken_2 : decode b_Tree_isTaken 2 = .ok (.iload_n 2, 1) := by decide +kernel
theorem d_Tree_isTaken_3 : decode b_Tree_isTaken 3 = .ok (.aload_n 0, 1) := by decide +kernel
theorem d_Tree_isTaken_4 : decode b_Tree_isTaken 4 = .ok (.getfield 20, 3) := by decide +kernel
theorem d_Tree_isTaken_7 : decode b_Tree_isTaken 7 = .ok (.if_icmp .ge 40, 3) := by decide +kernel
theorem d_Tree_isTaken_10 : decode b_Tree_isTaken 10 = .ok (.aload_n 0, 1) := by decide +kernel
theorem d_Tree_isTaken_11 : decode b_Tree_isTaken 11 = .ok (.getfield 11, 3) := by decide +kernel
theorem d_Tree_isTaken_14 : decode b_Tree_isTaken 14 = .ok (.iload_n 2, 1) := by decide +kernel
theorem d_Tree_isTaken_15 : decode b_Tree_isTaken 15 = .ok (.aaload, 1) := by decide +kernel
theorem d_Tree_isTaken_16 : decode b_Tree_isTaken 16 = .ok (.getfield 34, 3) := by decide +kernel
theorem d_Tree_isTaken_19 : decode b_Tree_isTaken 19 = .ok (.aload_n 1, 1) := by decide +kernel
theorem d_Tree_isTaken_20 : decode b_Tree_isTaken 20 = .ok (.getfield 34, 3) := by decide +kernel
theorem d_Tree_isTaken_23 : decode b_Tree_isTaken 23 = .ok (.if_icmp .ne 18, 3) := by decide +kernel
theorem d_Tree_isTaken_26 : decode b_Tree_isTaken 26 = .ok (.aload_n 0, 1) := by decide +kernel
theorem d_Tree_isTaken_27 : decode b_Tree_isTaken 27 = .ok (.getfield 11, 3) := by decide +kernel
theorem d_Tree_isTaken_30 : decode b_Tree_isTaken 30 = .ok (.iload_n 2, 1) := by decide +kernel
theorem d_Tree_isTaken_31 : decode b_Tree_isTaken 31 = .ok (.aaload, 1) := by decide +kernel
theorem d_Tree_isTaken_32 : decode b_Tree_isTaken 32 = .ok (.aload_n 1, 1) := by decide +kernel
theorem d_Tree_isTaken_33 : decode b_Tree_isTaken 33 = .ok (.invokevirtual 76, 3) := by decide +kernel
theorem d_Tree_isTaken_36 : decode b_Tree_isTaken 36 = .ok (.ifCond .eq 5, 3) := by decide +kernel
theorem d_Tree_isTaken_39 : decode b_Tree_isTaken 39 = .ok (.iconst 1, 1) := by decide +kernel
theorem d_Tree_isTaken_40 : decode b_Tree_isTaken 40 = .ok (.ireturn, 1) := by decide +kernel
theorem d_Tree_isTaken_41 : decode b_Tree_isTaken 41 = .ok (.iinc 2 1, 3) := by decide +kernel
theorem d_Tree_isTaken_44 : decode b_Tree_isTaken 44 = .ok (.goto (-42), 3) := by decide +kernel
theorem d_Tree_isTaken_47 : decode b_Tree_isTaken 47 = .ok (.iconst 0, 1) := by decide +kernel
theorem d_Tree_isTaken_48 : decode b_Tree_isTaken 48 = .ok (.ireturn, 1) := by decide +kernel
set_option maxHeartbeats 4000000 in
set_option maxRecDepth 100000 in
theorem c3_Tree_isTaken (l : Launch) (D : va_G) (cB cI cJ cZ cN cF : ClassId) (sz : Nat) (tr : Nat) (ta : Nat) (cn : Int32) (dr : Int32) (na : Nat → Nat → Nat) (ng : Nat → Nat → Int32) (nn : Nat → Nat → Nat) (nf : Nat → Nat → Nat → Int32) (cm : Nat) (h0 : Nat) (kna : Nat) (kke : Nat) (kta : Nat) (so : Int32) (nu : Int32) (pa : Int32) (ab : Int32) (mo : Int32) (ow : Int32) (gr : Int32) (si : Int32) (sd : Int32) (c2 : Nat → Int32) (hcn : cn.toInt = cm) (hcm : cm ≤ 40) (htok : TOK cm ng nn) : Met l y_Tree_isTaken w_Tree_isTaken ({ frames := 3, cells := 0, slots := 0, locals := 86 }) (va_Pc [.ref tr, .ref h0] (fun U => U.heap.size = sz ∧ va_P D CL [] U.heap ∧ va_K D CL (TY cB cI cJ cZ cN cF) U ∧ NN U ∧ va_D (fun _ => True) [] ∧ RO D (([(tr, .inr (10, [.ref ta, .int cn, .int dr])), (ta, .inl (cN, 40, .inr (.inr (.inr (.inr (rowF na cm)))))), (h0, .inr (5, [.int so, .ref kna, .ref kke, .ref kta, .int nu, .int pa, .int ab, .int mo, .int ow, .int gr, .int si, .int sd])), (kke, .inl (cB, 11, .inl c2))] : va_W) ++ (PL (NC cB na ng nn nf) cm)) (va_A [] sz) U U.heap)) (va_Qi (fun (r : Int32) (u : Unit) => (0 ≤ r.toInt ∧ r.toInt ≤ 1)) (fun (u : Unit) (t : State) => match u with | () => va_P D CL [] t.heap ∧ va_D (va_A [] sz) []) (va_A [] sz)) 0 0 (va_A [] sz) := by
  refine Met.ofW (cc := b_Tree_isTaken) (maxL := 3) (ret := some .boolean) (by decide +kernel) rfl ?_
  intro p e s m args below meth c s₁ B hml hv
  obtain ⟨rfl, hsz, hP, hK, hN, hD0, hZr⟩ := hv
  have hx := B.exec
  have hb := B.bytes
  have hr := B.returns
  have hts := atoms_spec (ws := w_Tree_isTaken) B.pre
  have ht9 := fun (w : Cond) (h : w ∈ lw_g) => hts w (List.mem_cons_of_mem _ h)
  have hown : s.vm.findClass "DiscMaker$Tree" = some m.cls := findClass_of_methodNamed B.named
  have hlocks := B.notSynchronized
  subst hsz
  have hD := hD0.self (sz := s.heap.size)
  generalize hAe : va_A [] s.heap.size = A at hD hZr ⊢
  have hA : ∀ q : Nat, s.heap.size ≤ q → A q := fun q h => by rw [← hAe]; exact Or.inr h
  have hS : va_S A s.heap s.heap [] := va_S.rf
  have hP : va_P D CL [] s.heap := hP
  have hl := lv_entry [.ref tr, .ref h0] (n := 3) (Nat.le_of_ble_eq_true rfl)
  rw [lg_entry_eq]
  generalize (lg_sl [.ref tr, .ref h0] ++ List.replicate (3 - (lg_sl [.ref tr, .ref h0]).length) Slot.unset).toArray = ls at hl ⊢
  have hl : lv_has ls 3 [(0, .ref tr), (1, .ref h0)] := hl
  have L_m1 : ((-1) : Int32).toInt = (-1) := by decide
  have L_0 : (0 : Int32).toInt = 0 := by decide
  have L_1 : (1 : Int32).toInt = 1 := by decide
  refine lv_iconst (v := 1) hx hb d_Tree_isTaken_0 (by decide) ?_
  refine lv_istore_n hx hb d_Tree_isTaken_1 rfl hl (by decide) rfl (fun ls hl => ?_)
  have hl : lv_has ls 3 [(2, .int 1), (0, .ref tr), (1, .ref h0)] := hl
  refine zz_labM (B := fun (lk : Nat) (K : Heap → List Loc → Array Slot → List Value → Prop) => ∀ (kx : Int32) (H : Heap) (locs : List Loc) (ls : Array Slot), lk = (cn.toInt - kx.toInt).toNat → (1 ≤ kx.toInt ∧ (kx.toInt ≤ cn.toInt ∨ kx.toInt = 1)) → va_P D CL [] H → va_D A [] → va_S A s.heap H locs → lv_has ls 3 [(0, .ref tr), (1, .ref h0), (2, .int kx)] → K H locs ls []) 2 ?_ ?_
  · skip
    intro lk ih2 kx H locs ls hm2 e1 hP hD hS hl
    refine lv_iload_n hx hb d_Tree_isTaken_2 rfl (lv_at hl 2 rfl) ?_
    refine lv_aload_n hx hb d_Tree_isTaken_3 rfl (lv_at hl 0 rfl) ?_
    have hPR := RO_at hZr hS
    refine va_get (D := D) (ci := 10) (v := .int cn) (C := "DiscMaker$Tree") (T := F_Tree) (N := 3) hx hb ht9 in_Tree hown hK hPR 0 rfl rfl 1 (by decide) (ht9 _ k239) (fun _ h9 => h9) rfl d_Tree_isTaken_4 ?_
    refine lv_icmp_ge (tgt := 47) hx hb d_Tree_isTaken_7 (by decide) (fun h_9 => ?_) (fun h_9 => ?_)
    · skip
      have g7_6 : cn.toInt ≤ kx.toInt := (i_le rfl rfl).mp h_9
      refine lv_iconst (v := 0) hx hb d_Tree_isTaken_47 (by decide) ?_
      have hP9 := hP.sub (ws' := []) [] rfl
      have hD9 := hD.sub (ws' := []) [] (by decide +kernel) rfl
      exact W.zret (v := 0) hx hb hr (by first | rfl | decide | exact i_narZ (by omega)) (fun t ht hW => ⟨⟨0, (), rfl, (by (try dsimp only); first | assumption | omega | trivial), by rw [ht]; exact hP9, hD9⟩, hS.F ht⟩) hS.2.2 d_Tree_isTaken_48
    · skip
      have g7_6 : ¬ cn.toInt ≤ kx.toInt := fun h8 => h_9 ((i_le rfl rfl).mpr h8)
      refine lv_aload_n hx hb d_Tree_isTaken_10 rfl (lv_at hl 0 rfl) ?_
      have hPR := RO_at hZr hS
      refine va_get (D := D) (ci := 10) (v := .ref ta) (C := "DiscMaker$Tree") (T := F_Tree) (N := 3) hx hb ht9 in_Tree hown hK hPR 0 rfl rfl 0 (by decide) (ht9 _ k235) (fun _ h9 => h9) rfl d_Tree_isTaken_11 ?_
      refine lv_iload_n hx hb d_Tree_isTaken_14 rfl (lv_at hl 2 rfl) ?_
      have hPR := RO_at hZr hS
      refine va_aldq hx hb hK hPR 1 4 rfl rfl (vp_in_iff.mpr ⟨by omega, by omega⟩) d_Tree_isTaken_15 ?_
      have c_hk1 := i_cl (a := kx) (by omega)
      have hk1 : kx.toNatClampNeg < cm := by omega
      have o_hk1 := htok kx.toNatClampNeg hk1
      obtain ⟨i_hj2, hj2⟩ : ∃ j : Nat, (PL (NC cB na ng nn nf) cm)[j]? = some ((na kx.toNatClampNeg 0), .inr (5, [.int (ng kx.toNatClampNeg 0), .ref (na kx.toNatClampNeg 1), .ref (na kx.toNatClampNeg 2), .ref (na kx.toNatClampNeg 3), .int (ng kx.toNatClampNeg 1), .int (ng kx.toNatClampNeg 2), .int (ng kx.toNatClampNeg 3), .int (ng kx.toNatClampNeg 4), .int (ng kx.toNatClampNeg 5), .int (ng kx.toNatClampNeg 6), .int (ng kx.toNatClampNeg 7), .int (ng kx.toNatClampNeg 8)])) := PL_get (i := 0) hk1 rfl
      obtain ⟨i_hj3, hj3⟩ : ∃ j : Nat, (PL (NC cB na ng nn nf) cm)[j]? = some ((na kx.toNatClampNeg 1), .inl (cB, (nn kx.toNatClampNeg 1), .inl (nf kx.toNatClampNeg 1))) := PL_get (i := 1) hk1 rfl
      obtain ⟨i_hj4, hj4⟩ : ∃ j : Nat, (PL (NC cB na ng nn nf) cm)[j]? = some ((na kx.toNatClampNeg 2), .inl (cB, 11, .inl (nf kx.toNatClampNeg 2))) := PL_get (i := 2) hk1 rfl
      obtain ⟨i_hj5, hj5⟩ : ∃ j : Nat, (PL (NC cB na ng nn nf) cm)[j]? = some ((na kx.toNatClampNeg 3), .inl (cB, (nn kx.toNatClampNeg 3), .inl (nf kx.toNatClampNeg 3))) := PL_get (i := 3) hk1 rfl
      refine W.eq (g2 := F0 m 16 ls [.ref (na kx.toNatClampNeg 0)]) (by rw [show rowF na cm kx.toNatClampNeg = some (na kx.toNatClampNeg 0) from rowF_some hk1]; rfl) ?_
      have hPR := RO_at hZr hS
      refine va_getN (D := D) (ci := 5) (v := .int (ng kx.toNatClampNeg 2)) (C := "DiscMaker$Node") (T := F_Node) (N := 12) hx hb ht9 in_Node hown hK hPR _ (pix (X := [(tr, .inr (10, [.ref ta, .int cn, .int dr])), (ta, .inl (cN, 40, .inr (.inr (.inr (.inr (rowF na cm)))))), (h0, .inr (5, [.int so, .ref kna, .ref kke, .ref kta, .int nu, .int pa, .int ab, .int mo, .int ow, .int gr, .int si, .int sd])), (kke, .inl (cB, 11, .inl c2))]) hj2) rfl 5 (by decide) (va_Nw.use rfl (hN _ k196)) (fun _ h9 => h9) rfl d_Tree_isTaken_16 ?_
      refine lv_aload_n hx hb d_Tree_isTaken_19 rfl (lv_at hl 1 rfl) ?_
      have hPR := RO_at hZr hS
      refine va_getN (D := D) (ci := 5) (v := .int pa) (C := "DiscMaker$Node") (T := F_Node) (N := 12) hx hb ht9 in_Node hown hK hPR 2 rfl rfl 5 (by decide) (va_Nw.use rfl (hN _ k196)) (fun _ h9 => h9) rfl d_Tree_isTaken_20 ?_
      refine lv_icmp_ne (tgt := 41) hx hb d_Tree_isTaken_23 (by decide) (fun h_9 => ?_) (fun h_9 => ?_)
      · skip
        have g23_16 : ¬ (ng kx.toNatClampNeg 2).toInt = pa.toInt := fun h8 => h_9 ((i_eq rfl rfl).mpr h8)
        obtain ⟨v6, e_v6⟩ : ∃ z : Int32, z = kx + 1 := ⟨_, rfl⟩
        refine lv_iinc (v := v6) hx hb d_Tree_isTaken_41 hl (k := 2) rfl e_v6.symm (by decide +kernel) rfl (fun ls hl => ?_)
        have t_v6 : v6.toInt = kx.toInt + 1 := by rw [e_v6]; exact i_add rfl (by decide) (by omega) (by omega)
        have hl : lv_has ls 3 [(2, .int v6), (0, .ref tr), (1, .ref h0)] := hl
        refine lv_goto (tgt := 2) hx hb d_Tree_isTaken_44 (by decide) ?_
        have hP := hP.sub (ws' := []) [] rfl
        have hD := hD.sub (ws' := []) [] (by decide +kernel) rfl
        have hl := lv_sub hl [1, 2, 0] rfl
        exact ih2 _ (by first | omega | (dsimp only; omega)) v6 _ _ _ rfl ((by (try dsimp only); first | assumption | omega | trivial)) hP hD hS hl
      · skip
        have g23_16 : (ng kx.toNatClampNeg 2).toInt = pa.toInt := (i_eq rfl rfl).mp h_9
        refine lv_aload_n hx hb d_Tree_isTaken_26 rfl (lv_at hl 0 rfl) ?_
        have hPR := RO_at hZr hS
        refine va_get (D := D) (ci := 10) (v := .ref ta) (C := "DiscMaker$Tree") (T := F_Tree) (N := 3) hx hb ht9 in_Tree hown hK hPR 0 rfl rfl 0 (by decide) (ht9 _ k235) (fun _ h9 => h9) rfl d_Tree_isTaken_27 ?_
        refine lv_iload_n hx hb d_Tree_isTaken_30 rfl (lv_at hl 2 rfl) ?_
        have hPR := RO_at hZr hS
        refine va_aldq hx hb hK hPR 1 4 rfl rfl (vp_in_iff.mpr ⟨by omega, by omega⟩) d_Tree_isTaken_31 ?_
        have c_hk7 := i_cl (a := kx) (by omega)
        have hk7 : kx.toNatClampNeg < cm := by omega
        have o_hk7 := htok kx.toNatClampNeg hk7
        obtain ⟨i_hj8, hj8⟩ : ∃ j : Nat, (PL (NC cB na ng nn nf) cm)[j]? = some ((na kx.toNatClampNeg 0), .inr (5, [.int (ng kx.toNatClampNeg 0), .ref (na kx.toNatClampNeg 1), .ref (na kx.toNatClampNeg 2), .ref (na kx.toNatClampNeg 3), .int (ng kx.toNatClampNeg 1), .int (ng kx.toNatClampNeg 2), .int (ng kx.toNatClampNeg 3), .int (ng kx.toNatClampNeg 4), .int (ng kx.toNatClampNeg 5), .int (ng kx.toNatClampNeg 6), .int (ng kx.toNatClampNeg 7), .int (ng kx.toNatClampNeg 8)])) := PL_get (i := 0) hk7 rfl
        obtain ⟨i_hj9, hj9⟩ : ∃ j : Nat, (PL (NC cB na ng nn nf) cm)[j]? = some ((na kx.toNatClampNeg 1), .inl (cB, (nn kx.toNatClampNeg 1), .inl (nf kx.toNatClampNeg 1))) := PL_get (i := 1) hk7 rfl
        obtain ⟨i_hj10, hj10⟩ : ∃ j : Nat, (PL (NC cB na ng nn nf) cm)[j]? = some ((na kx.toNatClampNeg 2), .inl (cB, 11, .inl (nf kx.toNatClampNeg 2))) := PL_get (i := 2) hk7 rfl
        obtain ⟨i_hj11, hj11⟩ : ∃ j : Nat, (PL (NC cB na ng nn nf) cm)[j]? = some ((na kx.toNatClampNeg 3), .inl (cB, (nn kx.toNatClampNeg 3), .inl (nf kx.toNatClampNeg 3))) := PL_get (i := 3) hk7 rfl
        refine W.eq (g2 := F0 m 32 ls [.ref (na kx.toNatClampNeg 0)]) (by rw [show rowF na cm kx.toNatClampNeg = some (na kx.toNatClampNeg 0) from rowF_some hk7]; rfl) ?_
        refine lv_aload_n hx hb d_Tree_isTaken_32 rfl (lv_at hl 1 rfl) ?_
        have hPc := hP.sub (ws' := []) [] rfl
        have hDc := hD.sub (ws' := []) [] (by decide +kernel) rfl
        have hFc := va_free (wc := []) hD hS hA [] rfl
        have hPR := RO_at hZr hS
        have hkc : 0 ≤ 0 := by decide
        have hks : 0 ≤ 0 := by decide
        refine va_calli (va_runV (C := "DiscMaker$Node") (As := [.ref h0]) (rest := []) ⟨hx, hb, hml, hown, hts⟩ (c3_isAlike l D cB cI cJ cZ cN cF H.size (na kx.toNatClampNeg 0) (na kx.toNatClampNeg 1) (na kx.toNatClampNeg 2) (na kx.toNatClampNeg 3) (ng kx.toNatClampNeg 0) (ng kx.toNatClampNeg 1) (ng kx.toNatClampNeg 2) (ng kx.toNatClampNeg 3) (ng kx.toNatClampNeg 4) (ng kx.toNatClampNeg 5) (ng kx.toNatClampNeg 6) (ng kx.toNatClampNeg 7) (ng kx.toNatClampNeg 8) (nf kx.toNatClampNeg 2) h0 kna kke kta so nu pa ab mo ow gr si sd c2) (cwV 1 hts (lg_goodV k863 k864 k865 k118 kc_Node_isAlike) rfl rfl rfl (by decide +kernel) ⟨Nat.le_of_ble_eq_true rfl, Nat.le_of_ble_eq_true rfl⟩) ⟨fun a U g mk q => by obtain ⟨q0, q1, qP, qK, qN, qD, qZ0⟩ := q; exact ⟨q0, q1, qP, va_K.moved (u := U) (U := U.calling g mk a) (Vm.Alike.refl U.vm) qK, qN.calling, qD, RO_blind qZ0⟩, va_recv hK hPR (ci := 5) (q0 := _) rfl (pix (X := [(tr, .inr (10, [.ref ta, .int cn, .int dr])), (ta, .inl (cN, 40, .inr (.inr (.inr (.inr (rowF na cm)))))), (h0, .inr (5, [.int so, .ref kna, .ref kke, .ref kta, .int nu, .int pa, .int ab, .int mo, .int ow, .int gr, .int si, .int sd])), (kke, .inl (cB, 11, .inl c2))]) hj8), fun U hU hW => ⟨rfl, by rw [hU], by rw [hU]; exact hPc, va_K.moved hW.alike hK, NN.warm hW hN, hDc.weaken (fun _ _ _ _ => trivial), (RO_app (w1 := [((na kx.toNatClampNeg 0), .inr (5, [.int (ng kx.toNatClampNeg 0), .ref (na kx.toNatClampNeg 1), .ref (na kx.toNatClampNeg 2), .ref (na kx.toNatClampNeg 3), .int (ng kx.toNatClampNeg 1), .int (ng kx.toNatClampNeg 2), .int (ng kx.toNatClampNeg 3), .int (ng kx.toNatClampNeg 4), .int (ng kx.toNatClampNeg 5), .int (ng kx.toNatClampNeg 6), .int (ng kx.toNatClampNeg 7), .int (ng kx.toNatClampNeg 8)]))]) (w2 := [((na kx.toNatClampNeg 2), .inl (cB, 11, .inl (nf kx.toNatClampNeg 2))), (h0, .inr (5, [.int so, .ref kna, .ref kke, .ref kta, .int nu, .int pa, .int ab, .int mo, .int ow, .int gr, .int si, .int sd])), (kke, .inl (cB, 11, .inl c2))]) (RO_pass (RO_one hZr _ (pix (X := [(tr, .inr (10, [.ref ta, .int cn, .int dr])), (ta, .inl (cN, 40, .inr (.inr (.inr (.inr (rowF na cm)))))), (h0, .inr (5, [.int so, .ref kna, .ref kke, .ref kta, .int nu, .int pa, .int ab, .int mo, .int ow, .int gr, .int si, .int sd])), (kke, .inl (cB, 11, .inl c2))]) hj8)) hS hFc hU) (RO_app (w1 := [((na kx.toNatClampNeg 2), .inl (cB, 11, .inl (nf kx.toNatClampNeg 2)))]) (w2 := [(h0, .inr (5, [.int so, .ref kna, .ref kke, .ref kta, .int nu, .int pa, .int ab, .int mo, .int ow, .int gr, .int si, .int sd])), (kke, .inl (cB, 11, .inl c2))]) (RO_pass (RO_one hZr _ (pix (X := [(tr, .inr (10, [.ref ta, .int cn, .int dr])), (ta, .inl (cN, 40, .inr (.inr (.inr (.inr (rowF na cm)))))), (h0, .inr (5, [.int so, .ref kna, .ref kke, .ref kta, .int nu, .int pa, .int ab, .int mo, .int ow, .int gr, .int si, .int sd])), (kke, .inl (cB, 11, .inl c2))]) hj10)) hS hFc hU) (RO_app (w1 := [(h0, .inr (5, [.int so, .ref kna, .ref kke, .ref kta, .int nu, .int pa, .int ab, .int mo, .int ow, .int gr, .int si, .int sd]))]) (w2 := [(kke, .inl (cB, 11, .inl c2))]) (RO_pass (RO_one hZr 2 rfl) hS hFc hU) (RO_pass (RO_one hZr 3 rfl) hS hFc hU))))⟩⟩ rfl rfl hl.1 rfl (lv_room (Nat.le_of_ble_eq_true rfl)) d_Tree_isTaken_33 ⟨hkc, hks⟩) hS (fun q _ h => hFc q h) hFc (fun r12 u t H1 locs ht hvm hp_r12 hB hz1 hk1 hS => ?_)
        obtain ⟨hP1, hD1⟩ := hB
        rw [ht] at hP1
        obtain ⟨hP, hD⟩ := va_join (wr := []) (w1 := []) hP hD [] [] rfl rfl (by decide +kernel) (by decide +kernel) hk1 hFc hP1 hD1
        clear hPc hDc hFc hP1 hD1 hk1 hz1 hkc hks
        generalize H1 = H at hP hS ⊢
        have hP : va_P D CL [] H := hP
        have hD : va_D A [] := hD
        try dsimp only at hp_r12
        have hr_13 := hp_r12
        refine lv_if_eq (tgt := 41) hx hb d_Tree_isTaken_36 (by decide) (fun h_9 => ?_) (fun h_9 => ?_)
        · skip
          have g36_26 : r12.toInt = 0 := (i_eq rfl (by decide)).mp h_9
          obtain ⟨v14, e_v14⟩ : ∃ z : Int32, z = kx + 1 := ⟨_, rfl⟩
          refine lv_iinc (v := v14) hx hb d_Tree_isTaken_41 hl (k := 2) rfl e_v14.symm (by decide +kernel) rfl (fun ls hl => ?_)
          have t_v14 : v14.toInt = kx.toInt + 1 := by rw [e_v14]; exact i_add rfl (by decide) (by omega) (by omega)
          have hl : lv_has ls 3 [(2, .int v14), (0, .ref tr), (1, .ref h0)] := hl
          refine lv_goto (tgt := 2) hx hb d_Tree_isTaken_44 (by decide) ?_
          have hP := hP.sub (ws' := []) [] rfl
          have hD := hD.sub (ws' := []) [] (by decide +kernel) rfl
          have hl := lv_sub hl [1, 2, 0] rfl
          exact ih2 _ (by first | omega | (dsimp only; omega)) v14 _ _ _ rfl ((by (try dsimp only); first | assumption | omega | trivial)) hP hD hS hl
        · skip
          have g36_26 : ¬ r12.toInt = 0 := fun h8 => h_9 ((i_eq rfl (by decide)).mpr h8)
          refine lv_iconst (v := 1) hx hb d_Tree_isTaken_39 (by decide) ?_
          have hP9 := hP.sub (ws' := []) [] rfl
          have hD9 := hD.sub (ws' := []) [] (by decide +kernel) rfl
          exact W.zret (v := 1) hx hb hr (by first | rfl | decide | exact i_narZ (by omega)) (fun t ht hW => ⟨⟨1, (), rfl, (by (try dsimp only); first | assumption | omega | trivial), by rw [ht]; exact hP9, hD9⟩, hS.F ht⟩) hS.2.2 d_Tree_isTaken_40
  · skip
    intro kk2
    have hP := hP.sub (ws' := []) [] rfl
    have hD := hD.sub (ws' := []) [] (by decide +kernel) rfl
    have hl := lv_sub hl [1, 2, 0] rfl
    exact kk2 _ 1 _ _ _ rfl ((by (try dsimp only); first | assumption | omega | trivial)) hP hD hS hl

theorem d_Tree_makeDifferent_0 : decode b_Tree_makeDifferent 0 = .ok (.aload_n 1, 1) := by decide +kernel
theorem d_Tree_makeDifferent_1 : decode b_Tree_makeDifferent 1 = .ok (.invokevirtual 62, 3) := by decide +kernel
theorem d_Tree_makeDifferent_4 : decode b_Tree_makeDifferent 4 = .ok (.aload_n 1, 1) := by decide +kernel
theorem d_Tree_makeDifferent_5 : decode b_Tree_makeDifferent 5 = .ok (.invokevirtual 65, 3) := by decide +kernel
theorem d_Tree_makeDifferent_8 : decode b_Tree_makeDifferent 8 = .ok (.istore_n 2, 1) := by decide +kernel
theorem d_Tree_makeDifferent_9 : decode b_Tree_makeDifferent 9 = .ok (.iconst 0, 1) := by decide +kernel
theorem d_Tree_makeDifferent_10 : decode b_Tree_makeDifferent 10 = .ok (.istore_n 3, 1) := by decide +kernel
theorem d_Tree_makeDifferent_11 : decode b_Tree_makeDifferent 11 = .ok (.iload_n 3, 1) := by decide +kernel
theorem d_Tree_makeDifferent_12 : decode b_Tree_makeDifferent 12 = .ok (.sipush 1000, 3) := by decide +kernel
theorem d_Tree_makeDifferent_15 : decode b_Tree_makeDifferent 15 = .ok (.if_icmp .ge 23, 3) := by decide +kernel
theorem d_Tree_makeDifferent_18 : decode b_Tree_makeDifferent 18 = .ok (.aload_n 0, 1) := by decide +kernel
theorem d_Tree_makeDifferent_19 : decode b_Tree_makeDifferent 19 = .ok (.aload_n 1, 1) := by decide +kernel
theorem d_Tree_makeDifferent_20 : decode b_Tree_makeDifferent 20 = .ok (.invokevirtual 69, 3) := by decide +kernel
theorem d_Tree_makeDifferent_23 : decode b_Tree_makeDifferent 23 = .ok (.ifCond .eq 15, 3) := by decide +kernel
theorem d_Tree_makeDifferent_26 : decode b_Tree_makeDifferent 26 = .ok (.aload_n 1, 1) := by decide +kernel
theorem d_Tree_makeDifferent_27 : decode b_Tree_makeDifferent 27 = .ok (.iload_n 2, 1) := by decide +kernel
theorem d_Tree_makeDifferent_28 : decode b_Tree_makeDifferent 28 = .ok (.iload_n 3, 1) := by decide +kernel
theorem d_Tree_makeDifferent_29 : decode b_Tree_makeDifferent 29 = .ok (.invokevirtual 72, 3) := by decide +kernel
theorem d_Tree_makeDifferent_32 : decode b_Tree_makeDifferent 32 = .ok (.iinc 3 1, 3) := by decide +kernel
theorem d_Tree_makeDifferent_35 : decode b_Tree_makeDifferent 35 = .ok (.goto (-24), 3) := by decide +kernel
theorem d_Tree_makeDifferent_38 : decode b_Tree_makeDifferent 38 = .ok (.return_, 1) := by decide +kernel
set_option maxHeartbeats 4000000 in
set_option maxRecDepth 100000 in
theorem c3_makeDifferent (l : Launch) (D : va_G) (cB cI cJ cZ cN cF : ClassId) (sz : Nat) (tr : Nat) (ta : Nat) (cn : Int32) (dr : Int32) (na : Nat → Nat → Nat) (ng : Nat → Nat → Int32) (nn : Nat → Nat → Nat) (nf : Nat → Nat → Nat → Int32) (cm : Nat) (h0 : Nat) (kna : Nat) (kke : Nat) (kta : Nat) (so : Int32) (nu : Int32) (pa : Int32) (ab : Int32) (mo : Int32) (ow : Int32) (gr : Int32) (si : Int32) (sd : Int32) (l1 : Nat) (c1 : Nat → Int32) (c2 : Nat → Int32) (hcn : cn.toInt = cm) (hcm : cm ≤ 40) (htok : TOK cm ng nn) (hl1 : l1 ≤ 400) (hB : Rg (-128) 127 l1 c1) : Met l y_Tree_makeDifferent w_Tree_makeDifferent ({ frames := 4, cells := 0, slots := 0, locals := 114 }) (va_Pc [.ref tr, .ref h0] (fun U => U.heap.size = sz ∧ va_P D CL [(h0, .inr (5, [.int so, .ref kna, .ref kke, .ref kta, .int nu, .int pa, .int ab, .int mo, .int ow, .int gr, .int si, .int sd])), (kna, .inl (cB, l1, .inl c1)), (kke, .inl (cB, 11, .inl c2))] U.heap ∧ va_K D CL (TY cB cI cJ cZ cN cF) U ∧ NN U ∧ va_D (fun _ => True) [(h0, .inr (5, [.int so, .ref kna, .ref kke, .ref kta, .int nu, .int pa, .int ab, .int mo, .int ow, .int gr, .int si, .int sd])), (kna, .inl (cB, l1, .inl c1)), (kke, .inl (cB, 11, .inl c2))] ∧ RO D (([(tr, .inr (10, [.ref ta, .int cn, .int dr])), (ta, .inl (cN, 40, .inr (.inr (.inr (.inr (rowF na cm))))))] : va_W) ++ (PL (NC cB na ng nn nf) cm)) (va_A [(h0, .inr (5, [.int so, .ref kna, .ref kke, .ref kta, .int nu, .int pa, .int ab, .int mo, .int ow, .int gr, .int si, .int sd])), (kna, .inl (cB, l1, .inl c1)), (kke, .inl (cB, 11, .inl c2))] sz) U U.heap)) (va_Qv (fun (u : (Nat → Int32)) => True) (fun (u : (Nat → Int32)) (t : State) => match u with | g => va_P D CL [(h0, .inr (5, [.int so, .ref kna, .ref kke, .ref kta, .int nu, .int pa, .int ab, .int mo, .int ow, .int gr, .int si, .int sd])), (kna, .inl (cB, l1, .inl c1)), (kke, .inl (cB, 11, .inl g))] t.heap ∧ va_D (va_A [(h0, .inr (5, [.int so, .ref kna, .ref kke, .ref kta, .int nu, .int pa, .int ab, .int mo, .int ow, .int gr, .int si, .int sd])), (kna, .inl (cB, l1, .inl c1)), (kke, .inl (cB, 11, .inl c2))] sz) [(h0, .inr (5, [.int so, .ref kna, .ref kke, .ref kta, .int nu, .int pa, .int ab, .int mo, .int ow, .int gr, .int si, .int sd])), (kna, .inl (cB, l1, .inl c1)), (kke, .inl (cB, 11, .inl g))]) (va_A [(h0, .inr (5, [.int so, .ref kna, .ref kke, .ref kta, .int nu, .int pa, .int ab, .int mo, .int ow, .int gr, .int si, .int sd])), (kna, .inl (cB, l1, .inl c1)), (kke, .inl (cB, 11, .inl c2))] sz)) 0 0 (va_A [(h0, .inr (5, [.int so, .ref kna, .ref kke, .ref kta, .int nu, .int pa, .int ab, .int mo, .int ow, .int gr, .int si, .int sd])), (kna, .inl (cB, l1, .inl c1)), (kke, .inl (cB, 11, .inl c2))] sz) := by
  refine Met.ofW (cc := b_Tree_makeDifferent) (maxL := 4) (ret := none) (by decide +kernel) rfl ?_
  intro p e s m args below meth c s₁ B hml hv
  obtain ⟨rfl, hsz, hP, hK, hN, hD0, hZr⟩ := hv
  have hx := B.exec
  have hb := B.bytes
  have hr := B.returns
  have hts := atoms_spec (ws := w_Tree_makeDifferent) B.pre
  have ht9 := fun (w : Cond) (h : w ∈ lw_g) => hts w (List.mem_cons_of_mem _ h)
  have hown : s.vm.findClass "DiscMaker$Tree" = some m.cls := findClass_of_methodNamed B.named
  have hlocks := B.notSynchronized
  subst hsz
  have hD := hD0.self (sz := s.heap.size)
  generalize hAe : va_A [(h0, .inr (5, [.int so, .ref kna, .ref kke, .ref kta, .int nu, .int pa, .int ab, .int mo, .int ow, .int gr, .int si, .int sd])), (kna, .inl (cB, l1, .inl c1)), (kke, .inl (cB, 11, .inl c2))] s.heap.size = A at hD hZr ⊢
  have hA : ∀ q : Nat, s.heap.size ≤ q → A q := fun q h => by rw [← hAe]; exact Or.inr h
  have hS : va_S A s.heap s.heap [] := va_S.rf
  have hP : va_P D CL [(h0, .inr (5, [.int so, .ref kna, .ref kke, .ref kta, .int nu, .int pa, .int ab, .int mo, .int ow, .int gr, .int si, .int sd])), (kna, .inl (cB, l1, .inl c1)), (kke, .inl (cB, 11, .inl c2))] s.heap := hP
  have hl := lv_entry [.ref tr, .ref h0] (n := 4) (Nat.le_of_ble_eq_true rfl)
  rw [lg_entry_eq]
  generalize (lg_sl [.ref tr, .ref h0] ++ List.replicate (4 - (lg_sl [.ref tr, .ref h0]).length) Slot.unset).toArray = ls at hl ⊢
  have hl : lv_has ls 4 [(0, .ref tr), (1, .ref h0)] := hl
  have L_m1 : ((-1) : Int32).toInt = (-1) := by decide
  have L_0 : (0 : Int32).toInt = 0 := by decide
  have L_1 : (1 : Int32).toInt = 1 := by decide
  have L_1000 : (1000 : Int32).toInt = 1000 := by decide
  refine lv_aload_n hx hb d_Tree_makeDifferent_0 rfl (lv_at hl 1 rfl) ?_
  have hPc := hP.sub (ws' := [(h0, .inr (5, [.int so, .ref kna, .ref kke, .ref kta, .int nu, .int pa, .int ab, .int mo, .int ow, .int gr, .int si, .int sd])), (kna, .inl (cB, l1, .inl c1)), (kke, .inl (cB, 11, .inl c2))]) [0, 1, 2] rfl
  have hDc := hD.sub (ws' := [(h0, .inr (5, [.int so, .ref kna, .ref kke, .ref kta, .int nu, .int pa, .int ab, .int mo, .int ow, .int gr, .int si, .int sd])), (kna, .inl (cB, l1, .inl c1)), (kke, .inl (cB, 11, .inl c2))]) [0, 1, 2] (by decide +kernel) rfl
  have hFc := va_free (wc := [(h0, .inr (5, [.int so, .ref kna, .ref kke, .ref kta, .int nu, .int pa, .int ab, .int mo, .int ow, .int gr, .int si, .int sd])), (kna, .inl (cB, l1, .inl c1)), (kke, .inl (cB, 11, .inl c2))]) hD hS hA [0, 1, 2] rfl
  have hkc : 0 ≤ 0 := by decide
  have hks : 0 ≤ 0 := by decide
  refine va_callv (va_runV (C := "DiscMaker$Node") (As := []) (rest := []) ⟨hx, hb, hml, hown, hts⟩ (c3_setPlainKey l D cB cI cJ cZ cN cF s.heap.size h0 kna kke kta so nu pa ab mo ow gr si sd l1 c1 c2 (by (try dsimp only); first | assumption | omega | trivial) (by (try dsimp only); first | assumption | omega | trivial)) (cwV 0 hts (lg_goodV k835 k836 k837 k118 kc_Node_setPlainKey) rfl rfl rfl (by decide +kernel) ⟨Nat.le_of_ble_eq_true rfl, Nat.le_of_ble_eq_true rfl⟩) ⟨fun a U g mk q => by obtain ⟨q0, q1, qP, qK, qN, qD⟩ := q; exact ⟨q0, q1, qP, va_K.moved (u := U) (U := U.calling g mk a) (Vm.Alike.refl U.vm) qK, qN.calling, qD⟩, va_recv hK hP (ci := 5) (q0 := 0) rfl rfl, fun U hU hW => ⟨rfl, by rw [hU], by rw [hU]; exact hPc, va_K.moved hW.alike hK, NN.warm hW hN, hDc.weaken (fun _ _ _ _ => trivial)⟩⟩ rfl rfl hl.1 rfl (lv_room (Nat.le_of_ble_eq_true rfl)) d_Tree_makeDifferent_1 ⟨hkc, hks⟩) hS (fun q _ h => hFc q h) hFc (fun u t H1 locs ht hvm hp_r1 hB hz1 hk1 hS => ?_)
  obtain ⟨g_2, rfl⟩ : ∃ z, z = u := ⟨_, rfl⟩
  obtain ⟨hP1, hD1⟩ := hB
  rw [ht] at hP1
  obtain ⟨hP, hD⟩ := va_join (wr := []) (w1 := [(h0, .inr (5, [.int so, .ref kna, .ref kke, .ref kta, .int nu, .int pa, .int ab, .int mo, .int ow, .int gr, .int si, .int sd])), (kna, .inl (cB, l1, .inl c1)), (kke, .inl (cB, 11, .inl g_2))]) hP hD [0, 1, 2] [] rfl rfl (by decide +kernel) (by decide +kernel) hk1 hFc hP1 hD1
  clear hPc hDc hFc hP1 hD1 hk1 hz1 hkc hks
  generalize H1 = H at hP hS ⊢
  have hP : va_P D CL [(h0, .inr (5, [.int so, .ref kna, .ref kke, .ref kta, .int nu, .int pa, .int ab, .int mo, .int ow, .int gr, .int si, .int sd])), (kna, .inl (cB, l1, .inl c1)), (kke, .inl (cB, 11, .inl g_2))] H := hP
  have hD : va_D A [(h0, .inr (5, [.int so, .ref kna, .ref kke, .ref kta, .int nu, .int pa, .int ab, .int mo, .int ow, .int gr, .int si, .int sd])), (kna, .inl (cB, l1, .inl c1)), (kke, .inl (cB, 11, .inl g_2))] := hD
  refine lv_aload_n hx hb d_Tree_makeDifferent_4 rfl (lv_at hl 1 rfl) ?_
  have hPc := hP.sub (ws' := []) [] rfl
  have hDc := hD.sub (ws' := []) [] (by decide +kernel) rfl
  have hFc := va_free (wc := []) hD hS hA [] rfl
  have hkc : 0 ≤ 0 := by decide
  have hks : 0 ≤ 0 := by decide
  refine va_calli (va_runV (C := "DiscMaker$Node") (As := []) (rest := []) ⟨hx, hb, hml, hown, hts⟩ (c3_keptOfBase l D cB cI cJ cZ cN cF H.size h0 kna kke kta so nu pa ab mo ow gr si sd g_2) (cwV 0 hts (lg_goodV k851 k852 k853 k118 kc_Node_keptOfBase) rfl rfl rfl (by decide +kernel) ⟨Nat.le_of_ble_eq_true rfl, Nat.le_of_ble_eq_true rfl⟩) ⟨fun a U g mk q => by obtain ⟨q0, q1, qP, qK, qN, qD, qZ0⟩ := q; exact ⟨q0, q1, qP, va_K.moved (u := U) (U := U.calling g mk a) (Vm.Alike.refl U.vm) qK, qN.calling, qD, RO_blind qZ0⟩, va_recv hK hP (ci := 5) (q0 := 0) rfl rfl, fun U hU hW => ⟨rfl, by rw [hU], by rw [hU]; exact hPc, va_K.moved hW.alike hK, NN.warm hW hN, hDc.weaken (fun _ _ _ _ => trivial), (RO_app (w1 := [(h0, .inr (5, [.int so, .ref kna, .ref kke, .ref kta, .int nu, .int pa, .int ab, .int mo, .int ow, .int gr, .int si, .int sd]))]) (w2 := [(kke, .inl (cB, 11, .inl g_2))]) (RO_mut hP hD [] rfl 0 rfl (by decide) hU) (RO_mut hP hD [] rfl 2 rfl (by decide) hU))⟩⟩ rfl rfl hl.1 rfl (lv_room (Nat.le_of_ble_eq_true rfl)) d_Tree_makeDifferent_5 ⟨hkc, hks⟩) hS (fun q _ h => hFc q h) hFc (fun r3 u t H1 locs ht hvm hp_r3 hB hz1 hk1 hS => ?_)
  obtain ⟨hP1, hD1⟩ := hB
  rw [ht] at hP1
  obtain ⟨hP, hD⟩ := va_join (wr := [(h0, .inr (5, [.int so, .ref kna, .ref kke, .ref kta, .int nu, .int pa, .int ab, .int mo, .int ow, .int gr, .int si, .int sd])), (kna, .inl (cB, l1, .inl c1)), (kke, .inl (cB, 11, .inl g_2))]) (w1 := []) hP hD [] [0, 1, 2] rfl rfl (by decide +kernel) (by decide +kernel) hk1 hFc hP1 hD1
  clear hPc hDc hFc hP1 hD1 hk1 hz1 hkc hks
  generalize H1 = H at hP hS ⊢
  have hP : va_P D CL [(h0, .inr (5, [.int so, .ref kna, .ref kke, .ref kta, .int nu, .int pa, .int ab, .int mo, .int ow, .int gr, .int si, .int sd])), (kna, .inl (cB, l1, .inl c1)), (kke, .inl (cB, 11, .inl g_2))] H := hP
  have hD : va_D A [(h0, .inr (5, [.int so, .ref kna, .ref kke, .ref kta, .int nu, .int pa, .int ab, .int mo, .int ow, .int gr, .int si, .int sd])), (kna, .inl (cB, l1, .inl c1)), (kke, .inl (cB, 11, .inl g_2))] := hD
  try dsimp only at hp_r3
  have hr_4 := hp_r3
  refine lv_istore_n hx hb d_Tree_makeDifferent_8 rfl hl (by decide) rfl (fun ls hl => ?_)
  have hl : lv_has ls 4 [(2, .int r3), (0, .ref tr), (1, .ref h0)] := hl
  refine lv_iconst (v := 0) hx hb d_Tree_makeDifferent_9 (by decide) ?_
  refine lv_istore_n hx hb d_Tree_makeDifferent_10 rfl hl (by decide) rfl (fun ls hl => ?_)
  have hl : lv_has ls 4 [(3, .int 0), (2, .int r3), (0, .ref tr), (1, .ref h0)] := hl
  refine zz_labM (B := fun (lk : Nat) (K : Heap → List Loc → Array Slot → List Value → Prop) => ∀ (kp : Int32) (kx : Int32) (lf : Nat → Int32) (H : Heap) (locs : List Loc) (ls : Array Slot), lk = (1000 - kx.toInt).toNat → (0 ≤ kp.toInt ∧ kp.toInt ≤ 5) → (0 ≤ kx.toInt ∧ kx.toInt ≤ 1000) → va_P D CL [(h0, .inr (5, [.int so, .ref kna, .ref kke, .ref kta, .int nu, .int pa, .int ab, .int mo, .int ow, .int gr, .int si, .int sd])), (kna, .inl (cB, l1, .inl c1)), (kke, .inl (cB, 11, .inl lf))] H → va_D A [(h0, .inr (5, [.int so, .ref kna, .ref kke, .ref kta, .int nu, .int pa, .int ab, .int mo, .int ow, .int gr, .int si, .int sd])), (kna, .inl (cB, l1, .inl c1)), (kke, .inl (cB, 11, .inl lf))] → va_S A s.heap H locs → lv_has ls 4 [(0, .ref tr), (1, .ref h0), (2, .int kp), (3, .int kx)] → K H locs ls []) 11 ?_ ?_
  · skip
    intro lk ih11 kp kx lf H locs ls hm11 e0 e1 hP hD hS hl
    refine lv_iload_n hx hb d_Tree_makeDifferent_11 rfl (lv_at hl 3 rfl) ?_
    refine lv_sipush (v := 1000) hx hb d_Tree_makeDifferent_12 (by decide) ?_
    refine lv_icmp_ge (tgt := 38) hx hb d_Tree_makeDifferent_15 (by decide) (fun h_9 => ?_) (fun h_9 => ?_)
    · skip
      have g15_10 : 1000 ≤ kx.toInt := (i_le (by decide) rfl).mp h_9
      have hP9 := hP.sub (ws' := [(h0, .inr (5, [.int so, .ref kna, .ref kke, .ref kta, .int nu, .int pa, .int ab, .int mo, .int ow, .int gr, .int si, .int sd])), (kna, .inl (cB, l1, .inl c1)), (kke, .inl (cB, 11, .inl lf))]) [0, 1, 2] rfl
      have hD9 := hD.sub (ws' := [(h0, .inr (5, [.int so, .ref kna, .ref kke, .ref kta, .int nu, .int pa, .int ab, .int mo, .int ow, .int gr, .int si, .int sd])), (kna, .inl (cB, l1, .inl c1)), (kke, .inl (cB, 11, .inl lf))]) [0, 1, 2] (by decide +kernel) rfl
      exact W.vret hx hb hr (fun t ht hW => ⟨⟨lf, rfl, trivial, by rw [ht]; exact hP9, hD9⟩, hS.F ht⟩) hS.2.2 d_Tree_makeDifferent_38
    · skip
      have g15_10 : ¬ 1000 ≤ kx.toInt := fun h8 => h_9 ((i_le (by decide) rfl).mpr h8)
      refine lv_aload_n hx hb d_Tree_makeDifferent_18 rfl (lv_at hl 0 rfl) ?_
      refine lv_aload_n hx hb d_Tree_makeDifferent_19 rfl (lv_at hl 1 rfl) ?_
      have hPc := hP.sub (ws' := []) [] rfl
      have hDc := hD.sub (ws' := []) [] (by decide +kernel) rfl
      have hFc := va_free (wc := []) hD hS hA [] rfl
      have hPR := RO_at hZr hS
      have hkc : 0 ≤ 0 := by decide
      have hks : 0 ≤ 0 := by decide
      refine va_calli (va_runV (C := "DiscMaker$Tree") (As := [.ref h0]) (rest := []) ⟨hx, hb, hml, hown, hts⟩ (c3_Tree_isTaken l D cB cI cJ cZ cN cF H.size tr ta cn dr na ng nn nf cm h0 kna kke kta so nu pa ab mo ow gr si sd lf (by (try dsimp only); first | assumption | omega | trivial) (by (try dsimp only); first | assumption | omega | trivial) (by (try dsimp only); first | assumption | omega | trivial)) (cwV 1 hts (lg_goodV k859 k861 k8 k117 kc_Tree_isTaken) rfl rfl rfl (by decide +kernel) ⟨Nat.le_of_ble_eq_true rfl, Nat.le_of_ble_eq_true rfl⟩) ⟨fun a U g mk q => by obtain ⟨q0, q1, qP, qK, qN, qD, qZ0⟩ := q; exact ⟨q0, q1, qP, va_K.moved (u := U) (U := U.calling g mk a) (Vm.Alike.refl U.vm) qK, qN.calling, qD, RO_blind qZ0⟩, va_recv hK hPR (ci := 10) (q0 := 0) rfl rfl, fun U hU hW => ⟨rfl, by rw [hU], by rw [hU]; exact hPc, va_K.moved hW.alike hK, NN.warm hW hN, hDc.weaken (fun _ _ _ _ => trivial), (RO_app (w1 := [(tr, .inr (10, [.ref ta, .int cn, .int dr]))]) (w2 := (([(ta, .inl (cN, 40, .inr (.inr (.inr (.inr (rowF na cm)))))), (h0, .inr (5, [.int so, .ref kna, .ref kke, .ref kta, .int nu, .int pa, .int ab, .int mo, .int ow, .int gr, .int si, .int sd])), (kke, .inl (cB, 11, .inl lf))] : va_W) ++ (PL (NC cB na ng nn nf) cm))) (RO_pass (RO_one hZr 0 rfl) hS hFc hU) (RO_app (w1 := [(ta, .inl (cN, 40, .inr (.inr (.inr (.inr (rowF na cm))))))]) (w2 := (([(h0, .inr (5, [.int so, .ref kna, .ref kke, .ref kta, .int nu, .int pa, .int ab, .int mo, .int ow, .int gr, .int si, .int sd])), (kke, .inl (cB, 11, .inl lf))] : va_W) ++ (PL (NC cB na ng nn nf) cm))) (RO_pass (RO_one hZr 1 rfl) hS hFc hU) (RO_app (w1 := [(h0, .inr (5, [.int so, .ref kna, .ref kke, .ref kta, .int nu, .int pa, .int ab, .int mo, .int ow, .int gr, .int si, .int sd]))]) (w2 := (([(kke, .inl (cB, 11, .inl lf))] : va_W) ++ (PL (NC cB na ng nn nf) cm))) (RO_mut hP hD [] rfl 0 rfl (by decide) hU) (RO_app (w1 := [(kke, .inl (cB, 11, .inl lf))]) (w2 := (PL (NC cB na ng nn nf) cm)) (RO_mut hP hD [] rfl 2 rfl (by decide) hU) (RO_pass (RO_tail (X := [(tr, .inr (10, [.ref ta, .int cn, .int dr])), (ta, .inl (cN, 40, .inr (.inr (.inr (.inr (rowF na cm))))))]) hZr) hS hFc hU)))))⟩⟩ rfl rfl hl.1 rfl (lv_room (Nat.le_of_ble_eq_true rfl)) d_Tree_makeDifferent_20 ⟨hkc, hks⟩) hS (fun q _ h => hFc q h) hFc (fun r5 u t H1 locs ht hvm hp_r5 hB hz1 hk1 hS => ?_)
      obtain ⟨hP1, hD1⟩ := hB
      rw [ht] at hP1
      obtain ⟨hP, hD⟩ := va_join (wr := [(h0, .inr (5, [.int so, .ref kna, .ref kke, .ref kta, .int nu, .int pa, .int ab, .int mo, .int ow, .int gr, .int si, .int sd])), (kna, .inl (cB, l1, .inl c1)), (kke, .inl (cB, 11, .inl lf))]) (w1 := []) hP hD [] [0, 1, 2] rfl rfl (by decide +kernel) (by decide +kernel) hk1 hFc hP1 hD1
      clear hPc hDc hFc hP1 hD1 hk1 hz1 hkc hks
      generalize H1 = H at hP hS ⊢
      have hP : va_P D CL [(h0, .inr (5, [.int so, .ref kna, .ref kke, .ref kta, .int nu, .int pa, .int ab, .int mo, .int ow, .int gr, .int si, .int sd])), (kna, .inl (cB, l1, .inl c1)), (kke, .inl (cB, 11, .inl lf))] H := hP
      have hD : va_D A [(h0, .inr (5, [.int so, .ref kna, .ref kke, .ref kta, .int nu, .int pa, .int ab, .int mo, .int ow, .int gr, .int si, .int sd])), (kna, .inl (cB, l1, .inl c1)), (kke, .inl (cB, 11, .inl lf))] := hD
      try dsimp only at hp_r5
      have hr_6 := hp_r5
      refine lv_if_eq (tgt := 38) hx hb d_Tree_makeDifferent_23 (by decide) (fun h_9 => ?_) (fun h_9 => ?_)
      · skip
        have g23_15 : r5.toInt = 0 := (i_eq rfl (by decide)).mp h_9
        have hP9 := hP.sub (ws' := [(h0, .inr (5, [.int so, .ref kna, .ref kke, .ref kta, .int nu, .int pa, .int ab, .int mo, .int ow, .int gr, .int si, .int sd])), (kna, .inl (cB, l1, .inl c1)), (kke, .inl (cB, 11, .inl lf))]) [0, 1, 2] rfl
        have hD9 := hD.sub (ws' := [(h0, .inr (5, [.int so, .ref kna, .ref kke, .ref kta, .int nu, .int pa, .int ab, .int mo, .int ow, .int gr, .int si, .int sd])), (kna, .inl (cB, l1, .inl c1)), (kke, .inl (cB, 11, .inl lf))]) [0, 1, 2] (by decide +kernel) rfl
        exact W.vret hx hb hr (fun t ht hW => ⟨⟨lf, rfl, trivial, by rw [ht]; exact hP9, hD9⟩, hS.F ht⟩) hS.2.2 d_Tree_makeDifferent_38
      · skip
        have g23_15 : ¬ r5.toInt = 0 := fun h8 => h_9 ((i_eq rfl (by decide)).mpr h8)
        refine lv_aload_n hx hb d_Tree_makeDifferent_26 rfl (lv_at hl 1 rfl) ?_
        refine lv_iload_n hx hb d_Tree_makeDifferent_27 rfl (lv_at hl 2 rfl) ?_
        refine lv_iload_n hx hb d_Tree_makeDifferent_28 rfl (lv_at hl 3 rfl) ?_
        have hPc := hP.sub (ws' := [(h0, .inr (5, [.int so, .ref kna, .ref kke, .ref kta, .int nu, .int pa, .int ab, .int mo, .int ow, .int gr, .int si, .int sd])), (kke, .inl (cB, 11, .inl lf))]) [0, 2] rfl
        have hDc := hD.sub (ws' := [(h0, .inr (5, [.int so, .ref kna, .ref kke, .ref kta, .int nu, .int pa, .int ab, .int mo, .int ow, .int gr, .int si, .int sd])), (kke, .inl (cB, 11, .inl lf))]) [0, 2] (by decide +kernel) rfl
        have hFc := va_free (wc := [(h0, .inr (5, [.int so, .ref kna, .ref kke, .ref kta, .int nu, .int pa, .int ab, .int mo, .int ow, .int gr, .int si, .int sd])), (kke, .inl (cB, 11, .inl lf))]) hD hS hA [0, 2] rfl
        have hkc : 0 ≤ 0 := by decide
        have hks : 0 ≤ 0 := by decide
        refine va_callv (va_runV (C := "DiscMaker$Node") (As := [.int kp, .int kx]) (rest := []) ⟨hx, hb, hml, hown, hts⟩ (c3_setNumberedKey l D cB cI cJ cZ cN cF H.size h0 kna kke kta so nu pa ab mo ow gr si sd lf kp kx (by (try dsimp only); first | assumption | omega | trivial) (by (try dsimp only); first | assumption | omega | trivial)) (cwV 2 hts (lg_goodV k868 k869 k870 k118 kc_Node_setNumberedKey) rfl rfl rfl (by decide +kernel) ⟨Nat.le_of_ble_eq_true rfl, Nat.le_of_ble_eq_true rfl⟩) ⟨fun a U g mk q => by obtain ⟨q0, q1, qP, qK, qN, qD⟩ := q; exact ⟨q0, q1, qP, va_K.moved (u := U) (U := U.calling g mk a) (Vm.Alike.refl U.vm) qK, qN.calling, qD⟩, va_recv hK hP (ci := 5) (q0 := 0) rfl rfl, fun U hU hW => ⟨rfl, by rw [hU], by rw [hU]; exact hPc, va_K.moved hW.alike hK, NN.warm hW hN, hDc.weaken (fun _ _ _ _ => trivial)⟩⟩ rfl rfl hl.1 rfl (lv_room (Nat.le_of_ble_eq_true rfl)) d_Tree_makeDifferent_29 ⟨hkc, hks⟩) hS (fun q _ h => hFc q h) hFc (fun u t H1 locs ht hvm hp_r7 hB hz1 hk1 hS => ?_)
        obtain ⟨g_8, rfl⟩ : ∃ z, z = u := ⟨_, rfl⟩
        obtain ⟨hP1, hD1⟩ := hB
        rw [ht] at hP1
        obtain ⟨hP, hD⟩ := va_join (wr := [(kna, .inl (cB, l1, .inl c1))]) (w1 := [(h0, .inr (5, [.int so, .ref kna, .ref kke, .ref kta, .int nu, .int pa, .int ab, .int mo, .int ow, .int gr, .int si, .int sd])), (kke, .inl (cB, 11, .inl g_8))]) hP hD [0, 2] [1] rfl rfl (by decide +kernel) (by decide +kernel) hk1 hFc hP1 hD1
        clear hPc hDc hFc hP1 hD1 hk1 hz1 hkc hks
        generalize H1 = H at hP hS ⊢
        have hP : va_P D CL [(kna, .inl (cB, l1, .inl c1)), (h0, .inr (5, [.int so, .ref kna, .ref kke, .ref kta, .int nu, .int pa, .int ab, .int mo, .int ow, .int gr, .int si, .int sd])), (kke, .inl (cB, 11, .inl g_8))] H := hP
        have hD : va_D A [(kna, .inl (cB, l1, .inl c1)), (h0, .inr (5, [.int so, .ref kna, .ref kke, .ref kta, .int nu, .int pa, .int ab, .int mo, .int ow, .int gr, .int si, .int sd])), (kke, .inl (cB, 11, .inl g_8))] := hD
        obtain ⟨v9, e_v9⟩ : ∃ z : Int32, z = kx + 1 := ⟨_, rfl⟩
        refine lv_iinc (v := v9) hx hb d_Tree_makeDifferent_32 hl (k := 3) rfl e_v9.symm (by decide +kernel) rfl (fun ls hl => ?_)
        have t_v9 : v9.toInt = kx.toInt + 1 := by rw [e_v9]; exact i_add rfl (by decide) (by omega) (by omega)
        have hl : lv_has ls 4 [(3, .int v9), (0, .ref tr), (1, .ref h0), (2, .int kp)] := hl
        refine lv_goto (tgt := 11) hx hb d_Tree_makeDifferent_35 (by decide) ?_
        have hP := hP.sub (ws' := [(h0, .inr (5, [.int so, .ref kna, .ref kke, .ref kta, .int nu, .int pa, .int ab, .int mo, .int ow, .int gr, .int si, .int sd])), (kna, .inl (cB, l1, .inl c1)), (kke, .inl (cB, 11, .inl g_8))]) [1, 0, 2] rfl
        have hD := hD.sub (ws' := [(h0, .inr (5, [.int so, .ref kna, .ref kke, .ref kta, .int nu, .int pa, .int ab, .int mo, .int ow, .int gr, .int si, .int sd])), (kna, .inl (cB, l1, .inl c1)), (kke, .inl (cB, 11, .inl g_8))]) [1, 0, 2] (by decide +kernel) rfl
        have hl := lv_sub hl [1, 2, 3, 0] rfl
        exact ih11 _ (by first | omega | (dsimp only; omega)) kp v9 g_8 _ _ _ rfl ((by (try dsimp only); first | assumption | omega | trivial)) ((by (try dsimp only); first | assumption | omega | trivial)) hP hD hS hl
  · skip
    intro kk11
    have hP := hP.sub (ws' := [(h0, .inr (5, [.int so, .ref kna, .ref kke, .ref kta, .int nu, .int pa, .int ab, .int mo, .int ow, .int gr, .int si, .int sd])), (kna, .inl (cB, l1, .inl c1)), (kke, .inl (cB, 11, .inl g_2))]) [0, 1, 2] rfl
    have hD := hD.sub (ws' := [(h0, .inr (5, [.int so, .ref kna, .ref kke, .ref kta, .int nu, .int pa, .int ab, .int mo, .int ow, .int gr, .int si, .int sd])), (kna, .inl (cB, l1, .inl c1)), (kke, .inl (cB, 11, .inl g_2))]) [0, 1, 2] (by decide +kernel) rfl
    have hl := lv_sub hl [2, 3, 1, 0] rfl
    exact kk11 _ r3 0 g_2 _ _ _ rfl ((by (try dsimp only); first | assumption | omega | trivial)) ((by (try dsimp only); first | assumption | omega | trivial)) hP hD hS hl

theorem d_Tree_add_0 : decode b_Tree_add 0 = .ok (.aload_n 2, 1) := by decide +kernel
theorem d_Tree_add_1 : decode b_Tree_add 1 = .ok (.iload_n 1, 1) := by decide +kernel
theorem d_Tree_add_2 : decode b_Tree_add 2 = .ok (.putfield 34, 3) := by decide +kernel
theorem d_Tree_add_5 : decode b_Tree_add 5 = .ok (.aload_n 2, 1) := by decide +kernel
theorem d_Tree_add_6 : decode b_Tree_add 6 = .ok (.aload_n 0, 1) := by decide +kernel
theorem d_Tree_add_7 : decode b_Tree_add 7 = .ok (.getfield 11, 3) := by decide +kernel
theorem d_Tree_add_10 : decode b_Tree_add 10 = .ok (.iload_n 1, 1) := by decide +kernel
theorem d_Tree_add_11 : decode b_Tree_add 11 = .ok (.aaload, 1) := by decide +kernel
theorem d_Tree_add_12 : decode b_Tree_add 12 = .ok (.getfield 37, 3) := by decide +kernel
theorem d_Tree_add_15 : decode b_Tree_add 15 = .ok (.iconst 1, 1) := by decide +kernel
theorem d_Tree_add_16 : decode b_Tree_add 16 = .ok (.iadd, 1) := by decide +kernel
theorem d_Tree_add_17 : decode b_Tree_add 17 = .ok (.putfield 37, 3) := by decide +kernel
theorem d_Tree_add_20 : decode b_Tree_add 20 = .ok (.aload_n 2, 1) := by decide +kernel
theorem d_Tree_add_21 : decode b_Tree_add 21 = .ok (.aload_n 0, 1) := by decide +kernel
theorem d_Tree_add_22 : decode b_Tree_add 22 = .ok (.getfield 20, 3) := by decide +kernel
theorem d_Tree_add_25 : decode b_Tree_add 25 = .ok (.putfield 40, 3) := by decide +kernel
theorem d_Tree_add_28 : decode b_Tree_add 28 = .ok (.aload_n 0, 1) := by decide +kernel
theorem d_Tree_add_29 : decode b_Tree_add 29 = .ok (.aload_n 2, 1) := by decide +kernel
theorem d_Tree_add_30 : decode b_Tree_add 30 = .ok (.invokevirtual 43, 3) := by decide +kernel
theorem d_Tree_add_33 : decode b_Tree_add 33 = .ok (.ifCond .eq 6, 3) := by decide +kernel
theorem d_Tree_add_36 : decode b_Tree_add 36 = .ok (.bipush (-2), 2) := by decide +kernel
theorem d_Tree_add_38 : decode b_Tree_add 38 = .ok (.ireturn, 1) := by decide +kernel
theorem d_Tree_add_39 : decode b_Tree_add 39 = .ok (.aload_n 0, 1) := by decide +kernel
theorem d_Tree_add_40 : decode b_Tree_add 40 = .ok (.aload_n 2, 1) := by decide +kernel
theorem d_Tree_add_41 : decode b_Tree_add 41 = .ok (.invokevirtual 47, 3) := by decide +kernel
theorem d_Tree_add_44 : decode b_Tree_add 44 = .ok (.ifCond .eq 6, 3) := by decide +kernel
theorem d_Tree_add_47 : decode b_Tree_add 47 = .ok (.bipush (-3), 2) := by decide +kernel
theorem d_Tree_add_49 : decode b_Tree_add 49 = .ok (.ireturn, 1) := by decide +kernel
theorem d_Tree_add_50 : decode b_Tree_add 50 = .ok (.aload_n 0, 1) := by decide +kernel
theorem d_Tree_add_51 : decode b_Tree_add 51 = .ok (.aload_n 2, 1) := by decide +kernel
theorem d_Tree_add_52 : decode b_Tree_add 52 = .ok (.invokevirtual 50, 3) := by decide +kernel
theorem d_Tree_add_55 : decode b_Tree_add 55 = .ok (.aload_n 0, 1) := by decide +kernel
theorem d_Tree_add_56 : decode b_Tree_add 56 = .ok (.getfield 11, 3) := by decide +kernel
theorem d_Tree_add_59 : decode b_Tree_add 59 = .ok (.aload_n 0, 1) := by decide +kernel
theorem d_Tree_add_60 : decode b_Tree_add 60 = .ok (.getfield 20, 3) := by decide +kernel
theorem d_Tree_add_63 : decode b_Tree_add 63 = .ok (.aload_n 2, 1) := by decide +kernel
theorem d_Tree_add_64 : decode b_Tree_add 64 = .ok (.aastore, 1) := by decide +kernel
theorem d_Tree_add_65 : decode b_Tree_add 65 = .ok (.aload_n 0, 1) := by decide +kernel
theorem d_Tree_add_66 : decode b_Tree_add 66 = .ok (.dup, 1) := by decide +kernel
theorem d_Tree_add_67 : decode b_Tree_add 67 = .ok (.getfield 20, 3) := by decide +kernel
theorem d_Tree_add_70 : decode b_Tree_add 70 = .ok (.iconst 1, 1) := by decide +kernel
theorem d_Tree_add_71 : decode b_Tree_add 71 = .ok (.iadd, 1) := by decide +kernel
theorem d_Tree_add_72 : decode b_Tree_add 72 = .ok (.putfield 20, 3) := by decide +kernel
theorem d_Tree_add_75 : decode b_Tree_add 75 = .ok (.aload_n 0, 1) := by decide +kernel
theorem d_Tree_add_76 : decode b_Tree_add 76 = .ok (.dup, 1) := by decide +kernel
theorem d_Tree_add_77 : decode b_Tree_add 77 = .ok (.getfield 24, 3) := by decide +kernel
theorem d_Tree_add_80 : decode b_Tree_add 80 = .ok (.aload_n 2, 1) := by decide +kernel
theorem d_Tree_add_81 : decode b_Tree_add 81 = .ok (.getfield 31, 3) := by decide +kernel
theorem d_Tree_add_84 : decode b_Tree_add 84 = .ok (.ifCond .ne 7, 3) := by decide +kernel
theorem d_Tree_add_87 : decode b_Tree_add 87 = .ok (.iconst 1, 1) := by decide +kernel
theorem d_Tree_add_88 : decode b_Tree_add 88 = .ok (.goto 4, 3) := by decide +kernel
theorem d_Tree_add_91 : decode b_Tree_add 91 = .ok (.iconst 0, 1) := by decide +kernel
theorem d_Tree_add_92 : decode b_Tree_add 92 = .ok (.iadd, 1) := by decide +kernel
theorem d_Tree_add_93 : decode b_Tree_add 93 = .ok (.putfield 24, 3) := by decide +kernel
theorem d_Tree_add_96 : decode b_Tree_add 96 = .ok (.aload_n 2, 1) := by decide +kernel
theorem d_Tree_add_97 : decode b_Tree_add 97 = .ok (.getfield 40, 3) := by decide +kernel
theorem d_Tree_add_100 : decode b_Tree_add 100 = .ok (.ireturn, 1) := by decide +kernel
set_option maxHeartbeats 4000000 in
set_option maxRecDepth 100000 in
theorem c3_add (l : Launch) (D : va_G) (cB cI cJ cZ cN cF : ClassId) (sz : Nat) (tr : Nat) (ta : Nat) (cn : Int32) (dr : Int32) (na : Nat → Nat → Nat) (ng : Nat → Nat → Int32) (nn : Nat → Nat → Nat) (nf : Nat → Nat → Nat → Int32) (cm : Nat) (h0 : Nat) (kna : Nat) (kke : Nat) (kta : Nat) (so : Int32) (nu : Int32) (pa : Int32) (ab : Int32) (mo : Int32) (ow : Int32) (gr : Int32) (si : Int32) (sd : Int32) (l1 : Nat) (c1 : Nat → Int32) (c2 : Nat → Int32) (l3 : Nat) (c3 : Nat → Int32) (x : Int32) (hcn : cn.toInt = cm) (hcm : cm ≤ 40) (htok : TOK cm ng nn) (htoa : TOA cm ng) (hdi : (ng x.toNatClampNeg 0).toInt = 0) (hdr : 0 ≤ dr.toInt ∧ dr.toInt ≤ cn.toInt) (hx : 0 ≤ x.toInt ∧ x.toInt < cn.toInt) (hso : 0 ≤ so.toInt ∧ so.toInt ≤ 2) (hsi : 0 ≤ si.toInt ∧ si.toInt ≤ 4100) (hl1 : l1 ≤ 400) (hl3 : l3 ≤ 400) (hB : Rg (-128) 127 l1 c1) : Met l y_Tree_add w_Tree_add ({ frames := 5, cells := 0, slots := 0, locals := 143 }) (va_Pc [.ref tr, .int x, .ref h0] (fun U => U.heap.size = sz ∧ va_P D CL (([(tr, .inr (10, [.ref ta, .int cn, .int dr])), (ta, .inl (cN, 40, .inr (.inr (.inr (.inr (rowF na cm)))))), (h0, .inr (5, [.int so, .ref kna, .ref kke, .ref kta, .int nu, .int pa, .int ab, .int mo, .int ow, .int gr, .int si, .int sd])), (kna, .inl (cB, l1, .inl c1)), (kke, .inl (cB, 11, .inl c2)), (kta, .inl (cB, l3, .inl c3))] : va_W) ++ (PL (NC cB na ng nn nf) cm)) U.heap ∧ va_K D CL (TY cB cI cJ cZ cN cF) U ∧ NN U ∧ va_D (fun _ => True) (([(tr, .inr (10, [.ref ta, .int cn, .int dr])), (ta, .inl (cN, 40, .inr (.inr (.inr (.inr (rowF na cm)))))), (h0, .inr (5, [.int so, .ref kna, .ref kke, .ref kta, .int nu, .int pa, .int ab, .int mo, .int ow, .int gr, .int si, .int sd])), (kna, .inl (cB, l1, .inl c1)), (kke, .inl (cB, 11, .inl c2)), (kta, .inl (cB, l3, .inl c3))] : va_W) ++ (PL (NC cB na ng nn nf) cm)))) (va_Qi (fun (r : Int32) (u : (Nat → Nat → Nat) × (Nat → Nat → Int32) × (Nat → Nat → Nat) × (Nat → Nat → Nat → Int32) × Nat × Int32 × Int32) => match u with | (na2, ng2, nn2, nf2, cm2, cn2, dr2) => (cn2.toInt = cm2 ∧ cm ≤ cm2 ∧ cm2 ≤ 40) ∧ (TOK cm2 ng2 nn2) ∧ (0 ≤ dr2.toInt ∧ dr2.toInt ≤ cn2.toInt) ∧ (TOA cm2 ng2) ∧ (AddC r x so mo ow gr si sd dr dr2 cm cm2 ng ng2 nn nn2 nf nf2 l1 c1 l3 c3)) (fun (u : (Nat → Nat → Nat) × (Nat → Nat → Int32) × (Nat → Nat → Nat) × (Nat → Nat → Nat → Int32) × Nat × Int32 × Int32) (t : State) => match u with | (na2, ng2, nn2, nf2, cm2, cn2, dr2) => va_P D CL (([(tr, .inr (10, [.ref ta, .int cn2, .int dr2])), (ta, .inl (cN, 40, .inr (.inr (.inr (.inr (rowF na2 cm2))))))] : va_W) ++ (PL (NC cB na2 ng2 nn2 nf2) cm2)) t.heap ∧ va_D (va_A (([(tr, .inr (10, [.ref ta, .int cn, .int dr])), (ta, .inl (cN, 40, .inr (.inr (.inr (.inr (rowF na cm)))))), (h0, .inr (5, [.int so, .ref kna, .ref kke, .ref kta, .int nu, .int pa, .int ab, .int mo, .int ow, .int gr, .int si, .int sd])), (kna, .inl (cB, l1, .inl c1)), (kke, .inl (cB, 11, .inl c2)), (kta, .inl (cB, l3, .inl c3))] : va_W) ++ (PL (NC cB na ng nn nf) cm)) sz) (([(tr, .inr (10, [.ref ta, .int cn2, .int dr2])), (ta, .inl (cN, 40, .inr (.inr (.inr (.inr (rowF na2 cm2))))))] : va_W) ++ (PL (NC cB na2 ng2 nn2 nf2) cm2))) (va_A (([(tr, .inr (10, [.ref ta, .int cn, .int dr])), (ta, .inl (cN, 40, .inr (.inr (.inr (.inr (rowF na cm)))))), (h0, .inr (5, [.int so, .ref kna, .ref kke, .ref kta, .int nu, .int pa, .int ab, .int mo, .int ow, .int gr, .int si, .int sd])), (kna, .inl (cB, l1, .inl c1)), (kke, .inl (cB, 11, .inl c2)), (kta, .inl (cB, l3, .inl c3))] : va_W) ++ (PL (NC cB na ng nn nf) cm)) sz)) 0 0 (va_A (([(tr, .inr (10, [.ref ta, .int cn, .int dr])), (ta, .inl (cN, 40, .inr (.inr (.inr (.inr (rowF na cm)))))), (h0, .inr (5, [.int so, .ref kna, .ref kke, .ref kta, .int nu, .int pa, .int ab, .int mo, .int ow, .int gr, .int si, .int sd])), (kna, .inl (cB, l1, .inl c1)), (kke, .inl (cB, 11, .inl c2)), (kta, .inl (cB, l3, .inl c3))] : va_W) ++ (PL (NC cB na ng nn nf) cm)) sz) := by
  refine Met.ofW (cc := b_Tree_add) (maxL := 3) (ret := some .int) (by decide +kernel) rfl ?_
  intro p e s m args below meth c s₁ B hml hv
  obtain ⟨rfl, hsz, hP, hK, hN, hD0⟩ := hv
  have hx := B.exec
  have hb := B.bytes
  have hr := B.returns
  have hts := atoms_spec (ws := w_Tree_add) B.pre
  have ht9 := fun (w : Cond) (h : w ∈ lw_g) => hts w (List.mem_cons_of_mem _ h)
  have hown : s.vm.findClass "DiscMaker$Tree" = some m.cls := findClass_of_methodNamed B.named
  have hlocks := B.notSynchronized
  subst hsz
  have hD := hD0.self (sz := s.heap.size)
  generalize hAe : va_A (([(tr, .inr (10, [.ref ta, .int cn, .int dr])), (ta, .inl (cN, 40, .inr (.inr (.inr (.inr (rowF na cm)))))), (h0, .inr (5, [.int so, .ref kna, .ref kke, .ref kta, .int nu, .int pa, .int ab, .int mo, .int ow, .int gr, .int si, .int sd])), (kna, .inl (cB, l1, .inl c1)), (kke, .inl (cB, 11, .inl c2)), (kta, .inl (cB, l3, .inl c3))] : va_W) ++ (PL (NC cB na ng nn nf) cm)) s.heap.size = A at hD ⊢
  have hA : ∀ q : Nat, s.heap.size ≤ q → A q := fun q h => by rw [← hAe]; exact Or.inr h
  have hS : va_S A s.heap s.heap [] := va_S.rf
  have hP : va_P D CL (([(tr, .inr (10, [.ref ta, .int cn, .int dr])), (ta, .inl (cN, 40, .inr (.inr (.inr (.inr (rowF na cm)))))), (h0, .inr (5, [.int so, .ref kna, .ref kke, .ref kta, .int nu, .int pa, .int ab, .int mo, .int ow, .int gr, .int si, .int sd])), (kna, .inl (cB, l1, .inl c1)), (kke, .inl (cB, 11, .inl c2)), (kta, .inl (cB, l3, .inl c3))] : va_W) ++ (PL (NC cB na ng nn nf) cm)) s.heap := hP
  have hl := lv_entry [.ref tr, .int x, .ref h0] (n := 3) (Nat.le_of_ble_eq_true rfl)
  rw [lg_entry_eq]
  generalize (lg_sl [.ref tr, .int x, .ref h0] ++ List.replicate (3 - (lg_sl [.ref tr, .int x, .ref h0]).length) Slot.unset).toArray = ls at hl ⊢
  have hl : lv_has ls 3 [(0, .ref tr), (1, .int x), (2, .ref h0)] := hl
  have L_m3 : ((-3) : Int32).toInt = (-3) := by decide
  have L_m2 : ((-2) : Int32).toInt = (-2) := by decide
  have L_m1 : ((-1) : Int32).toInt = (-1) := by decide
  have L_0 : (0 : Int32).toInt = 0 := by decide
  have L_1 : (1 : Int32).toInt = 1 := by decide
  have hxc := i_cl (a := x) (by omega)
  have ha9 := htoa x.toNatClampNeg (by omega)
  refine lv_aload_n hx hb d_Tree_add_0 rfl (lv_at hl 2 rfl) ?_
  refine lv_iload_n hx hb d_Tree_add_1 rfl (lv_at hl 1 rfl) ?_
  refine va_putN (D := D) (ci := 5) (v := .int x) (ty := .int) (C := "DiscMaker$Node") (T := F_Node) (N := 12) hx hb ht9 in_Node t_Node t_Node_ok n_Node hown hK hP hD hS 2 rfl rfl 5 (by decide) (va_Nw.use rfl (hN _ k196)) (fun _ h9 => h9) rfl (by decide +kernel) rfl rfl (Nat.le_of_ble_eq_true rfl) d_Tree_add_2 (fun H locs hP hD hS => ?_)
  have hP : va_P D CL (([(tr, .inr (10, [.ref ta, .int cn, .int dr])), (ta, .inl (cN, 40, .inr (.inr (.inr (.inr (rowF na cm)))))), (h0, .inr (5, [.int so, .ref kna, .ref kke, .ref kta, .int nu, .int x, .int ab, .int mo, .int ow, .int gr, .int si, .int sd])), (kna, .inl (cB, l1, .inl c1)), (kke, .inl (cB, 11, .inl c2)), (kta, .inl (cB, l3, .inl c3))] : va_W) ++ (PL (NC cB na ng nn nf) cm)) H := hP
  have hD : va_D A (([(tr, .inr (10, [.ref ta, .int cn, .int dr])), (ta, .inl (cN, 40, .inr (.inr (.inr (.inr (rowF na cm)))))), (h0, .inr (5, [.int so, .ref kna, .ref kke, .ref kta, .int nu, .int x, .int ab, .int mo, .int ow, .int gr, .int si, .int sd])), (kna, .inl (cB, l1, .inl c1)), (kke, .inl (cB, 11, .inl c2)), (kta, .inl (cB, l3, .inl c3))] : va_W) ++ (PL (NC cB na ng nn nf) cm)) := hD
  refine lv_aload_n hx hb d_Tree_add_5 rfl (lv_at hl 2 rfl) ?_
  refine lv_aload_n hx hb d_Tree_add_6 rfl (lv_at hl 0 rfl) ?_
  refine va_get (D := D) (ci := 10) (v := .ref ta) (C := "DiscMaker$Tree") (T := F_Tree) (N := 3) hx hb ht9 in_Tree hown hK hP 0 rfl rfl 0 (by decide) (ht9 _ k235) (fun _ h9 => h9) rfl d_Tree_add_7 ?_
  refine lv_iload_n hx hb d_Tree_add_10 rfl (lv_at hl 1 rfl) ?_
  refine va_aldq hx hb hK hP 1 4 rfl rfl (vp_in_iff.mpr ⟨by omega, by omega⟩) d_Tree_add_11 ?_
  have c_hk1 := i_cl (a := x) (by omega)
  have hk1 : x.toNatClampNeg < cm := by omega
  have o_hk1 := htok x.toNatClampNeg hk1
  obtain ⟨i_hj2, hj2⟩ : ∃ j : Nat, (PL (NC cB na ng nn nf) cm)[j]? = some ((na x.toNatClampNeg 0), .inr (5, [.int (ng x.toNatClampNeg 0), .ref (na x.toNatClampNeg 1), .ref (na x.toNatClampNeg 2), .ref (na x.toNatClampNeg 3), .int (ng x.toNatClampNeg 1), .int (ng x.toNatClampNeg 2), .int (ng x.toNatClampNeg 3), .int (ng x.toNatClampNeg 4), .int (ng x.toNatClampNeg 5), .int (ng x.toNatClampNeg 6), .int (ng x.toNatClampNeg 7), .int (ng x.toNatClampNeg 8)])) := PL_get (i := 0) hk1 rfl
  obtain ⟨i_hj3, hj3⟩ : ∃ j : Nat, (PL (NC cB na ng nn nf) cm)[j]? = some ((na x.toNatClampNeg 1), .inl (cB, (nn x.toNatClampNeg 1), .inl (nf x.toNatClampNeg 1))) := PL_get (i := 1) hk1 rfl
  obtain ⟨i_hj4, hj4⟩ : ∃ j : Nat, (PL (NC cB na ng nn nf) cm)[j]? = some ((na x.toNatClampNeg 2), .inl (cB, 11, .inl (nf x.toNatClampNeg 2))) := PL_get (i := 2) hk1 rfl
  obtain ⟨i_hj5, hj5⟩ : ∃ j : Nat, (PL (NC cB na ng nn nf) cm)[j]? = some ((na x.toNatClampNeg 3), .inl (cB, (nn x.toNatClampNeg 3), .inl (nf x.toNatClampNeg 3))) := PL_get (i := 3) hk1 rfl
  refine W.eq (g2 := F0 m 12 ls [.ref (na x.toNatClampNeg 0), .ref h0]) (by rw [show rowF na cm x.toNatClampNeg = some (na x.toNatClampNeg 0) from rowF_some hk1]; rfl) ?_
  refine va_getN (D := D) (ci := 5) (v := .int (ng x.toNatClampNeg 3)) (C := "DiscMaker$Node") (T := F_Node) (N := 12) hx hb ht9 in_Node hown hK hP _ (pix (X := [(tr, .inr (10, [.ref ta, .int cn, .int dr])), (ta, .inl (cN, 40, .inr (.inr (.inr (.inr (rowF na cm)))))), (h0, .inr (5, [.int so, .ref kna, .ref kke, .ref kta, .int nu, .int x, .int ab, .int mo, .int ow, .int gr, .int si, .int sd])), (kna, .inl (cB, l1, .inl c1)), (kke, .inl (cB, 11, .inl c2)), (kta, .inl (cB, l3, .inl c3))]) hj2) rfl 6 (by decide) (va_Nw.use rfl (hN _ k199)) (fun _ h9 => h9) rfl d_Tree_add_12 ?_
  refine lv_iconst (v := 1) hx hb d_Tree_add_15 (by decide) ?_
  refine lv_iadd hx hb d_Tree_add_16 ?_
  refine lv_topi (fun v6 e_v6 => ?_)
  have t_v6 : v6.toInt = (ng x.toNatClampNeg 3).toInt + 1 := by rw [e_v6]; exact i_add rfl (by decide) (by omega) (by omega)
  refine va_putN (D := D) (ci := 5) (v := .int v6) (ty := .int) (C := "DiscMaker$Node") (T := F_Node) (N := 12) hx hb ht9 in_Node t_Node t_Node_ok n_Node hown hK hP hD hS 2 rfl rfl 6 (by decide) (va_Nw.use rfl (hN _ k199)) (fun _ h9 => h9) rfl (by decide +kernel) rfl rfl (Nat.le_of_ble_eq_true rfl) d_Tree_add_17 (fun H locs hP hD hS => ?_)
  have hP : va_P D CL (([(tr, .inr (10, [.ref ta, .int cn, .int dr])), (ta, .inl (cN, 40, .inr (.inr (.inr (.inr (rowF na cm)))))), (h0, .inr (5, [.int so, .ref kna, .ref kke, .ref kta, .int nu, .int x, .int v6, .int mo, .int ow, .int gr, .int si, .int sd])), (kna, .inl (cB, l1, .inl c1)), (kke, .inl (cB, 11, .inl c2)), (kta, .inl (cB, l3, .inl c3))] : va_W) ++ (PL (NC cB na ng nn nf) cm)) H := hP
  have hD : va_D A (([(tr, .inr (10, [.ref ta, .int cn, .int dr])), (ta, .inl (cN, 40, .inr (.inr (.inr (.inr (rowF na cm)))))), (h0, .inr (5, [.int so, .ref kna, .ref kke, .ref kta, .int nu, .int x, .int v6, .int mo, .int ow, .int gr, .int si, .int sd])), (kna, .inl (cB, l1, .inl c1)), (kke, .inl (cB, 11, .inl c2)), (kta, .inl (cB, l3, .inl c3))] : va_W) ++ (PL (NC cB na ng nn nf) cm)) := hD
  refine lv_aload_n hx hb d_Tree_add_20 rfl (lv_at hl 2 rfl) ?_
  refine lv_aload_n hx hb d_Tree_add_21 rfl (lv_at hl 0 rfl) ?_
  refine va_get (D := D) (ci := 10) (v := .int cn) (C := "DiscMaker$Tree") (T := F_Tree) (N := 3) hx hb ht9 in_Tree hown hK hP 0 rfl rfl 1 (by decide) (ht9 _ k239) (fun _ h9 => h9) rfl d_Tree_add_22 ?_
  refine va_putN (D := D) (ci := 5) (v := .int cn) (ty := .int) (C := "DiscMaker$Node") (T := F_Node) (N := 12) hx hb ht9 in_Node t_Node t_Node_ok n_Node hown hK hP hD hS 2 rfl rfl 4 (by decide) (va_Nw.use rfl (hN _ k194)) (fun _ h9 => h9) rfl (by decide +kernel) rfl rfl (Nat.le_of_ble_eq_true rfl) d_Tree_add_25 (fun H locs hP hD hS => ?_)
  have hP : va_P D CL (([(tr, .inr (10, [.ref ta, .int cn, .int dr])), (ta, .inl (cN, 40, .inr (.inr (.inr (.inr (rowF na cm)))))), (h0, .inr (5, [.int so, .ref kna, .ref kke, .ref kta, .int cn, .int x, .int v6, .int mo, .int ow, .int gr, .int si, .int sd])), (kna, .inl (cB, l1, .inl c1)), (kke, .inl (cB, 11, .inl c2)), (kta, .inl (cB, l3, .inl c3))] : va_W) ++ (PL (NC cB na ng nn nf) cm)) H := hP
  have hD : va_D A (([(tr, .inr (10, [.ref ta, .int cn, .int dr])), (ta, .inl (cN, 40, .inr (.inr (.inr (.inr (rowF na cm)))))), (h0, .inr (5, [.int so, .ref kna, .ref kke, .ref kta, .int cn, .int x, .int v6, .int mo, .int ow, .int gr, .int si, .int sd])), (kna, .inl (cB, l1, .inl c1)), (kke, .inl (cB, 11, .inl c2)), (kta, .inl (cB, l3, .inl c3))] : va_W) ++ (PL (NC cB na ng nn nf) cm)) := hD
  refine lv_aload_n hx hb d_Tree_add_28 rfl (lv_at hl 0 rfl) ?_
  refine lv_aload_n hx hb d_Tree_add_29 rfl (lv_at hl 2 rfl) ?_
  have hPc := hP.sub (ws' := []) [] rfl
  have hDc := hD.sub (ws' := []) [] (by decide +kernel) rfl
  have hFc := va_free (wc := []) hD hS hA [] rfl
  have hkc : 0 ≤ 0 := by decide
  have hks : 0 ≤ 0 := by decide
  refine va_calli (va_runV (C := "DiscMaker$Tree") (As := [.ref h0]) (rest := []) ⟨hx, hb, hml, hown, hts⟩ (c3_isNamed l D cB cI cJ cZ cN cF H.size tr ta cn dr na ng nn nf cm h0 kna kke kta so cn x v6 mo ow gr si sd l1 c1 (by (try dsimp only); first | assumption | omega | trivial) (by (try dsimp only); first | assumption | omega | trivial) (by (try dsimp only); first | assumption | omega | trivial) (by (try dsimp only); first | assumption | omega | trivial)) (cwV 1 hts (lg_goodV k819 k821 k3 k117 kc_Tree_isNamed) rfl rfl rfl (by decide +kernel) ⟨Nat.le_of_ble_eq_true rfl, Nat.le_of_ble_eq_true rfl⟩) ⟨fun a U g mk q => by obtain ⟨q0, q1, qP, qK, qN, qD, qZ0⟩ := q; exact ⟨q0, q1, qP, va_K.moved (u := U) (U := U.calling g mk a) (Vm.Alike.refl U.vm) qK, qN.calling, qD, RO_blind qZ0⟩, va_recv hK hP (ci := 10) (q0 := 0) rfl rfl, fun U hU hW => ⟨rfl, by rw [hU], by rw [hU]; exact hPc, va_K.moved hW.alike hK, NN.warm hW hN, hDc.weaken (fun _ _ _ _ => trivial), (RO_app (w1 := [(tr, .inr (10, [.ref ta, .int cn, .int dr]))]) (w2 := (([(ta, .inl (cN, 40, .inr (.inr (.inr (.inr (rowF na cm)))))), (h0, .inr (5, [.int so, .ref kna, .ref kke, .ref kta, .int cn, .int x, .int v6, .int mo, .int ow, .int gr, .int si, .int sd])), (kna, .inl (cB, l1, .inl c1))] : va_W) ++ (PL (NC cB na ng nn nf) cm))) (RO_mut hP hD [] rfl 0 rfl (by decide) hU) (RO_app (w1 := [(ta, .inl (cN, 40, .inr (.inr (.inr (.inr (rowF na cm))))))]) (w2 := (([(h0, .inr (5, [.int so, .ref kna, .ref kke, .ref kta, .int cn, .int x, .int v6, .int mo, .int ow, .int gr, .int si, .int sd])), (kna, .inl (cB, l1, .inl c1))] : va_W) ++ (PL (NC cB na ng nn nf) cm))) (RO_mut hP hD [] rfl 1 rfl (by decide) hU) (RO_app (w1 := [(h0, .inr (5, [.int so, .ref kna, .ref kke, .ref kta, .int cn, .int x, .int v6, .int mo, .int ow, .int gr, .int si, .int sd]))]) (w2 := (([(kna, .inl (cB, l1, .inl c1))] : va_W) ++ (PL (NC cB na ng nn nf) cm))) (RO_mut hP hD [] rfl 2 rfl (by decide) hU) (RO_app (w1 := [(kna, .inl (cB, l1, .inl c1))]) (w2 := (PL (NC cB na ng nn nf) cm)) (RO_mut hP hD [] rfl 3 rfl (by decide) hU) (RO_pool (X := [(tr, .inr (10, [.ref ta, .int cn, .int dr])), (ta, .inl (cN, 40, .inr (.inr (.inr (.inr (rowF na cm)))))), (h0, .inr (5, [.int so, .ref kna, .ref kke, .ref kta, .int cn, .int x, .int v6, .int mo, .int ow, .int gr, .int si, .int sd])), (kna, .inl (cB, l1, .inl c1)), (kke, .inl (cB, 11, .inl c2)), (kta, .inl (cB, l3, .inl c3))]) hP hD [] rfl hU)))))⟩⟩ rfl rfl hl.1 rfl (lv_room (Nat.le_of_ble_eq_true rfl)) d_Tree_add_30 ⟨hkc, hks⟩) hS (fun q _ h => hFc q h) hFc (fun r7 u t H1 locs ht hvm hp_r7 hB hz1 hk1 hS => ?_)
  obtain ⟨hP1, hD1⟩ := hB
  rw [ht] at hP1
  obtain ⟨hP, hD⟩ := va_joinQ (X := [(tr, .inr (10, [.ref ta, .int cn, .int dr])), (ta, .inl (cN, 40, .inr (.inr (.inr (.inr (rowF na cm)))))), (h0, .inr (5, [.int so, .ref kna, .ref kke, .ref kta, .int cn, .int x, .int v6, .int mo, .int ow, .int gr, .int si, .int sd])), (kna, .inl (cB, l1, .inl c1)), (kke, .inl (cB, 11, .inl c2)), (kta, .inl (cB, l3, .inl c3))]) (cx := []) (wr := [(tr, .inr (10, [.ref ta, .int cn, .int dr])), (ta, .inl (cN, 40, .inr (.inr (.inr (.inr (rowF na cm)))))), (h0, .inr (5, [.int so, .ref kna, .ref kke, .ref kta, .int cn, .int x, .int v6, .int mo, .int ow, .int gr, .int si, .int sd])), (kna, .inl (cB, l1, .inl c1)), (kke, .inl (cB, 11, .inl c2)), (kta, .inl (cB, l3, .inl c3))]) (w1 := []) hP hD [] [0, 1, 2, 3, 4, 5] rfl rfl (by decide +kernel) (by decide +kernel) hk1 hFc hP1 hD1
  clear hPc hDc hFc hP1 hD1 hk1 hz1 hkc hks
  generalize H1 = H at hP hS ⊢
  have hP : va_P D CL (([(tr, .inr (10, [.ref ta, .int cn, .int dr])), (ta, .inl (cN, 40, .inr (.inr (.inr (.inr (rowF na cm)))))), (h0, .inr (5, [.int so, .ref kna, .ref kke, .ref kta, .int cn, .int x, .int v6, .int mo, .int ow, .int gr, .int si, .int sd])), (kna, .inl (cB, l1, .inl c1)), (kke, .inl (cB, 11, .inl c2)), (kta, .inl (cB, l3, .inl c3))] : va_W) ++ (PL (NC cB na ng nn nf) cm)) H := hP
  have hD : va_D A (([(tr, .inr (10, [.ref ta, .int cn, .int dr])), (ta, .inl (cN, 40, .inr (.inr (.inr (.inr (rowF na cm)))))), (h0, .inr (5, [.int so, .ref kna, .ref kke, .ref kta, .int cn, .int x, .int v6, .int mo, .int ow, .int gr, .int si, .int sd])), (kna, .inl (cB, l1, .inl c1)), (kke, .inl (cB, 11, .inl c2)), (kta, .inl (cB, l3, .inl c3))] : va_W) ++ (PL (NC cB na ng nn nf) cm)) := hD
  try dsimp only at hp_r7
  obtain ⟨hr_8, hb_9⟩ := hp_r7
  refine lv_if_eq (tgt := 39) hx hb d_Tree_add_33 (by decide) (fun h_9 => ?_) (fun h_9 => ?_)
  · skip
    have g33_20 : r7.toInt = 0 := (i_eq rfl (by decide)).mp h_9
    refine lv_aload_n hx hb d_Tree_add_39 rfl (lv_at hl 0 rfl) ?_
    refine lv_aload_n hx hb d_Tree_add_40 rfl (lv_at hl 2 rfl) ?_
    have hPc := hP.sub (ws' := []) [] rfl
    have hDc := hD.sub (ws' := []) [] (by decide +kernel) rfl
    have hFc := va_free (wc := []) hD hS hA [] rfl
    have hkc : 0 ≤ 0 := by decide
    have hks : 0 ≤ 0 := by decide
    refine va_calli (va_runV (C := "DiscMaker$Tree") (As := [.ref h0]) (rest := []) ⟨hx, hb, hml, hown, hts⟩ (c3_isFullFor l D cB cI cJ cZ cN cF H.size tr ta cn dr h0 kna kke kta so cn x v6 mo ow gr si sd) (cwV 1 hts (lg_goodV k827 k829 k4 k117 kc_Tree_isFullFor) rfl rfl rfl (by decide +kernel) ⟨Nat.le_of_ble_eq_true rfl, Nat.le_of_ble_eq_true rfl⟩) ⟨fun a U g mk q => by obtain ⟨q0, q1, qP, qK, qN, qD, qZ0⟩ := q; exact ⟨q0, q1, qP, va_K.moved (u := U) (U := U.calling g mk a) (Vm.Alike.refl U.vm) qK, qN.calling, qD, RO_blind qZ0⟩, va_recv hK hP (ci := 10) (q0 := 0) rfl rfl, fun U hU hW => ⟨rfl, by rw [hU], by rw [hU]; exact hPc, va_K.moved hW.alike hK, NN.warm hW hN, hDc.weaken (fun _ _ _ _ => trivial), (RO_app (w1 := [(tr, .inr (10, [.ref ta, .int cn, .int dr]))]) (w2 := [(h0, .inr (5, [.int so, .ref kna, .ref kke, .ref kta, .int cn, .int x, .int v6, .int mo, .int ow, .int gr, .int si, .int sd]))]) (RO_mut hP hD [] rfl 0 rfl (by decide) hU) (RO_mut hP hD [] rfl 2 rfl (by decide) hU))⟩⟩ rfl rfl hl.1 rfl (lv_room (Nat.le_of_ble_eq_true rfl)) d_Tree_add_41 ⟨hkc, hks⟩) hS (fun q _ h => hFc q h) hFc (fun r10 u t H1 locs ht hvm hp_r10 hB hz1 hk1 hS => ?_)
    obtain ⟨hP1, hD1⟩ := hB
    rw [ht] at hP1
    obtain ⟨hP, hD⟩ := va_joinQ (X := [(tr, .inr (10, [.ref ta, .int cn, .int dr])), (ta, .inl (cN, 40, .inr (.inr (.inr (.inr (rowF na cm)))))), (h0, .inr (5, [.int so, .ref kna, .ref kke, .ref kta, .int cn, .int x, .int v6, .int mo, .int ow, .int gr, .int si, .int sd])), (kna, .inl (cB, l1, .inl c1)), (kke, .inl (cB, 11, .inl c2)), (kta, .inl (cB, l3, .inl c3))]) (cx := []) (wr := [(tr, .inr (10, [.ref ta, .int cn, .int dr])), (ta, .inl (cN, 40, .inr (.inr (.inr (.inr (rowF na cm)))))), (h0, .inr (5, [.int so, .ref kna, .ref kke, .ref kta, .int cn, .int x, .int v6, .int mo, .int ow, .int gr, .int si, .int sd])), (kna, .inl (cB, l1, .inl c1)), (kke, .inl (cB, 11, .inl c2)), (kta, .inl (cB, l3, .inl c3))]) (w1 := []) hP hD [] [0, 1, 2, 3, 4, 5] rfl rfl (by decide +kernel) (by decide +kernel) hk1 hFc hP1 hD1
    clear hPc hDc hFc hP1 hD1 hk1 hz1 hkc hks
    generalize H1 = H at hP hS ⊢
    have hP : va_P D CL (([(tr, .inr (10, [.ref ta, .int cn, .int dr])), (ta, .inl (cN, 40, .inr (.inr (.inr (.inr (rowF na cm)))))), (h0, .inr (5, [.int so, .ref kna, .ref kke, .ref kta, .int cn, .int x, .int v6, .int mo, .int ow, .int gr, .int si, .int sd])), (kna, .inl (cB, l1, .inl c1)), (kke, .inl (cB, 11, .inl c2)), (kta, .inl (cB, l3, .inl c3))] : va_W) ++ (PL (NC cB na ng nn nf) cm)) H := hP
    have hD : va_D A (([(tr, .inr (10, [.ref ta, .int cn, .int dr])), (ta, .inl (cN, 40, .inr (.inr (.inr (.inr (rowF na cm)))))), (h0, .inr (5, [.int so, .ref kna, .ref kke, .ref kta, .int cn, .int x, .int v6, .int mo, .int ow, .int gr, .int si, .int sd])), (kna, .inl (cB, l1, .inl c1)), (kke, .inl (cB, 11, .inl c2)), (kta, .inl (cB, l3, .inl c3))] : va_W) ++ (PL (NC cB na ng nn nf) cm)) := hD
    try dsimp only at hp_r10
    obtain ⟨hr_11, hv_12, hb_13⟩ := hp_r10
    refine lv_if_eq (tgt := 50) hx hb d_Tree_add_44 (by decide) (fun h_9 => ?_) (fun h_9 => ?_)
    · skip
      have g44_24 : r10.toInt = 0 := (i_eq rfl (by decide)).mp h_9
      refine lv_aload_n hx hb d_Tree_add_50 rfl (lv_at hl 0 rfl) ?_
      refine lv_aload_n hx hb d_Tree_add_51 rfl (lv_at hl 2 rfl) ?_
      have hPc := hP.sub (ws' := [(h0, .inr (5, [.int so, .ref kna, .ref kke, .ref kta, .int cn, .int x, .int v6, .int mo, .int ow, .int gr, .int si, .int sd])), (kna, .inl (cB, l1, .inl c1)), (kke, .inl (cB, 11, .inl c2))]) [2, 3, 4] rfl
      have hDc := hD.sub (ws' := [(h0, .inr (5, [.int so, .ref kna, .ref kke, .ref kta, .int cn, .int x, .int v6, .int mo, .int ow, .int gr, .int si, .int sd])), (kna, .inl (cB, l1, .inl c1)), (kke, .inl (cB, 11, .inl c2))]) [2, 3, 4] (by decide +kernel) rfl
      have hFc := va_free (wc := [(h0, .inr (5, [.int so, .ref kna, .ref kke, .ref kta, .int cn, .int x, .int v6, .int mo, .int ow, .int gr, .int si, .int sd])), (kna, .inl (cB, l1, .inl c1)), (kke, .inl (cB, 11, .inl c2))]) hD hS hA [2, 3, 4] rfl
      have hkc : 0 ≤ 0 := by decide
      have hks : 0 ≤ 0 := by decide
      refine va_callv (va_runV (C := "DiscMaker$Tree") (As := [.ref h0]) (rest := []) ⟨hx, hb, hml, hown, hts⟩ (c3_makeDifferent l D cB cI cJ cZ cN cF H.size tr ta cn dr na ng nn nf cm h0 kna kke kta so cn x v6 mo ow gr si sd l1 c1 c2 (by (try dsimp only); first | assumption | omega | trivial) (by (try dsimp only); first | assumption | omega | trivial) (by (try dsimp only); first | assumption | omega | trivial) (by (try dsimp only); first | assumption | omega | trivial) (by (try dsimp only); first | assumption | omega | trivial)) (cwV 1 hts (lg_goodV k831 k833 k5 k117 kc_Tree_makeDifferent) rfl rfl rfl (by decide +kernel) ⟨Nat.le_of_ble_eq_true rfl, Nat.le_of_ble_eq_true rfl⟩) ⟨fun a U g mk q => by obtain ⟨q0, q1, qP, qK, qN, qD, qZ0⟩ := q; exact ⟨q0, q1, qP, va_K.moved (u := U) (U := U.calling g mk a) (Vm.Alike.refl U.vm) qK, qN.calling, qD, RO_blind qZ0⟩, va_recv hK hP (ci := 10) (q0 := 0) rfl rfl, fun U hU hW => ⟨rfl, by rw [hU], by rw [hU]; exact hPc, va_K.moved hW.alike hK, NN.warm hW hN, hDc.weaken (fun _ _ _ _ => trivial), (RO_app (w1 := [(tr, .inr (10, [.ref ta, .int cn, .int dr]))]) (w2 := (([(ta, .inl (cN, 40, .inr (.inr (.inr (.inr (rowF na cm))))))] : va_W) ++ (PL (NC cB na ng nn nf) cm))) (RO_mut hP hD [2, 3, 4] rfl 0 rfl (by decide) hU) (RO_app (w1 := [(ta, .inl (cN, 40, .inr (.inr (.inr (.inr (rowF na cm))))))]) (w2 := (PL (NC cB na ng nn nf) cm)) (RO_mut hP hD [2, 3, 4] rfl 1 rfl (by decide) hU) (RO_pool (X := [(tr, .inr (10, [.ref ta, .int cn, .int dr])), (ta, .inl (cN, 40, .inr (.inr (.inr (.inr (rowF na cm)))))), (h0, .inr (5, [.int so, .ref kna, .ref kke, .ref kta, .int cn, .int x, .int v6, .int mo, .int ow, .int gr, .int si, .int sd])), (kna, .inl (cB, l1, .inl c1)), (kke, .inl (cB, 11, .inl c2)), (kta, .inl (cB, l3, .inl c3))]) hP hD [2, 3, 4] rfl hU)))⟩⟩ rfl rfl hl.1 rfl (lv_room (Nat.le_of_ble_eq_true rfl)) d_Tree_add_52 ⟨hkc, hks⟩) hS (fun q _ h => hFc q h) hFc (fun u t H1 locs ht hvm hp_r14 hB hz1 hk1 hS => ?_)
      obtain ⟨g_15, rfl⟩ : ∃ z, z = u := ⟨_, rfl⟩
      obtain ⟨hP1, hD1⟩ := hB
      rw [ht] at hP1
      obtain ⟨hP, hD⟩ := va_joinQ (X := [(tr, .inr (10, [.ref ta, .int cn, .int dr])), (ta, .inl (cN, 40, .inr (.inr (.inr (.inr (rowF na cm)))))), (h0, .inr (5, [.int so, .ref kna, .ref kke, .ref kta, .int cn, .int x, .int v6, .int mo, .int ow, .int gr, .int si, .int sd])), (kna, .inl (cB, l1, .inl c1)), (kke, .inl (cB, 11, .inl c2)), (kta, .inl (cB, l3, .inl c3))]) (cx := [(h0, .inr (5, [.int so, .ref kna, .ref kke, .ref kta, .int cn, .int x, .int v6, .int mo, .int ow, .int gr, .int si, .int sd])), (kna, .inl (cB, l1, .inl c1)), (kke, .inl (cB, 11, .inl c2))]) (wr := [(tr, .inr (10, [.ref ta, .int cn, .int dr])), (ta, .inl (cN, 40, .inr (.inr (.inr (.inr (rowF na cm)))))), (kta, .inl (cB, l3, .inl c3))]) (w1 := [(h0, .inr (5, [.int so, .ref kna, .ref kke, .ref kta, .int cn, .int x, .int v6, .int mo, .int ow, .int gr, .int si, .int sd])), (kna, .inl (cB, l1, .inl c1)), (kke, .inl (cB, 11, .inl g_15))]) hP hD [2, 3, 4] [0, 1, 5] rfl rfl (by decide +kernel) (by decide +kernel) hk1 hFc hP1 hD1
      clear hPc hDc hFc hP1 hD1 hk1 hz1 hkc hks
      generalize H1 = H at hP hS ⊢
      have hP : va_P D CL (([(tr, .inr (10, [.ref ta, .int cn, .int dr])), (ta, .inl (cN, 40, .inr (.inr (.inr (.inr (rowF na cm)))))), (kta, .inl (cB, l3, .inl c3)), (h0, .inr (5, [.int so, .ref kna, .ref kke, .ref kta, .int cn, .int x, .int v6, .int mo, .int ow, .int gr, .int si, .int sd])), (kna, .inl (cB, l1, .inl c1)), (kke, .inl (cB, 11, .inl g_15))] : va_W) ++ (PL (NC cB na ng nn nf) cm)) H := hP
      have hD : va_D A (([(tr, .inr (10, [.ref ta, .int cn, .int dr])), (ta, .inl (cN, 40, .inr (.inr (.inr (.inr (rowF na cm)))))), (kta, .inl (cB, l3, .inl c3)), (h0, .inr (5, [.int so, .ref kna, .ref kke, .ref kta, .int cn, .int x, .int v6, .int mo, .int ow, .int gr, .int si, .int sd])), (kna, .inl (cB, l1, .inl c1)), (kke, .inl (cB, 11, .inl g_15))] : va_W) ++ (PL (NC cB na ng nn nf) cm)) := hD
      refine lv_aload_n hx hb d_Tree_add_55 rfl (lv_at hl 0 rfl) ?_
      refine va_get (D := D) (ci := 10) (v := .ref ta) (C := "DiscMaker$Tree") (T := F_Tree) (N := 3) hx hb ht9 in_Tree hown hK hP 0 rfl rfl 0 (by decide) (ht9 _ k235) (fun _ h9 => h9) rfl d_Tree_add_56 ?_
      refine lv_aload_n hx hb d_Tree_add_59 rfl (lv_at hl 0 rfl) ?_
      refine va_get (D := D) (ci := 10) (v := .int cn) (C := "DiscMaker$Tree") (T := F_Tree) (N := 3) hx hb ht9 in_Tree hown hK hP 0 rfl rfl 1 (by decide) (ht9 _ k239) (fun _ h9 => h9) rfl d_Tree_add_60 ?_
      refine lv_aload_n hx hb d_Tree_add_63 rfl (lv_at hl 2 rfl) ?_
      refine va_astq hx hb hK hP hD hS 1 4 3 5 rfl rfl rfl rfl (vp_in_iff.mpr ⟨by omega, by omega⟩) d_Tree_add_64 (fun H locs hP hD hS => ?_)
      have hP : va_P D CL (([(tr, .inr (10, [.ref ta, .int cn, .int dr])), (ta, .inl (cN, 40, .inr (.inr (.inr (.inr (va_up (rowF na cm) cn.toNatClampNeg (some h0))))))), (kta, .inl (cB, l3, .inl c3)), (h0, .inr (5, [.int so, .ref kna, .ref kke, .ref kta, .int cn, .int x, .int v6, .int mo, .int ow, .int gr, .int si, .int sd])), (kna, .inl (cB, l1, .inl c1)), (kke, .inl (cB, 11, .inl g_15))] : va_W) ++ (PL (NC cB na ng nn nf) cm)) H := hP
      have hD : va_D A (([(tr, .inr (10, [.ref ta, .int cn, .int dr])), (ta, .inl (cN, 40, .inr (.inr (.inr (.inr (va_up (rowF na cm) cn.toNatClampNeg (some h0))))))), (kta, .inl (cB, l3, .inl c3)), (h0, .inr (5, [.int so, .ref kna, .ref kke, .ref kta, .int cn, .int x, .int v6, .int mo, .int ow, .int gr, .int si, .int sd])), (kna, .inl (cB, l1, .inl c1)), (kke, .inl (cB, 11, .inl g_15))] : va_W) ++ (PL (NC cB na ng nn nf) cm)) := hD
      refine lv_aload_n hx hb d_Tree_add_65 rfl (lv_at hl 0 rfl) ?_
      refine lv_dup hx hb d_Tree_add_66 rfl ?_
      refine va_get (D := D) (ci := 10) (v := .int cn) (C := "DiscMaker$Tree") (T := F_Tree) (N := 3) hx hb ht9 in_Tree hown hK hP 0 rfl rfl 1 (by decide) (ht9 _ k239) (fun _ h9 => h9) rfl d_Tree_add_67 ?_
      refine lv_iconst (v := 1) hx hb d_Tree_add_70 (by decide) ?_
      refine lv_iadd hx hb d_Tree_add_71 ?_
      refine lv_topi (fun v16 e_v16 => ?_)
      have t_v16 : v16.toInt = cn.toInt + 1 := by rw [e_v16]; exact i_add rfl (by decide) (by omega) (by omega)
      refine va_put (D := D) (ci := 10) (v := .int v16) (ty := .int) (C := "DiscMaker$Tree") (T := F_Tree) (N := 3) hx hb ht9 in_Tree t_Tree t_Tree_ok n_Tree hown hK hP hD hS 0 rfl rfl 1 (by decide) (ht9 _ k239) (fun _ h9 => h9) rfl (by decide +kernel) rfl rfl (Nat.le_of_ble_eq_true rfl) d_Tree_add_72 (fun H locs hP hD hS => ?_)
      have hP : va_P D CL (([(tr, .inr (10, [.ref ta, .int v16, .int dr])), (ta, .inl (cN, 40, .inr (.inr (.inr (.inr (va_up (rowF na cm) cn.toNatClampNeg (some h0))))))), (kta, .inl (cB, l3, .inl c3)), (h0, .inr (5, [.int so, .ref kna, .ref kke, .ref kta, .int cn, .int x, .int v6, .int mo, .int ow, .int gr, .int si, .int sd])), (kna, .inl (cB, l1, .inl c1)), (kke, .inl (cB, 11, .inl g_15))] : va_W) ++ (PL (NC cB na ng nn nf) cm)) H := hP
      have hD : va_D A (([(tr, .inr (10, [.ref ta, .int v16, .int dr])), (ta, .inl (cN, 40, .inr (.inr (.inr (.inr (va_up (rowF na cm) cn.toNatClampNeg (some h0))))))), (kta, .inl (cB, l3, .inl c3)), (h0, .inr (5, [.int so, .ref kna, .ref kke, .ref kta, .int cn, .int x, .int v6, .int mo, .int ow, .int gr, .int si, .int sd])), (kna, .inl (cB, l1, .inl c1)), (kke, .inl (cB, 11, .inl g_15))] : va_W) ++ (PL (NC cB na ng nn nf) cm)) := hD
      refine lv_aload_n hx hb d_Tree_add_75 rfl (lv_at hl 0 rfl) ?_
      refine lv_dup hx hb d_Tree_add_76 rfl ?_
      refine va_get (D := D) (ci := 10) (v := .int dr) (C := "DiscMaker$Tree") (T := F_Tree) (N := 3) hx hb ht9 in_Tree hown hK hP 0 rfl rfl 2 (by decide) (ht9 _ k242) (fun _ h9 => h9) rfl d_Tree_add_77 ?_
      refine lv_aload_n hx hb d_Tree_add_80 rfl (lv_at hl 2 rfl) ?_
      refine va_getN (D := D) (ci := 5) (v := .int so) (C := "DiscMaker$Node") (T := F_Node) (N := 12) hx hb ht9 in_Node hown hK hP 3 rfl rfl 0 (by decide) (va_Nw.use rfl (hN _ k180)) (fun _ h9 => h9) rfl d_Tree_add_81 ?_
      refine zz_labM (B := fun (lk : Nat) (K : Heap → List Loc → Array Slot → List Value → Prop) => ∀ (ic : Int32) (H : Heap) (locs : List Loc) (ls : Array Slot), lk = 0 → (0 ≤ ic.toInt ∧ ic.toInt ≤ 1) → ((so.toInt = 0 ∧ ic.toInt = 1) ∨ (so.toInt ≠ 0 ∧ ic.toInt = 0)) → va_P D CL (([(tr, .inr (10, [.ref ta, .int v16, .int dr])), (ta, .inl (cN, 40, .inr (.inr (.inr (.inr (va_up (rowF na cm) cn.toNatClampNeg (some h0))))))), (kta, .inl (cB, l3, .inl c3)), (h0, .inr (5, [.int so, .ref kna, .ref kke, .ref kta, .int cn, .int x, .int v6, .int mo, .int ow, .int gr, .int si, .int sd])), (kna, .inl (cB, l1, .inl c1)), (kke, .inl (cB, 11, .inl g_15))] : va_W) ++ (PL (NC cB na ng nn nf) cm)) H → va_D A (([(tr, .inr (10, [.ref ta, .int v16, .int dr])), (ta, .inl (cN, 40, .inr (.inr (.inr (.inr (va_up (rowF na cm) cn.toNatClampNeg (some h0))))))), (kta, .inl (cB, l3, .inl c3)), (h0, .inr (5, [.int so, .ref kna, .ref kke, .ref kta, .int cn, .int x, .int v6, .int mo, .int ow, .int gr, .int si, .int sd])), (kna, .inl (cB, l1, .inl c1)), (kke, .inl (cB, 11, .inl g_15))] : va_W) ++ (PL (NC cB na ng nn nf) cm)) → va_S A s.heap H locs → lv_has ls 3 [(0, .ref tr), (1, .int x), (2, .ref h0)] → K H locs ls [.int ic, .int dr, .ref tr]) 92 ?_ ?_
      · skip
        intro lk ih92 ic H locs ls hm92 e9 e10 hP hD hS hl
        refine lv_iadd hx hb d_Tree_add_92 ?_
        refine lv_topi (fun v17 e_v17 => ?_)
        have t_v17 : v17.toInt = dr.toInt + ic.toInt := by rw [e_v17]; exact i_add rfl rfl (by omega) (by omega)
        refine va_put (D := D) (ci := 10) (v := .int v17) (ty := .int) (C := "DiscMaker$Tree") (T := F_Tree) (N := 3) hx hb ht9 in_Tree t_Tree t_Tree_ok n_Tree hown hK hP hD hS 0 rfl rfl 2 (by decide) (ht9 _ k242) (fun _ h9 => h9) rfl (by decide +kernel) rfl rfl (Nat.le_of_ble_eq_true rfl) d_Tree_add_93 (fun H locs hP hD hS => ?_)
        have hP : va_P D CL (([(tr, .inr (10, [.ref ta, .int v16, .int v17])), (ta, .inl (cN, 40, .inr (.inr (.inr (.inr (va_up (rowF na cm) cn.toNatClampNeg (some h0))))))), (kta, .inl (cB, l3, .inl c3)), (h0, .inr (5, [.int so, .ref kna, .ref kke, .ref kta, .int cn, .int x, .int v6, .int mo, .int ow, .int gr, .int si, .int sd])), (kna, .inl (cB, l1, .inl c1)), (kke, .inl (cB, 11, .inl g_15))] : va_W) ++ (PL (NC cB na ng nn nf) cm)) H := hP
        have hD : va_D A (([(tr, .inr (10, [.ref ta, .int v16, .int v17])), (ta, .inl (cN, 40, .inr (.inr (.inr (.inr (va_up (rowF na cm) cn.toNatClampNeg (some h0))))))), (kta, .inl (cB, l3, .inl c3)), (h0, .inr (5, [.int so, .ref kna, .ref kke, .ref kta, .int cn, .int x, .int v6, .int mo, .int ow, .int gr, .int si, .int sd])), (kna, .inl (cB, l1, .inl c1)), (kke, .inl (cB, 11, .inl g_15))] : va_W) ++ (PL (NC cB na ng nn nf) cm)) := hD
        refine lv_aload_n hx hb d_Tree_add_96 rfl (lv_at hl 2 rfl) ?_
        refine va_getN (D := D) (ci := 5) (v := .int cn) (C := "DiscMaker$Node") (T := F_Node) (N := 12) hx hb ht9 in_Node hown hK hP 3 rfl rfl 4 (by decide) (va_Nw.use rfl (hN _ k194)) (fun _ h9 => h9) rfl d_Tree_add_97 ?_
        have hnf9 := hb_13.f (by omega)
        have hP := hP.part (X := [(tr, .inr (10, [.ref ta, .int v16, .int v17])), (ta, .inl (cN, 40, .inr (.inr (.inr (.inr (va_up (rowF na cm) cn.toNatClampNeg (some h0))))))), (kta, .inl (cB, l3, .inl c3)), (h0, .inr (5, [.int so, .ref kna, .ref kke, .ref kta, .int cn, .int x, .int v6, .int mo, .int ow, .int gr, .int si, .int sd])), (kna, .inl (cB, l1, .inl c1)), (kke, .inl (cB, 11, .inl g_15))]) (cx := [(tr, .inr (10, [.ref ta, .int v16, .int v17])), (ta, .inl (cN, 40, .inr (.inr (.inr (.inr (va_up (rowF na cm) cn.toNatClampNeg (some h0))))))), (h0, .inr (5, [.int so, .ref kna, .ref kke, .ref kta, .int cn, .int x, .int v6, .int mo, .int ow, .int gr, .int si, .int sd])), (kna, .inl (cB, l1, .inl c1)), (kke, .inl (cB, 11, .inl g_15)), (kta, .inl (cB, l3, .inl c3))]) [0, 1, 3, 4, 5, 2] rfl
        have hD := hD.part (X := [(tr, .inr (10, [.ref ta, .int v16, .int v17])), (ta, .inl (cN, 40, .inr (.inr (.inr (.inr (va_up (rowF na cm) cn.toNatClampNeg (some h0))))))), (kta, .inl (cB, l3, .inl c3)), (h0, .inr (5, [.int so, .ref kna, .ref kke, .ref kta, .int cn, .int x, .int v6, .int mo, .int ow, .int gr, .int si, .int sd])), (kna, .inl (cB, l1, .inl c1)), (kke, .inl (cB, 11, .inl g_15))]) (cx := [(tr, .inr (10, [.ref ta, .int v16, .int v17])), (ta, .inl (cN, 40, .inr (.inr (.inr (.inr (va_up (rowF na cm) cn.toNatClampNeg (some h0))))))), (h0, .inr (5, [.int so, .ref kna, .ref kke, .ref kta, .int cn, .int x, .int v6, .int mo, .int ow, .int gr, .int si, .int sd])), (kna, .inl (cB, l1, .inl c1)), (kke, .inl (cB, 11, .inl g_15)), (kta, .inl (cB, l3, .inl c3))]) [0, 1, 3, 4, 5, 2] (by decide +kernel) rfl
        obtain ⟨na5, e_na5⟩ : ∃ z : Nat → Nat → Nat, z = upK na cm (ad4 h0 kna kke kta) := ⟨_, rfl⟩
        obtain ⟨ng5, e_ng5⟩ : ∃ z : Nat → Nat → Int32, z = upK ng cm (v9 so cn x v6 mo ow gr si sd) := ⟨_, rfl⟩
        obtain ⟨nn5, e_nn5⟩ : ∃ z : Nat → Nat → Nat, z = upK nn cm (ad4 0 l1 0 l3) := ⟨_, rfl⟩
        obtain ⟨nf5, e_nf5⟩ : ∃ z : Nat → Nat → Nat → Int32, z = upK nf cm (c123 c1 g_15 c3) := ⟨_, rfl⟩
        have hrw : va_up (rowF na cm) cn.toNatClampNeg (some h0) = rowF na5 (cm + 1) := rowF_push (by have := i_cl (a := cn) (by omega); omega) (by rw [e_na5, upK_at]) (by rw [e_na5, upK_at]; rfl)
        have hP : va_P D CL ((([(tr, .inr (10, [.ref ta, .int v16, .int v17])), (ta, .inl (cN, 40, .inr (.inr (.inr (.inr (rowF na5 (cm + 1)))))))] : va_W) ++ NC cB na5 ng5 nn5 nf5 cm) ++ PL (NC cB na ng nn nf) cm) H := by rw [show NC cB na5 ng5 nn5 nf5 cm = [(h0, .inr (5, [.int so, .ref kna, .ref kke, .ref kta, .int cn, .int x, .int v6, .int mo, .int ow, .int gr, .int si, .int sd])), (kna, .inl (cB, l1, .inl c1)), (kke, .inl (cB, 11, .inl g_15)), (kta, .inl (cB, l3, .inl c3))] from by unfold NC; rw [e_na5, e_ng5, e_nn5, e_nf5, upK_at, upK_at, upK_at, upK_at]; rfl, ← hrw]; exact hP
        have hD : va_D A ((([(tr, .inr (10, [.ref ta, .int v16, .int v17])), (ta, .inl (cN, 40, .inr (.inr (.inr (.inr (rowF na5 (cm + 1)))))))] : va_W) ++ NC cB na5 ng5 nn5 nf5 cm) ++ PL (NC cB na ng nn nf) cm) := by rw [show NC cB na5 ng5 nn5 nf5 cm = [(h0, .inr (5, [.int so, .ref kna, .ref kke, .ref kta, .int cn, .int x, .int v6, .int mo, .int ow, .int gr, .int si, .int sd])), (kna, .inl (cB, l1, .inl c1)), (kke, .inl (cB, 11, .inl g_15)), (kta, .inl (cB, l3, .inl c3))] from by unfold NC; rw [e_na5, e_ng5, e_nn5, e_nf5, upK_at, upK_at, upK_at, upK_at]; rfl, ← hrw]; exact hD
        obtain ⟨hP, hD⟩ := pl_push (X := [(tr, .inr (10, [.ref ta, .int v16, .int v17])), (ta, .inl (cN, 40, .inr (.inr (.inr (.inr (rowF na5 (cm + 1)))))))]) (C := NC cB na ng nn nf) (C' := NC cB na5 ng5 nn5 nf5) (m := cm) hP hD (fun j hj => NC_off e_na5 e_ng5 e_nn5 e_nf5 (by omega))
        have hP : va_P D CL (([(tr, .inr (10, [.ref ta, .int v16, .int v17])), (ta, .inl (cN, 40, .inr (.inr (.inr (.inr (rowF na5 (cm + 1)))))))] : va_W) ++ (PL (NC cB na5 ng5 nn5 nf5) (cm + 1))) H := hP
        have hD : va_D A (([(tr, .inr (10, [.ref ta, .int v16, .int v17])), (ta, .inl (cN, 40, .inr (.inr (.inr (.inr (rowF na5 (cm + 1)))))))] : va_W) ++ (PL (NC cB na5 ng5 nn5 nf5) (cm + 1))) := hD
        have hP9 := hP.part (X := [(tr, .inr (10, [.ref ta, .int v16, .int v17])), (ta, .inl (cN, 40, .inr (.inr (.inr (.inr (rowF na5 (cm + 1)))))))]) (cx := [(tr, .inr (10, [.ref ta, .int v16, .int v17])), (ta, .inl (cN, 40, .inr (.inr (.inr (.inr (rowF na5 (cm + 1)))))))]) [0, 1] rfl
        have hD9 := hD.part (X := [(tr, .inr (10, [.ref ta, .int v16, .int v17])), (ta, .inl (cN, 40, .inr (.inr (.inr (.inr (rowF na5 (cm + 1)))))))]) (cx := [(tr, .inr (10, [.ref ta, .int v16, .int v17])), (ta, .inl (cN, 40, .inr (.inr (.inr (.inr (rowF na5 (cm + 1)))))))]) [0, 1] (by decide +kernel) rfl
        exact W.iret (v := cn) hx hb hr (fun t ht hW => ⟨⟨cn, (na5, ng5, nn5, nf5, (cm + 1), v16, v17), rfl, ⟨(by (try dsimp only); first | assumption | omega | trivial), (TOK_push htok rfl e_ng5 e_nn5 (by simp only [v9_0, v9_1, v9_2, v9_7, ad4_1, ad4_3]; omega)), (by (try dsimp only); first | assumption | omega | trivial), (TOA_push htoa e_ng5 (by show (0 ≤ v6.toInt ∧ v6.toInt ≤ 8) ∧ (so.toInt = 0 → v6.toInt ≤ 7); omega)), (Or.inr ⟨hb_9.f (by omega), fun h8 => hnf9 (by unfold FulC at h8; omega), by omega, rfl, by omega, ⟨_, _, e_ng5, by omega⟩, ⟨_, e_nn5, rfl, rfl⟩, ⟨_, e_nf5, fun _ _ => rfl, fun _ _ => rfl⟩⟩)⟩, by rw [ht]; exact hP9, hD9⟩, hS.F ht⟩) hS.2.2 d_Tree_add_100
      · skip
        intro kk92
        refine lv_if_ne (tgt := 91) hx hb d_Tree_add_84 (by decide) (fun h_9 => ?_) (fun h_9 => ?_)
        · skip
          have g84_50 : ¬ so.toInt = 0 := fun h8 => h_9 ((i_eq rfl (by decide)).mpr h8)
          refine lv_iconst (v := 0) hx hb d_Tree_add_91 (by decide) ?_
          have hP := hP.part (X := [(tr, .inr (10, [.ref ta, .int v16, .int dr])), (ta, .inl (cN, 40, .inr (.inr (.inr (.inr (va_up (rowF na cm) cn.toNatClampNeg (some h0))))))), (kta, .inl (cB, l3, .inl c3)), (h0, .inr (5, [.int so, .ref kna, .ref kke, .ref kta, .int cn, .int x, .int v6, .int mo, .int ow, .int gr, .int si, .int sd])), (kna, .inl (cB, l1, .inl c1)), (kke, .inl (cB, 11, .inl g_15))]) (cx := [(tr, .inr (10, [.ref ta, .int v16, .int dr])), (ta, .inl (cN, 40, .inr (.inr (.inr (.inr (va_up (rowF na cm) cn.toNatClampNeg (some h0))))))), (kta, .inl (cB, l3, .inl c3)), (h0, .inr (5, [.int so, .ref kna, .ref kke, .ref kta, .int cn, .int x, .int v6, .int mo, .int ow, .int gr, .int si, .int sd])), (kna, .inl (cB, l1, .inl c1)), (kke, .inl (cB, 11, .inl g_15))]) [0, 1, 2, 3, 4, 5] rfl
          have hD := hD.part (X := [(tr, .inr (10, [.ref ta, .int v16, .int dr])), (ta, .inl (cN, 40, .inr (.inr (.inr (.inr (va_up (rowF na cm) cn.toNatClampNeg (some h0))))))), (kta, .inl (cB, l3, .inl c3)), (h0, .inr (5, [.int so, .ref kna, .ref kke, .ref kta, .int cn, .int x, .int v6, .int mo, .int ow, .int gr, .int si, .int sd])), (kna, .inl (cB, l1, .inl c1)), (kke, .inl (cB, 11, .inl g_15))]) (cx := [(tr, .inr (10, [.ref ta, .int v16, .int dr])), (ta, .inl (cN, 40, .inr (.inr (.inr (.inr (va_up (rowF na cm) cn.toNatClampNeg (some h0))))))), (kta, .inl (cB, l3, .inl c3)), (h0, .inr (5, [.int so, .ref kna, .ref kke, .ref kta, .int cn, .int x, .int v6, .int mo, .int ow, .int gr, .int si, .int sd])), (kna, .inl (cB, l1, .inl c1)), (kke, .inl (cB, 11, .inl g_15))]) [0, 1, 2, 3, 4, 5] (by decide +kernel) rfl
          have hl := lv_sub hl [0, 1, 2] rfl
          exact kk92 _ 0 _ _ _ rfl ((by (try dsimp only); first | assumption | omega | trivial)) ((by (try dsimp only); first | assumption | omega | trivial)) hP hD hS hl
        · skip
          have g84_50 : so.toInt = 0 := (i_eq rfl (by decide)).mp h_9
          refine lv_iconst (v := 1) hx hb d_Tree_add_87 (by decide) ?_
          refine lv_goto (tgt := 92) hx hb d_Tree_add_88 (by decide) ?_
          have hP := hP.part (X := [(tr, .inr (10, [.ref ta, .int v16, .int dr])), (ta, .inl (cN, 40, .inr (.inr (.inr (.inr (va_up (rowF na cm) cn.toNatClampNeg (some h0))))))), (kta, .inl (cB, l3, .inl c3)), (h0, .inr (5, [.int so, .ref kna, .ref kke, .ref kta, .int cn, .int x, .int v6, .int mo, .int ow, .int gr, .int si, .int sd])), (kna, .inl (cB, l1, .inl c1)), (kke, .inl (cB, 11, .inl g_15))]) (cx := [(tr, .inr (10, [.ref ta, .int v16, .int dr])), (ta, .inl (cN, 40, .inr (.inr (.inr (.inr (va_up (rowF na cm) cn.toNatClampNeg (some h0))))))), (kta, .inl (cB, l3, .inl c3)), (h0, .inr (5, [.int so, .ref kna, .ref kke, .ref kta, .int cn, .int x, .int v6, .int mo, .int ow, .int gr, .int si, .int sd])), (kna, .inl (cB, l1, .inl c1)), (kke, .inl (cB, 11, .inl g_15))]) [0, 1, 2, 3, 4, 5] rfl
          have hD := hD.part (X := [(tr, .inr (10, [.ref ta, .int v16, .int dr])), (ta, .inl (cN, 40, .inr (.inr (.inr (.inr (va_up (rowF na cm) cn.toNatClampNeg (some h0))))))), (kta, .inl (cB, l3, .inl c3)), (h0, .inr (5, [.int so, .ref kna, .ref kke, .ref kta, .int cn, .int x, .int v6, .int mo, .int ow, .int gr, .int si, .int sd])), (kna, .inl (cB, l1, .inl c1)), (kke, .inl (cB, 11, .inl g_15))]) (cx := [(tr, .inr (10, [.ref ta, .int v16, .int dr])), (ta, .inl (cN, 40, .inr (.inr (.inr (.inr (va_up (rowF na cm) cn.toNatClampNeg (some h0))))))), (kta, .inl (cB, l3, .inl c3)), (h0, .inr (5, [.int so, .ref kna, .ref kke, .ref kta, .int cn, .int x, .int v6, .int mo, .int ow, .int gr, .int si, .int sd])), (kna, .inl (cB, l1, .inl c1)), (kke, .inl (cB, 11, .inl g_15))]) [0, 1, 2, 3, 4, 5] (by decide +kernel) rfl
          have hl := lv_sub hl [0, 1, 2] rfl
          exact kk92 _ 1 _ _ _ rfl ((by (try dsimp only); first | assumption | omega | trivial)) ((by (try dsimp only); first | assumption | omega | trivial)) hP hD hS hl
    · skip
      have g44_24 : ¬ r10.toInt = 0 := fun h8 => h_9 ((i_eq rfl (by decide)).mpr h8)
      refine lv_bipush (v := (-3)) hx hb d_Tree_add_47 (by decide) ?_
      have hP9 := hP.part (X := [(tr, .inr (10, [.ref ta, .int cn, .int dr])), (ta, .inl (cN, 40, .inr (.inr (.inr (.inr (rowF na cm)))))), (h0, .inr (5, [.int so, .ref kna, .ref kke, .ref kta, .int cn, .int x, .int v6, .int mo, .int ow, .int gr, .int si, .int sd])), (kna, .inl (cB, l1, .inl c1)), (kke, .inl (cB, 11, .inl c2)), (kta, .inl (cB, l3, .inl c3))]) (cx := [(tr, .inr (10, [.ref ta, .int cn, .int dr])), (ta, .inl (cN, 40, .inr (.inr (.inr (.inr (rowF na cm))))))]) [0, 1] rfl
      have hD9 := hD.part (X := [(tr, .inr (10, [.ref ta, .int cn, .int dr])), (ta, .inl (cN, 40, .inr (.inr (.inr (.inr (rowF na cm)))))), (h0, .inr (5, [.int so, .ref kna, .ref kke, .ref kta, .int cn, .int x, .int v6, .int mo, .int ow, .int gr, .int si, .int sd])), (kna, .inl (cB, l1, .inl c1)), (kke, .inl (cB, 11, .inl c2)), (kta, .inl (cB, l3, .inl c3))]) (cx := [(tr, .inr (10, [.ref ta, .int cn, .int dr])), (ta, .inl (cN, 40, .inr (.inr (.inr (.inr (rowF na cm))))))]) [0, 1] (by decide +kernel) rfl
      exact W.iret (v := (-3)) hx hb hr (fun t ht hW => ⟨⟨(-3), (na, ng, nn, nf, cm, cn, dr), rfl, ⟨(by (try dsimp only); first | assumption | omega | trivial), htok, (by (try dsimp only); first | assumption | omega | trivial), htoa, (Or.inl ⟨Or.inr ⟨by decide, hb_9.f (by omega), by have h9 := hb_13.t (by omega); unfold FulC; omega⟩, rfl, rfl, rfl, rfl, rfl⟩)⟩, by rw [ht]; exact hP9, hD9⟩, hS.F ht⟩) hS.2.2 d_Tree_add_49
  · skip
    have g33_20 : ¬ r7.toInt = 0 := fun h8 => h_9 ((i_eq rfl (by decide)).mpr h8)
    refine lv_bipush (v := (-2)) hx hb d_Tree_add_36 (by decide) ?_
    have hP9 := hP.part (X := [(tr, .inr (10, [.ref ta, .int cn, .int dr])), (ta, .inl (cN, 40, .inr (.inr (.inr (.inr (rowF na cm)))))), (h0, .inr (5, [.int so, .ref kna, .ref kke, .ref kta, .int cn, .int x, .int v6, .int mo, .int ow, .int gr, .int si, .int sd])), (kna, .inl (cB, l1, .inl c1)), (kke, .inl (cB, 11, .inl c2)), (kta, .inl (cB, l3, .inl c3))]) (cx := [(tr, .inr (10, [.ref ta, .int cn, .int dr])), (ta, .inl (cN, 40, .inr (.inr (.inr (.inr (rowF na cm))))))]) [0, 1] rfl
    have hD9 := hD.part (X := [(tr, .inr (10, [.ref ta, .int cn, .int dr])), (ta, .inl (cN, 40, .inr (.inr (.inr (.inr (rowF na cm)))))), (h0, .inr (5, [.int so, .ref kna, .ref kke, .ref kta, .int cn, .int x, .int v6, .int mo, .int ow, .int gr, .int si, .int sd])), (kna, .inl (cB, l1, .inl c1)), (kke, .inl (cB, 11, .inl c2)), (kta, .inl (cB, l3, .inl c3))]) (cx := [(tr, .inr (10, [.ref ta, .int cn, .int dr])), (ta, .inl (cN, 40, .inr (.inr (.inr (.inr (rowF na cm))))))]) [0, 1] (by decide +kernel) rfl
    exact W.iret (v := (-2)) hx hb hr (fun t ht hW => ⟨⟨(-2), (na, ng, nn, nf, cm, cn, dr), rfl, ⟨(by (try dsimp only); first | assumption | omega | trivial), htok, (by (try dsimp only); first | assumption | omega | trivial), htoa, (Or.inl ⟨Or.inl ⟨by decide, hb_9.t (by omega)⟩, rfl, rfl, rfl, rfl, rfl⟩)⟩, by rw [ht]; exact hP9, hD9⟩, hS.F ht⟩) hS.2.2 d_Tree_add_38
